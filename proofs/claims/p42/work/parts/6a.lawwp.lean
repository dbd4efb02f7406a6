def J_L_law_85 (g : GG) (b L : Nat) (xs : Nat → Int32) (kM nM : Nat) (σ : Hs) (a1 : Nat) (v2 : Int32) (v3 : Int32) (v5 : Int32) (v6 : Int32) (v7 : Int32) : Prop := Fs g (SL b L xs g) (600000, 7302250, kM, nM) [(0, .ref b), (1, .ref a1), (2, .int v2), (3, .int v3), (5, .int v5), (6, .int v6), (7, .int v7)] [] 85 σ
def J_L_law_131 (g : GG) (b L : Nat) (xs : Nat → Int32) (kM nM : Nat) (σ : Hs) (a1 : Nat) (v2 : Int32) (v3 : Int32) (v6 : Int32) (v7 : Int32) : Prop := Fs g (SL b L xs g) (600000, 7302250, kM, nM) [(0, .ref b), (1, .ref a1), (2, .int v2), (3, .int v3), (6, .int v6), (7, .int v7)] [] 131 σ
def J_L_law_263 (g : GG) (b L : Nat) (xs : Nat → Int32) (kM nM : Nat) (σ : Hs) (a1 : Nat) (v2 : Int32) (v6 : Int32) (v7 : Int32) (a8 : Nat) (a9 : Nat) (a10 : Nat) (v11 : Int32) : Prop := Fs g (SL b L xs g) (600000, 7302250, kM, nM) [(0, .ref b), (1, .ref a1), (2, .int v2), (6, .int v6), (7, .int v7), (8, .ref a8), (9, .ref a9), (10, .ref a10), (11, .int v11)] [] 263 σ
def J_L_law_187 (g : GG) (b L : Nat) (xs : Nat → Int32) (kM nM : Nat) (σ : Hs) (a1 : Nat) (v2 : Int32) (v3 : Int32) (v6 : Int32) (v7 : Int32) (v8 : Int32) : Prop := Fs g (SL b L xs g) (600000, 7302250, kM, nM) [(0, .ref b), (1, .ref a1), (2, .int v2), (3, .int v3), (6, .int v6), (7, .int v7), (8, .int v8)] [] 187 σ
def J_L_law_608 (g : GG) (b L : Nat) (xs : Nat → Int32) (kM nM : Nat) (σ : Hs) (a1 : Nat) (v2 : Int32) (v6 : Int32) (v7 : Int32) (a8 : Nat) (a9 : Nat) (a10 : Nat) (a11 : Nat) (v12 : Int32) : Prop := Fs g (SL b L xs g) (600000, 7302250, kM, nM) [(0, .ref b), (1, .ref a1), (2, .int v2), (6, .int v6), (7, .int v7), (8, .ref a8), (9, .ref a9), (10, .ref a10), (11, .ref a11), (12, .int v12)] [] 608 σ
def J_L_law_336 (g : GG) (b L : Nat) (xs : Nat → Int32) (kM nM : Nat) (σ : Hs) (a1 : Nat) (v2 : Int32) (v6 : Int32) (v7 : Int32) (a8 : Nat) (a9 : Nat) (a10 : Nat) (v11 : Int32) (v12 : Int32) : Prop := Fs g (SL b L xs g) (600000, 7302250, kM, nM) [(0, .ref b), (1, .ref a1), (2, .int v2), (6, .int v6), (7, .int v7), (8, .ref a8), (9, .ref a9), (10, .ref a10), (11, .int v11), (12, .int v12)] [] 336 σ
def J_L_law_801 (g : GG) (b L : Nat) (xs : Nat → Int32) (kM nM : Nat) (σ : Hs) (a1 : Nat) (v6 : Int32) (v7 : Int32) (a9 : Nat) (a11 : Nat) (v12 : Int32) (v13 : Int32) (v14 : Int32) (v15 : Int32) (v16 : Int32) (a17 : Nat) (v18 : Int32) : Prop := Fs g (SL b L xs g) (600000, 7302250, kM, nM) [(1, .ref a1), (6, .int v6), (7, .int v7), (9, .ref a9), (11, .ref a11), (12, .int v12), (13, .int v13), (14, .int v14), (15, .int v15), (16, .int v16), (17, .ref a17), (18, .int v18)] [] 801 σ
def J_L_law_618 (g : GG) (b L : Nat) (xs : Nat → Int32) (kM nM : Nat) (σ : Hs) (a1 : Nat) (v2 : Int32) (v6 : Int32) (v7 : Int32) (a8 : Nat) (a9 : Nat) (a10 : Nat) (a11 : Nat) (v12 : Int32) (v13 : Int32) : Prop := Fs g (SL b L xs g) (600000, 7302250, kM, nM) [(0, .ref b), (1, .ref a1), (2, .int v2), (6, .int v6), (7, .int v7), (8, .ref a8), (9, .ref a9), (10, .ref a10), (11, .ref a11), (12, .int v12), (13, .int v13)] [] 618 σ
def J_L_law_346 (g : GG) (b L : Nat) (xs : Nat → Int32) (kM nM : Nat) (σ : Hs) (a1 : Nat) (v2 : Int32) (v6 : Int32) (v7 : Int32) (a8 : Nat) (a9 : Nat) (a10 : Nat) (v11 : Int32) (v12 : Int32) (v13 : Int32) : Prop := Fs g (SL b L xs g) (600000, 7302250, kM, nM) [(0, .ref b), (1, .ref a1), (2, .int v2), (6, .int v6), (7, .int v7), (8, .ref a8), (9, .ref a9), (10, .ref a10), (11, .int v11), (12, .int v12), (13, .int v13)] [] 346 σ
def J_L_law_1221 (g : GG) (b L : Nat) (xs : Nat → Int32) (kM nM : Nat) (σ : Hs) (a1 : Nat) (v6 : Int32) (v7 : Int32) (v13 : Int32) (v15 : Int32) (a17 : Nat) (v18 : Int32) (v19 : Int32) (v20 : Int32) : Prop := Fs g (SL b L xs g) (600000, 7302250, kM, nM) [(1, .ref a1), (6, .int v6), (7, .int v7), (13, .int v13), (15, .int v15), (17, .ref a17), (18, .int v18), (19, .int v19), (20, .int v20)] [] 1221 σ
def J_L_law_819 (g : GG) (b L : Nat) (xs : Nat → Int32) (kM nM : Nat) (σ : Hs) (a1 : Nat) (v6 : Int32) (v7 : Int32) (a9 : Nat) (a11 : Nat) (v12 : Int32) (v13 : Int32) (v14 : Int32) (v15 : Int32) (v16 : Int32) (a17 : Nat) (v18 : Int32) (v19 : Int32) (v20 : Int32) (v21 : Int32) : Prop := Fs g (SL b L xs g) (600000, 7302250, kM, nM) [(1, .ref a1), (6, .int v6), (7, .int v7), (9, .ref a9), (11, .ref a11), (12, .int v12), (13, .int v13), (14, .int v14), (15, .int v15), (16, .int v16), (17, .ref a17), (18, .int v18), (19, .int v19), (20, .int v20), (21, .int v21)] [] 819 σ
def J_L_law_629 (g : GG) (b L : Nat) (xs : Nat → Int32) (kM nM : Nat) (σ : Hs) (a1 : Nat) (v2 : Int32) (v6 : Int32) (v7 : Int32) (a8 : Nat) (a9 : Nat) (a10 : Nat) (a11 : Nat) (v12 : Int32) (v13 : Int32) (v14 : Int32) : Prop := Fs g (SL b L xs g) (600000, 7302250, kM, nM) [(0, .ref b), (1, .ref a1), (2, .int v2), (6, .int v6), (7, .int v7), (8, .ref a8), (9, .ref a9), (10, .ref a10), (11, .ref a11), (12, .int v12), (13, .int v13), (14, .int v14)] [] 629 σ
def J_L_law_373 (g : GG) (b L : Nat) (xs : Nat → Int32) (kM nM : Nat) (σ : Hs) (a1 : Nat) (v2 : Int32) (v6 : Int32) (v7 : Int32) (a8 : Nat) (a9 : Nat) (a10 : Nat) (v11 : Int32) (v12 : Int32) (v13 : Int32) (v14 : Int32) (v15 : Int32) : Prop := Fs g (SL b L xs g) (600000, 7302250, kM, nM) [(0, .ref b), (1, .ref a1), (2, .int v2), (6, .int v6), (7, .int v7), (8, .ref a8), (9, .ref a9), (10, .ref a10), (11, .int v11), (12, .int v12), (13, .int v13), (14, .int v14), (15, .int v15)] [] 373 σ
def J_L_law_1239 (g : GG) (b L : Nat) (xs : Nat → Int32) (kM nM : Nat) (σ : Hs) (a1 : Nat) (v6 : Int32) (v7 : Int32) (v13 : Int32) (v15 : Int32) (a17 : Nat) (v18 : Int32) (v19 : Int32) (v21 : Int32) (v22 : Int32) (v23 : Int32) : Prop := Fs g (SL b L xs g) (600000, 7302250, kM, nM) [(1, .ref a1), (6, .int v6), (7, .int v7), (13, .int v13), (15, .int v15), (17, .ref a17), (18, .int v18), (19, .int v19), (21, .int v21), (22, .int v22), (23, .int v23)] [] 1239 σ
def J_L_law_894 (g : GG) (b L : Nat) (xs : Nat → Int32) (kM nM : Nat) (σ : Hs) (a1 : Nat) (v6 : Int32) (v7 : Int32) (a9 : Nat) (a11 : Nat) (v12 : Int32) (v13 : Int32) (v14 : Int32) (v15 : Int32) (v16 : Int32) (a17 : Nat) (v18 : Int32) (v19 : Int32) (v20 : Int32) (v21 : Int32) : Prop := Fs g (SL b L xs g) (600000, 7302250, kM, nM) [(1, .ref a1), (6, .int v6), (7, .int v7), (9, .ref a9), (11, .ref a11), (12, .int v12), (13, .int v13), (14, .int v14), (15, .int v15), (16, .int v16), (17, .ref a17), (18, .int v18), (19, .int v19), (20, .int v20), (21, .int v21)] [] 894 σ
def J_L_law_855 (g : GG) (b L : Nat) (xs : Nat → Int32) (kM nM : Nat) (σ : Hs) (a1 : Nat) (v6 : Int32) (v7 : Int32) (a9 : Nat) (a11 : Nat) (v12 : Int32) (v13 : Int32) (v14 : Int32) (v15 : Int32) (v16 : Int32) (a17 : Nat) (v18 : Int32) (v20 : Int32) (v21 : Int32) (t0 : Int32) (t1 : Int32) : Prop := Fs g (SL b L xs g) (600000, 7302250, kM, nM) [(1, .ref a1), (6, .int v6), (7, .int v7), (9, .ref a9), (11, .ref a11), (12, .int v12), (13, .int v13), (14, .int v14), (15, .int v15), (16, .int v16), (17, .ref a17), (18, .int v18), (20, .int v20), (21, .int v21)] [.int t0, .int t1] 855 σ
def J_L_law_670 (g : GG) (b L : Nat) (xs : Nat → Int32) (kM nM : Nat) (σ : Hs) (a1 : Nat) (v2 : Int32) (v6 : Int32) (v7 : Int32) (a8 : Nat) (a9 : Nat) (a10 : Nat) (a11 : Nat) (v12 : Int32) (v13 : Int32) (v14 : Int32) (t0 : Int32) : Prop := Fs g (SL b L xs g) (600000, 7302250, kM, nM) [(0, .ref b), (1, .ref a1), (2, .int v2), (6, .int v6), (7, .int v7), (8, .ref a8), (9, .ref a9), (10, .ref a10), (11, .ref a11), (12, .int v12), (13, .int v13), (14, .int v14)] [.int t0] 670 σ
def J_L_law_511 (g : GG) (b L : Nat) (xs : Nat → Int32) (kM nM : Nat) (σ : Hs) (a1 : Nat) (v2 : Int32) (v6 : Int32) (v7 : Int32) (a8 : Nat) (a9 : Nat) (a10 : Nat) (v11 : Int32) (v12 : Int32) (v13 : Int32) (v14 : Int32) (t0 : Int32) : Prop := Fs g (SL b L xs g) (600000, 7302250, kM, nM) [(0, .ref b), (1, .ref a1), (2, .int v2), (6, .int v6), (7, .int v7), (8, .ref a8), (9, .ref a9), (10, .ref a10), (11, .int v11), (12, .int v12), (13, .int v13), (14, .int v14)] [.int t0] 511 σ
def J_L_law_404 (g : GG) (b L : Nat) (xs : Nat → Int32) (kM nM : Nat) (σ : Hs) (a1 : Nat) (v2 : Int32) (v6 : Int32) (v7 : Int32) (a8 : Nat) (a9 : Nat) (a10 : Nat) (v11 : Int32) (v12 : Int32) (v13 : Int32) (v15 : Int32) (t0 : Int32) : Prop := Fs g (SL b L xs g) (600000, 7302250, kM, nM) [(0, .ref b), (1, .ref a1), (2, .int v2), (6, .int v6), (7, .int v7), (8, .ref a8), (9, .ref a9), (10, .ref a10), (11, .int v11), (12, .int v12), (13, .int v13), (15, .int v15)] [.int t0] 404 σ
def J_L_law_1352 (g : GG) (b L : Nat) (xs : Nat → Int32) (kM nM : Nat) (σ : Hs) (a1 : Nat) (v6 : Int32) (v7 : Int32) (v13 : Int32) (v15 : Int32) (a17 : Nat) (v18 : Int32) (v19 : Int32) (v21 : Int32) (v22 : Int32) (t0 : Int32) : Prop := Fs g (SL b L xs g) (600000, 7302250, kM, nM) [(1, .ref a1), (6, .int v6), (7, .int v7), (13, .int v13), (15, .int v15), (17, .ref a17), (18, .int v18), (19, .int v19), (21, .int v21), (22, .int v22)] [.int t0] 1352 σ
def J_L_law_1261 (g : GG) (b L : Nat) (xs : Nat → Int32) (kM nM : Nat) (σ : Hs) (a1 : Nat) (v6 : Int32) (v7 : Int32) (v13 : Int32) (v15 : Int32) (a17 : Nat) (v18 : Int32) (v19 : Int32) (v21 : Int32) (v22 : Int32) (v23 : Int32) (v24 : Int32) (v25 : Int32) (v26 : Int32) : Prop := Fs g (SL b L xs g) (600000, 7302250, kM, nM) [(1, .ref a1), (6, .int v6), (7, .int v7), (13, .int v13), (15, .int v15), (17, .ref a17), (18, .int v18), (19, .int v19), (21, .int v21), (22, .int v22), (23, .int v23), (24, .int v24), (25, .int v25), (26, .int v26)] [] 1261 σ
def J_L_law_917 (g : GG) (b L : Nat) (xs : Nat → Int32) (kM nM : Nat) (σ : Hs) (a1 : Nat) (v6 : Int32) (v7 : Int32) (a9 : Nat) (a11 : Nat) (v12 : Int32) (v13 : Int32) (v14 : Int32) (v15 : Int32) (v16 : Int32) (a17 : Nat) (v18 : Int32) (v19 : Int32) (v20 : Int32) (v21 : Int32) (v22 : Int32) (v23 : Int32) (v24 : Int32) : Prop := Fs g (SL b L xs g) (600000, 7302250, kM, nM) [(1, .ref a1), (6, .int v6), (7, .int v7), (9, .ref a9), (11, .ref a11), (12, .int v12), (13, .int v13), (14, .int v14), (15, .int v15), (16, .int v16), (17, .ref a17), (18, .int v18), (19, .int v19), (20, .int v20), (21, .int v21), (22, .int v22), (23, .int v23), (24, .int v24)] [] 917 σ
def J_L_law_926 (g : GG) (b L : Nat) (xs : Nat → Int32) (kM nM : Nat) (σ : Hs) (a1 : Nat) (v6 : Int32) (v7 : Int32) (a9 : Nat) (a11 : Nat) (v12 : Int32) (v13 : Int32) (v14 : Int32) (v15 : Int32) (v16 : Int32) (a17 : Nat) (v18 : Int32) (v19 : Int32) (v20 : Int32) (v21 : Int32) (v22 : Int32) (v23 : Int32) (v24 : Int32) (v25 : Int32) : Prop := Fs g (SL b L xs g) (600000, 7302250, kM, nM) [(1, .ref a1), (6, .int v6), (7, .int v7), (9, .ref a9), (11, .ref a11), (12, .int v12), (13, .int v13), (14, .int v14), (15, .int v15), (16, .int v16), (17, .ref a17), (18, .int v18), (19, .int v19), (20, .int v20), (21, .int v21), (22, .int v22), (23, .int v23), (24, .int v24), (25, .int v25)] [] 926 σ
def J_L_law_937 (g : GG) (b L : Nat) (xs : Nat → Int32) (kM nM : Nat) (σ : Hs) (a1 : Nat) (v6 : Int32) (v7 : Int32) (a9 : Nat) (a11 : Nat) (v12 : Int32) (v13 : Int32) (v14 : Int32) (v15 : Int32) (v16 : Int32) (a17 : Nat) (v18 : Int32) (v19 : Int32) (v20 : Int32) (v21 : Int32) (v22 : Int32) (v23 : Int32) (v24 : Int32) (v25 : Int32) (v26 : Int32) : Prop := Fs g (SL b L xs g) (600000, 7302250, kM, nM) [(1, .ref a1), (6, .int v6), (7, .int v7), (9, .ref a9), (11, .ref a11), (12, .int v12), (13, .int v13), (14, .int v14), (15, .int v15), (16, .int v16), (17, .ref a17), (18, .int v18), (19, .int v19), (20, .int v20), (21, .int v21), (22, .int v22), (23, .int v23), (24, .int v24), (25, .int v25), (26, .int v26)] [] 937 σ
def J_L_law_1010 (g : GG) (b L : Nat) (xs : Nat → Int32) (kM nM : Nat) (σ : Hs) (a1 : Nat) (v6 : Int32) (v7 : Int32) (a9 : Nat) (a11 : Nat) (v12 : Int32) (v13 : Int32) (v14 : Int32) (v15 : Int32) (v16 : Int32) (a17 : Nat) (v18 : Int32) (v19 : Int32) (v20 : Int32) (v21 : Int32) (v22 : Int32) (v23 : Int32) (v24 : Int32) (v25 : Int32) (v26 : Int32) (v27 : Int32) (t0 : Int32) (t1 : Int32) : Prop := Fs g (SL b L xs g) (600000, 7302250, kM, nM) [(1, .ref a1), (6, .int v6), (7, .int v7), (9, .ref a9), (11, .ref a11), (12, .int v12), (13, .int v13), (14, .int v14), (15, .int v15), (16, .int v16), (17, .ref a17), (18, .int v18), (19, .int v19), (20, .int v20), (21, .int v21), (22, .int v22), (23, .int v23), (24, .int v24), (25, .int v25), (26, .int v26), (27, .int v27)] [.int t0, .int t1] 1010 σ
set_option maxHeartbeats 4000000 in
set_option maxRecDepth 100000 in
theorem q_L_law {g : GG} {b L : Nat} {xs : Nat → Int32} {σ : Hs} (hL : L ≤ 260) (hW : ((0) + 1 ≤ 600000 ∧ (0) + 9 ≤ 7302250) ∧ NW σ 11 [.null, .null, .null, .null, .null, .null, .null, .int 0, .int 0] (fun r1 s2 => ∃ mc4 ms5 : Nat, ((1) + mc4 ≤ 600000 ∧ (9) + ms5 ≤ 7302250) ∧ Do g M_X11_init mc4 ms5 [.ref r1] s2 (kV (fun s3 => ((1 + mc4) ≤ 600000 ∧ (9 + ms5) ≤ 7302250) ∧ ((1 + mc4) ≤ 600000 ∧ (9 + ms5) ≤ 7302250) ∧ ((1 + mc4) ≤ 600000 ∧ (9 + ms5) ≤ 7302250) ∧ ((1 + mc4) ≤ 600000 ∧ (9 + ms5) ≤ 7302250) ∧ Rc s3 r1 11 ∧ Do g M_X11_wide 0 0 [.ref r1, .int (2 + ((cel L xs 0) - (cel L xs 0) / 7 * 7))] s3 (kI (fun i7 s6 => (¬ i7 = 4 → False) ∧ (i7 = 4 → ((1 + mc4) ≤ 600000 ∧ (9 + ms5) ≤ 7302250) ∧ ((1 + mc4) ≤ 600000 ∧ (9 + ms5) ≤ 7302250) ∧ Rc s6 r1 11 ∧ Do g M_X11_fill 0 0 [.ref r1, .int (cel L xs 3), .int (1 + ((cel L xs 2) - (cel L xs 2) / 24 * 24)), .int (2 + ((cel L xs 1) - (cel L xs 1) / 22 * 22))] s6 (kI (fun i11 s10 => (i11 = (1 + ((cel L xs 2) - (cel L xs 2) / 24 * 24)) → ((1 + mc4) ≤ 600000 ∧ (9 + ms5) ≤ 7302250) ∧ J_L_law_85 g b L xs (1 + mc4) (9 + ms5) s10 r1 ((2 + ((cel L xs 0) - (cel L xs 0) / 7 * 7))) ((2 + ((cel L xs 1) - (cel L xs 1) / 22 * 22))) (((cel L xs 4) - (cel L xs 4) / 4 * 4)) 0 0 ) ∧ (¬ i11 = (1 + ((cel L xs 2) - (cel L xs 2) / 24 * 24)) → False)))))))))) : Fs g (SL b L xs g) (600000, 7302250, 0, 0) [(0, .ref b)] [] 0 σ := by
  obtain ⟨hz, hW⟩ := hW
  refine fs_new (pc := 0) [.null, .null, .null, .null, .null, .null, .null, .int 0, .int 0] kc_X11 df_X11 ⟨w_835, w_836, w_31⟩ dL_law_0 hz (Z' := (600000, 7302250, 1, 9)) rfl hW (fun r1 s2 hW => ?_)
  refine fs_dup (pc := 3) rfl dL_law_3 ?_
  obtain ⟨mc4, ms5, hz, hW⟩ := hW
  refine fs_callI_Va (pc := 4) (As := []) (st := [.ref r1]) wd_X11_init w_838 ok_X11_init (by decide) rfl (Nat.le_of_ble_eq_true rfl) dL_law_4 hz (Z' := (600000, 7302250, 1 + mc4, 9 + ms5)) rfl rfl rfl hW (fun s3 hW => ?_)
  refine fs_astore_n (pc := 7) (lv' := [(1, .ref r1), (0, .ref b)]) rfl (by decide) rfl dL_law_7 ?_
  refine fs_iconst (pc := 8) 2 (by decide) dL_law_8 ?_
  refine fs_aload_n (pc := 9) 1 rfl rfl dL_law_9 ?_
  refine fs_iconst (pc := 10) 0 (by decide) dL_law_10 ?_
  obtain ⟨hz, hW⟩ := hW
  refine fs_cell (pc := 11) hL (by decide) hz (Nat.le_of_ble_eq_true rfl) dL_law_11 ?_
  refine fs_bipush (pc := 14) 7 (by decide) dL_law_14 ?_
  refine fs_irem (pc := 16) (by decide) dL_law_16 ?_
  refine fs_iadd (pc := 17) dL_law_17 ?_
  refine fs_istore_n (pc := 18) (lv' := [(2, .int (2 + ((cel L xs 0) - (cel L xs 0) / 7 * 7))), (1, .ref r1), (0, .ref b)]) rfl (by decide) rfl dL_law_18 ?_
  refine fs_iconst (pc := 19) 2 (by decide) dL_law_19 ?_
  refine fs_aload_n (pc := 20) 2 rfl rfl dL_law_20 ?_
  refine fs_iconst (pc := 21) 1 (by decide) dL_law_21 ?_
  obtain ⟨hz, hW⟩ := hW
  refine fs_cell (pc := 22) hL (by decide) hz (Nat.le_of_ble_eq_true rfl) dL_law_22 ?_
  refine fs_bipush (pc := 25) 22 (by decide) dL_law_25 ?_
  refine fs_irem (pc := 27) (by decide) dL_law_27 ?_
  refine fs_iadd (pc := 28) dL_law_28 ?_
  refine fs_istore_n (pc := 29) (lv' := [(3, .int (2 + ((cel L xs 1) - (cel L xs 1) / 22 * 22))), (2, .int (2 + ((cel L xs 0) - (cel L xs 0) / 7 * 7))), (1, .ref r1), (0, .ref b)]) rfl (by decide) rfl dL_law_29 ?_
  refine fs_iconst (pc := 30) 1 (by decide) dL_law_30 ?_
  refine fs_aload_n (pc := 31) 3 rfl rfl dL_law_31 ?_
  refine fs_iconst (pc := 32) 2 (by decide) dL_law_32 ?_
  obtain ⟨hz, hW⟩ := hW
  refine fs_cell (pc := 33) hL (by decide) hz (Nat.le_of_ble_eq_true rfl) dL_law_33 ?_
  refine fs_bipush (pc := 36) 24 (by decide) dL_law_36 ?_
  refine fs_irem (pc := 38) (by decide) dL_law_38 ?_
  refine fs_iadd (pc := 39) dL_law_39 ?_
  refine fs_istore (pc := 40) (lv' := [(4, .int (1 + ((cel L xs 2) - (cel L xs 2) / 24 * 24))), (3, .int (2 + ((cel L xs 1) - (cel L xs 1) / 22 * 22))), (2, .int (2 + ((cel L xs 0) - (cel L xs 0) / 7 * 7))), (1, .ref r1), (0, .ref b)]) (by decide) rfl dL_law_40 ?_
  refine fs_aload_n (pc := 42) 3 rfl rfl dL_law_42 ?_
  refine fs_iload_n (pc := 43) 2 rfl rfl dL_law_43 ?_
  obtain ⟨hz, hrc, hW⟩ := hW
  refine fs_callV_I (pc := 44) (As := [.int (2 + ((cel L xs 0) - (cel L xs 0) / 7 * 7))]) (st := []) wd_X11_wide w_840 ok_X11_wide (by decide) rfl (Nat.le_of_ble_eq_true rfl) dL_law_44 hz kc_X11 hrc hW (fun i7 s6 hW => ?_)
  refine fs_iconst (pc := 47) 4 (by decide) dL_law_47 ?_
  refine fs_icmp_ne (pc := 48) (tgt := 68) (by decide) dL_law_48 hW (fun hW => ?_) (fun hW => ?_)
  · refine fs_iconst (pc := 68) 0 (by decide) dL_law_68 ?_
    exact hW.elim
  · refine fs_aload_n (pc := 51) 3 rfl rfl dL_law_51 ?_
    refine fs_aload_n (pc := 52) 4 rfl rfl dL_law_52 ?_
    refine fs_iconst (pc := 53) 3 (by decide) dL_law_53 ?_
    obtain ⟨hz, hW⟩ := hW
    refine fs_cell (pc := 54) hL (by decide) hz (Nat.le_of_ble_eq_true rfl) dL_law_54 ?_
    refine fs_iload (pc := 57) 0 rfl dL_law_57 ?_
    refine fs_iload_n (pc := 59) 1 rfl rfl dL_law_59 ?_
    obtain ⟨hz, hrc, hW⟩ := hW
    refine fs_callV_I (pc := 60) (As := [.int (cel L xs 3), .int (1 + ((cel L xs 2) - (cel L xs 2) / 24 * 24)), .int (2 + ((cel L xs 1) - (cel L xs 1) / 22 * 22))]) (st := []) wd_X11_fill w_841 ok_X11_fill (by decide) rfl (Nat.le_of_ble_eq_true rfl) dL_law_60 hz kc_X11 hrc hW (fun i11 s10 hW => ?_)
    refine fs_iload (pc := 63) 0 rfl dL_law_63 ?_
    refine fs_icmp_eq (pc := 65) (tgt := 70) (by decide) dL_law_65 hW (fun hW => ?_) (fun hW => ?_)
    · refine fs_aload_n (pc := 70) 4 rfl rfl dL_law_70 ?_
      refine fs_iconst (pc := 71) 4 (by decide) dL_law_71 ?_
      obtain ⟨hz, hW⟩ := hW
      refine fs_cell (pc := 72) hL (by decide) hz (Nat.le_of_ble_eq_true rfl) dL_law_72 ?_
      refine fs_iconst (pc := 75) 4 (by decide) dL_law_75 ?_
      refine fs_irem (pc := 76) (by decide) dL_law_76 ?_
      refine fs_istore (pc := 77) (lv' := [(5, .int ((cel L xs 4) - (cel L xs 4) / 4 * 4)), (4, .int (1 + ((cel L xs 2) - (cel L xs 2) / 24 * 24))), (3, .int (2 + ((cel L xs 1) - (cel L xs 1) / 22 * 22))), (2, .int (2 + ((cel L xs 0) - (cel L xs 0) / 7 * 7))), (1, .ref r1), (0, .ref b)]) (by decide) rfl dL_law_77 ?_
      refine fs_iconst (pc := 79) 0 (by decide) dL_law_79 ?_
      refine fs_istore (pc := 80) (lv' := [(6, .int 0), (5, .int ((cel L xs 4) - (cel L xs 4) / 4 * 4)), (4, .int (1 + ((cel L xs 2) - (cel L xs 2) / 24 * 24))), (3, .int (2 + ((cel L xs 1) - (cel L xs 1) / 22 * 22))), (2, .int (2 + ((cel L xs 0) - (cel L xs 0) / 7 * 7))), (1, .ref r1), (0, .ref b)]) (by decide) rfl dL_law_80 ?_
      refine fs_iconst (pc := 82) 0 (by decide) dL_law_82 ?_
      refine fs_istore (pc := 83) (lv' := [(7, .int 0), (6, .int 0), (5, .int ((cel L xs 4) - (cel L xs 4) / 4 * 4)), (4, .int (1 + ((cel L xs 2) - (cel L xs 2) / 24 * 24))), (3, .int (2 + ((cel L xs 1) - (cel L xs 1) / 22 * 22))), (2, .int (2 + ((cel L xs 0) - (cel L xs 0) / 7 * 7))), (1, .ref r1), (0, .ref b)]) (by decide) rfl dL_law_83 ?_
      exact fs_sub [7, 6, 5, 4, 2, 1, 0] rfl hW
    · refine fs_iconst (pc := 68) 0 (by decide) dL_law_68 ?_
      exact hW.elim
set_option maxHeartbeats 4000000 in
set_option maxRecDepth 100000 in
theorem q_L_law_85 {g : GG} {b L : Nat} {xs : Nat → Int32} {σ : Hs} (kM nM : Nat) (a1 : Nat) (v2 : Int32) (v3 : Int32) (v5 : Int32) (v6 : Int32) (v7 : Int32) (hL : L ≤ 260) (hW : (v5 ≤ v7 → J_L_law_131 g b L xs kM nM σ a1 v2 v3 v6 0 ) ∧ (¬ v5 ≤ v7 → ((kM) ≤ 600000 ∧ (nM) ≤ 7302250) ∧ (¬ (5 + v7) < 0 ∧ ((kM) ≤ 600000 ∧ (nM) ≤ 7302250) ∧ Do g M_L_key 0 0 [.int (cel L xs ((5 + v7)))] σ (kI (fun i15 s14 => ∃ mc22 ms23 : Nat, ((kM) + mc22 ≤ 600000 ∧ (nM) + ms23 ≤ 7302250) ∧ Rc s14 a1 11 ∧ Do g M_X11_order mc22 ms23 [.ref a1, .int i15] s14 (kI (fun i19 s18 => (¬ i19 = v6 → J_L_law_85 g b L xs (kM + mc22) (nM + ms23) s18 a1 v2 v3 v5 ((v6 + 0)) ((v7 + 1)) ) ∧ (i19 = v6 → J_L_law_85 g b L xs (kM + mc22) (nM + ms23) s18 a1 v2 v3 v5 ((v6 + 1)) ((v7 + 1)) )))))))) : J_L_law_85 g b L xs kM nM σ a1 v2 v3 v5 v6 v7 := by
  show Fs g (SL b L xs g) (600000, 7302250, kM, nM) [(0, .ref b), (1, .ref a1), (2, .int v2), (3, .int v3), (5, .int v5), (6, .int v6), (7, .int v7)] [] 85 σ
  refine fs_iload (pc := 85) 6 rfl dL_law_85 ?_
  refine fs_iload (pc := 87) 4 rfl dL_law_87 ?_
  refine fs_icmp_ge (pc := 89) (tgt := 128) (by decide) dL_law_89 hW (fun hW => ?_) (fun hW => ?_)
  · refine fs_iconst (pc := 128) 0 (by decide) dL_law_128 ?_
    refine fs_istore (pc := 129) (lv' := [(7, .int 0), (0, .ref b), (1, .ref a1), (2, .int v2), (3, .int v3), (5, .int v5), (6, .int v6)]) (by decide) rfl dL_law_129 ?_
    exact fs_sub [1, 2, 3, 4, 6, 0] rfl hW
  · refine fs_iload (pc := 92) 5 rfl dL_law_92 ?_
    refine fs_aload_n (pc := 94) 1 rfl rfl dL_law_94 ?_
    refine fs_aload_n (pc := 95) 0 rfl rfl dL_law_95 ?_
    refine fs_iconst (pc := 96) 5 (by decide) dL_law_96 ?_
    refine fs_iload (pc := 97) 6 rfl dL_law_97 ?_
    refine fs_iadd (pc := 99) dL_law_99 ?_
    obtain ⟨hz, hk, hW⟩ := hW
    refine fs_cell (pc := 100) hL hk hz (Nat.le_of_ble_eq_true rfl) dL_law_100 ?_
    obtain ⟨hz, hW⟩ := hW
    refine fs_callS_I (pc := 103) (As := [.int (cel L xs ((5 + v7)))]) (st := [.ref a1, .int v6]) wd_L_key w_842 ok_L_key (by decide) rfl (Nat.le_of_ble_eq_true rfl) dL_law_103 hz hW (fun i15 s14 hW => ?_)
    obtain ⟨mc22, ms23, hz, hrc, hW⟩ := hW
    refine fs_callV_Ia (pc := 106) (As := [.int i15]) (st := [.int v6]) wd_X11_order w_843 ok_X11_order (by decide) rfl (Nat.le_of_ble_eq_true rfl) dL_law_106 hz (Z' := (600000, 7302250, kM + mc22, nM + ms23)) rfl kc_X11 hrc hW (fun i19 s18 hW => ?_)
    refine fs_iload (pc := 109) 5 rfl dL_law_109 ?_
    refine fs_icmp_ne (pc := 111) (tgt := 118) (by decide) dL_law_111 hW (fun hW => ?_) (fun hW => ?_)
    · refine fs_iconst (pc := 118) 0 (by decide) dL_law_118 ?_
      refine fs_iadd (pc := 119) dL_law_119 ?_
      refine fs_istore (pc := 120) (lv' := [(6, .int (v6 + 0)), (0, .ref b), (1, .ref a1), (2, .int v2), (3, .int v3), (5, .int v5), (7, .int v7)]) (by decide) rfl dL_law_120 ?_
      refine fs_iinc (pc := 122) (lv' := [(7, .int (v7 + 1)), (6, .int (v6 + 0)), (0, .ref b), (1, .ref a1), (2, .int v2), (3, .int v3), (5, .int v5)]) (v7 + 1) 6 rfl (congrArg (fun z => v7 + z) (by decide)) (by decide) rfl dL_law_122 ?_
      refine fs_goto (pc := 125) (tgt := 85) (by decide) dL_law_125 ?_
      exact fs_sub [2, 3, 4, 5, 6, 1, 0] rfl hW
    · refine fs_iconst (pc := 114) 1 (by decide) dL_law_114 ?_
      refine fs_goto (pc := 115) (tgt := 119) (by decide) dL_law_115 ?_
      refine fs_iadd (pc := 119) dL_law_119 ?_
      refine fs_istore (pc := 120) (lv' := [(6, .int (v6 + 1)), (0, .ref b), (1, .ref a1), (2, .int v2), (3, .int v3), (5, .int v5), (7, .int v7)]) (by decide) rfl dL_law_120 ?_
      refine fs_iinc (pc := 122) (lv' := [(7, .int (v7 + 1)), (6, .int (v6 + 1)), (0, .ref b), (1, .ref a1), (2, .int v2), (3, .int v3), (5, .int v5)]) (v7 + 1) 6 rfl (congrArg (fun z => v7 + z) (by decide)) (by decide) rfl dL_law_122 ?_
      refine fs_goto (pc := 125) (tgt := 85) (by decide) dL_law_125 ?_
      exact fs_sub [2, 3, 4, 5, 6, 1, 0] rfl hW
set_option maxHeartbeats 4000000 in
set_option maxRecDepth 100000 in
theorem q_L_law_131 {g : GG} {b L : Nat} {xs : Nat → Int32} {σ : Hs} (kM nM : Nat) (a1 : Nat) (v2 : Int32) (v3 : Int32) (v6 : Int32) (v7 : Int32) (hL : L ≤ 260) (hW : (6 ≤ v7 → ((kM) ≤ 600000 ∧ (nM) ≤ 7302250) ∧ ((kM) + 1 ≤ 600000 ∧ (nM) + 64 ≤ 7302250) ∧ NA g σ 0 64 ndef (fun r24 s25 => ((kM + 1) + 1 ≤ 600000 ∧ (nM + 64) + 4 ≤ 7302250) ∧ NA g s25 0 4 ndef (fun r26 s27 => ((kM + 1 + 1) + 1 ≤ 600000 ∧ (nM + 64 + 4) + 4 ≤ 7302250) ∧ NA g s27 0 4 ndef (fun r28 s29 => J_L_law_263 g b L xs (kM + 1 + 1 + 1) (nM + 64 + 4 + 4) s29 a1 v2 v6 ((1 + ((cel L xs 15) - (cel L xs 15) / 3 * 3))) r24 r26 r28 0 )))) ∧ (¬ 6 ≤ v7 → ((kM) ≤ 600000 ∧ (nM) ≤ 7302250) ∧ (¬ (9 + v7) < 0 ∧ ((kM) ≤ 600000 ∧ (nM) ≤ 7302250) ∧ Rc σ a1 11 ∧ Do g M_X11_get 0 0 [.ref a1, .int ((cel L xs ((9 + v7))) - (cel L xs ((9 + v7))) / 64 * 64), .int 0] σ (kI (fun i31 s30 => (i31 < 0 → J_L_law_187 g b L xs kM nM s30 a1 v2 v3 v6 v7 ((cel L xs ((9 + v7)))) ) ∧ (¬ i31 < 0 → (¬ (((cel L xs ((9 + v7))) / 64) - ((cel L xs ((9 + v7))) / 64) / 3 * 3) = 0 → J_L_law_187 g b L xs kM nM s30 a1 v2 v3 v6 v7 ((cel L xs ((9 + v7)))) ) ∧ ((((cel L xs ((9 + v7))) / 64) - ((cel L xs ((9 + v7))) / 64) / 3 * 3) = 0 → ((kM) ≤ 600000 ∧ (nM) ≤ 7302250) ∧ Rc s30 a1 11 ∧ Do g M_X11_drop 0 0 [.ref a1, .int ((cel L xs ((9 + v7))) - (cel L xs ((9 + v7))) / 64 * 64)] s30 (kI (fun i35 s34 => (0 ≤ i35 → J_L_law_131 g b L xs kM nM s34 a1 v2 v3 v6 ((v7 + 1)) ) ∧ (¬ 0 ≤ i35 → False)))))))))) : J_L_law_131 g b L xs kM nM σ a1 v2 v3 v6 v7 := by
  show Fs g (SL b L xs g) (600000, 7302250, kM, nM) [(0, .ref b), (1, .ref a1), (2, .int v2), (3, .int v3), (6, .int v6), (7, .int v7)] [] 131 σ
  refine fs_iload (pc := 131) 5 rfl dL_law_131 ?_
  refine fs_bipush (pc := 133) 6 (by decide) dL_law_133 ?_
  refine fs_icmp_ge (pc := 135) (tgt := 232) (by decide) dL_law_135 hW (fun hW => ?_) (fun hW => ?_)
  · refine fs_iconst (pc := 232) 1 (by decide) dL_law_232 ?_
    refine fs_aload_n (pc := 233) 0 rfl rfl dL_law_233 ?_
    refine fs_bipush (pc := 234) 15 (by decide) dL_law_234 ?_
    obtain ⟨hz, hW⟩ := hW
    refine fs_cell (pc := 236) hL (by decide) hz (Nat.le_of_ble_eq_true rfl) dL_law_236 ?_
    refine fs_iconst (pc := 239) 3 (by decide) dL_law_239 ?_
    refine fs_irem (pc := 240) (by decide) dL_law_240 ?_
    refine fs_iadd (pc := 241) dL_law_241 ?_
    refine fs_istore (pc := 242) (lv' := [(7, .int (1 + ((cel L xs 15) - (cel L xs 15) / 3 * 3))), (0, .ref b), (1, .ref a1), (2, .int v2), (3, .int v3), (6, .int v6)]) (by decide) rfl dL_law_242 ?_
    refine fs_bipush (pc := 244) 64 (by decide) dL_law_244 ?_
    obtain ⟨hz, hW⟩ := hW
    refine fs_newI (pc := 246) 0 .int (Or.inl ⟨rfl, rfl⟩) w_500 dL_law_246 (by decide) (by decide) hz (Z' := (600000, 7302250, kM + 1, nM + 64)) rfl hW (fun r24 s25 hW => ?_)
    refine fs_astore (pc := 248) (lv' := [(8, .ref r24), (7, .int (1 + ((cel L xs 15) - (cel L xs 15) / 3 * 3))), (0, .ref b), (1, .ref a1), (2, .int v2), (3, .int v3), (6, .int v6)]) (by decide) rfl dL_law_248 ?_
    refine fs_iconst (pc := 250) 4 (by decide) dL_law_250 ?_
    obtain ⟨hz, hW⟩ := hW
    refine fs_newI (pc := 251) 0 .int (Or.inl ⟨rfl, rfl⟩) w_500 dL_law_251 (by decide) (by decide) hz (Z' := (600000, 7302250, kM + 1 + 1, nM + 64 + 4)) rfl hW (fun r26 s27 hW => ?_)
    refine fs_astore (pc := 253) (lv' := [(9, .ref r26), (8, .ref r24), (7, .int (1 + ((cel L xs 15) - (cel L xs 15) / 3 * 3))), (0, .ref b), (1, .ref a1), (2, .int v2), (3, .int v3), (6, .int v6)]) (by decide) rfl dL_law_253 ?_
    refine fs_iconst (pc := 255) 4 (by decide) dL_law_255 ?_
    obtain ⟨hz, hW⟩ := hW
    refine fs_newI (pc := 256) 0 .int (Or.inl ⟨rfl, rfl⟩) w_500 dL_law_256 (by decide) (by decide) hz (Z' := (600000, 7302250, kM + 1 + 1 + 1, nM + 64 + 4 + 4)) rfl hW (fun r28 s29 hW => ?_)
    refine fs_astore (pc := 258) (lv' := [(10, .ref r28), (9, .ref r26), (8, .ref r24), (7, .int (1 + ((cel L xs 15) - (cel L xs 15) / 3 * 3))), (0, .ref b), (1, .ref a1), (2, .int v2), (3, .int v3), (6, .int v6)]) (by decide) rfl dL_law_258 ?_
    refine fs_iconst (pc := 260) 0 (by decide) dL_law_260 ?_
    refine fs_istore (pc := 261) (lv' := [(11, .int 0), (10, .ref r28), (9, .ref r26), (8, .ref r24), (7, .int (1 + ((cel L xs 15) - (cel L xs 15) / 3 * 3))), (0, .ref b), (1, .ref a1), (2, .int v2), (3, .int v3), (6, .int v6)]) (by decide) rfl dL_law_261 ?_
    exact fs_sub [5, 6, 7, 9, 4, 3, 2, 1, 0] rfl hW
  · refine fs_aload_n (pc := 138) 0 rfl rfl dL_law_138 ?_
    refine fs_bipush (pc := 139) 9 (by decide) dL_law_139 ?_
    refine fs_iload (pc := 141) 5 rfl dL_law_141 ?_
    refine fs_iadd (pc := 143) dL_law_143 ?_
    obtain ⟨hz, hk, hW⟩ := hW
    refine fs_cell (pc := 144) hL hk hz (Nat.le_of_ble_eq_true rfl) dL_law_144 ?_
    refine fs_istore (pc := 147) (lv' := [(8, .int (cel L xs ((9 + v7)))), (0, .ref b), (1, .ref a1), (2, .int v2), (3, .int v3), (6, .int v6), (7, .int v7)]) (by decide) rfl dL_law_147 ?_
    refine fs_iload (pc := 149) 0 rfl dL_law_149 ?_
    refine fs_bipush (pc := 151) 64 (by decide) dL_law_151 ?_
    refine fs_irem (pc := 153) (by decide) dL_law_153 ?_
    refine fs_istore (pc := 154) (lv' := [(9, .int ((cel L xs ((9 + v7))) - (cel L xs ((9 + v7))) / 64 * 64)), (8, .int (cel L xs ((9 + v7)))), (0, .ref b), (1, .ref a1), (2, .int v2), (3, .int v3), (6, .int v6), (7, .int v7)]) (by decide) rfl dL_law_154 ?_
    refine fs_aload_n (pc := 156) 3 rfl rfl dL_law_156 ?_
    refine fs_iload (pc := 157) 0 rfl dL_law_157 ?_
    refine fs_iconst (pc := 159) 0 (by decide) dL_law_159 ?_
    obtain ⟨hz, hrc, hW⟩ := hW
    refine fs_callV_I (pc := 160) (As := [.int ((cel L xs ((9 + v7))) - (cel L xs ((9 + v7))) / 64 * 64), .int 0]) (st := []) wd_X11_get w_736 ok_X11_get (by decide) rfl (Nat.le_of_ble_eq_true rfl) dL_law_160 hz kc_X11 hrc hW (fun i31 s30 hW => ?_)
    refine fs_if_lt (pc := 163) (tgt := 187) (by decide) dL_law_163 hW (fun hW => ?_) (fun hW => ?_)
    · exact fs_sub [2, 3, 4, 5, 6, 7, 1] rfl hW
    · refine fs_iload (pc := 166) 1 rfl dL_law_166 ?_
      refine fs_bipush (pc := 168) 64 (by decide) dL_law_168 ?_
      refine fs_idiv (pc := 170) (by decide) dL_law_170 ?_
      refine fs_iconst (pc := 171) 3 (by decide) dL_law_171 ?_
      refine fs_irem (pc := 172) (by decide) dL_law_172 ?_
      refine fs_if_ne (pc := 173) (tgt := 187) (by decide) dL_law_173 hW (fun hW => ?_) (fun hW => ?_)
      · exact fs_sub [2, 3, 4, 5, 6, 7, 1] rfl hW
      · refine fs_aload_n (pc := 176) 3 rfl rfl dL_law_176 ?_
        refine fs_iload (pc := 177) 0 rfl dL_law_177 ?_
        obtain ⟨hz, hrc, hW⟩ := hW
        refine fs_callV_I (pc := 179) (As := [.int ((cel L xs ((9 + v7))) - (cel L xs ((9 + v7))) / 64 * 64)]) (st := []) wd_X11_drop w_844 ok_X11_drop (by decide) rfl (Nat.le_of_ble_eq_true rfl) dL_law_179 hz kc_X11 hrc hW (fun i35 s34 hW => ?_)
        refine fs_if_ge (pc := 182) (tgt := 226) (by decide) dL_law_182 hW (fun hW => ?_) (fun hW => ?_)
        · refine fs_iinc (pc := 226) (lv' := [(7, .int (v7 + 1)), (9, .int ((cel L xs ((9 + v7))) - (cel L xs ((9 + v7))) / 64 * 64)), (8, .int (cel L xs ((9 + v7)))), (0, .ref b), (1, .ref a1), (2, .int v2), (3, .int v3), (6, .int v6)]) (v7 + 1) 7 rfl (congrArg (fun z => v7 + z) (by decide)) (by decide) rfl dL_law_226 ?_
          refine fs_goto (pc := 229) (tgt := 131) (by decide) dL_law_229 ?_
          exact fs_sub [3, 4, 5, 6, 7, 0] rfl hW
        · refine fs_iconst (pc := 185) 0 (by decide) dL_law_185 ?_
          exact hW.elim
set_option maxHeartbeats 4000000 in
set_option maxRecDepth 100000 in
theorem q_L_law_263 {g : GG} {b L : Nat} {xs : Nat → Int32} {σ : Hs} (kM nM : Nat) (a1 : Nat) (v2 : Int32) (v6 : Int32) (v7 : Int32) (a8 : Nat) (a9 : Nat) (a10 : Nat) (v11 : Int32) (hL : L ≤ 260) (hW : (v7 ≤ v11 → ((kM) + 1 ≤ 600000 ∧ (nM) + 64 ≤ 7302250) ∧ NA g σ 0 64 ndef (fun r38 s39 => J_L_law_608 g b L xs (kM + 1) (nM + 64) s39 a1 v2 v6 v7 a8 a9 a10 r38 0 )) ∧ (¬ v7 ≤ v11 → ((kM) ≤ 600000 ∧ (nM) ≤ 7302250) ∧ (¬ (16 + v11) < 0 ∧ SI g σ a9 0 v11 ((cel L xs ((16 + v11))) - (cel L xs ((16 + v11))) / 100 * 100) (fun s40 => ((kM) ≤ 600000 ∧ (nM) ≤ 7302250) ∧ (¬ (20 + v11) < 0 ∧ ((kM) ≤ 600000 ∧ (nM) ≤ 7302250) ∧ (¬ (24 + v11) < 0 ∧ ∃ mc45 ms46 : Nat, ((kM) + mc45 ≤ 600000 ∧ (nM) + ms46 ≤ 7302250) ∧ Do g M_L_ask mc45 ms46 [.ref a1, .int (cel L xs ((20 + v11))), .int (cel L xs ((24 + v11))), .int v11, .ref a8] s40 (kI (fun i42 s41 => (i42 = 0 → False) ∧ (¬ i42 = 0 → AI g s41 a9 0 v11 (fun i47 => ((kM + mc45) ≤ 600000 ∧ (nM + ms46) ≤ 7302250) ∧ Rc s41 a1 11 ∧ Do g M_X11_weight 0 0 [.ref a1, .int v11, .int i47] s41 (kI (fun i49 s48 => (i49 = 1 → J_L_law_336 g b L xs (kM + mc45) (nM + ms46) s48 a1 v2 v6 v7 a8 a9 a10 v11 0 ) ∧ (¬ i49 = 1 → False))))))))))))) : J_L_law_263 g b L xs kM nM σ a1 v2 v6 v7 a8 a9 a10 v11 := by
  show Fs g (SL b L xs g) (600000, 7302250, kM, nM) [(0, .ref b), (1, .ref a1), (2, .int v2), (6, .int v6), (7, .int v7), (8, .ref a8), (9, .ref a9), (10, .ref a10), (11, .int v11)] [] 263 σ
  refine fs_iload (pc := 263) 8 rfl dL_law_263 ?_
  refine fs_iload (pc := 265) 4 rfl dL_law_265 ?_
  refine fs_icmp_ge (pc := 267) (tgt := 599) (by decide) dL_law_267 hW (fun hW => ?_) (fun hW => ?_)
  · refine fs_bipush (pc := 599) 64 (by decide) dL_law_599 ?_
    obtain ⟨hz, hW⟩ := hW
    refine fs_newI (pc := 601) 0 .int (Or.inl ⟨rfl, rfl⟩) w_500 dL_law_601 (by decide) (by decide) hz (Z' := (600000, 7302250, kM + 1, nM + 64)) rfl hW (fun r38 s39 hW => ?_)
    refine fs_astore (pc := 603) (lv' := [(11, .ref r38), (0, .ref b), (1, .ref a1), (2, .int v2), (6, .int v6), (7, .int v7), (8, .ref a8), (9, .ref a9), (10, .ref a10)]) (by decide) rfl dL_law_603 ?_
    refine fs_iconst (pc := 605) 0 (by decide) dL_law_605 ?_
    refine fs_istore (pc := 606) (lv' := [(12, .int 0), (11, .ref r38), (0, .ref b), (1, .ref a1), (2, .int v2), (6, .int v6), (7, .int v7), (8, .ref a8), (9, .ref a9), (10, .ref a10)]) (by decide) rfl dL_law_606 ?_
    exact fs_sub [2, 3, 4, 5, 6, 7, 8, 9, 1, 0] rfl hW
  · refine fs_aload (pc := 270) 6 rfl dL_law_270 ?_
    refine fs_iload (pc := 272) 8 rfl dL_law_272 ?_
    refine fs_aload_n (pc := 274) 0 rfl rfl dL_law_274 ?_
    refine fs_bipush (pc := 275) 16 (by decide) dL_law_275 ?_
    refine fs_iload (pc := 277) 8 rfl dL_law_277 ?_
    refine fs_iadd (pc := 279) dL_law_279 ?_
    obtain ⟨hz, hk, hW⟩ := hW
    refine fs_cell (pc := 280) hL hk hz (Nat.le_of_ble_eq_true rfl) dL_law_280 ?_
    refine fs_bipush (pc := 283) 100 (by decide) dL_law_283 ?_
    refine fs_irem (pc := 285) (by decide) dL_law_285 ?_
    refine fs_iast (pc := 286) dL_law_286 hW (fun s40 hW => ?_)
    refine fs_aload_n (pc := 287) 1 rfl rfl dL_law_287 ?_
    refine fs_aload_n (pc := 288) 0 rfl rfl dL_law_288 ?_
    refine fs_bipush (pc := 289) 20 (by decide) dL_law_289 ?_
    refine fs_iload (pc := 291) 8 rfl dL_law_291 ?_
    refine fs_iadd (pc := 293) dL_law_293 ?_
    obtain ⟨hz, hk, hW⟩ := hW
    refine fs_cell (pc := 294) hL hk hz (Nat.le_of_ble_eq_true rfl) dL_law_294 ?_
    refine fs_aload_n (pc := 297) 0 rfl rfl dL_law_297 ?_
    refine fs_bipush (pc := 298) 24 (by decide) dL_law_298 ?_
    refine fs_iload (pc := 300) 8 rfl dL_law_300 ?_
    refine fs_iadd (pc := 302) dL_law_302 ?_
    obtain ⟨hz, hk, hW⟩ := hW
    refine fs_cell (pc := 303) hL hk hz (Nat.le_of_ble_eq_true rfl) dL_law_303 ?_
    refine fs_iload (pc := 306) 8 rfl dL_law_306 ?_
    refine fs_aload (pc := 308) 5 rfl dL_law_308 ?_
    obtain ⟨mc45, ms46, hz, hW⟩ := hW
    refine fs_callS_Ia (pc := 310) (As := [.ref a1, .int (cel L xs ((20 + v11))), .int (cel L xs ((24 + v11))), .int v11, .ref a8]) (st := []) wd_L_ask w_846 ok_L_ask (by decide) rfl (Nat.le_of_ble_eq_true rfl) dL_law_310 hz (Z' := (600000, 7302250, kM + mc45, nM + ms46)) rfl hW (fun i42 s41 hW => ?_)
    refine fs_if_eq (pc := 313) (tgt := 331) (by decide) dL_law_313 hW (fun hW => ?_) (fun hW => ?_)
    · refine fs_iconst (pc := 331) 0 (by decide) dL_law_331 ?_
      exact hW.elim
    · refine fs_aload_n (pc := 316) 1 rfl rfl dL_law_316 ?_
      refine fs_iload (pc := 317) 8 rfl dL_law_317 ?_
      refine fs_aload (pc := 319) 6 rfl dL_law_319 ?_
      refine fs_iload (pc := 321) 8 rfl dL_law_321 ?_
      refine fs_iald (pc := 323) dL_law_323 hW (fun i47 hW => ?_)
      obtain ⟨hz, hrc, hW⟩ := hW
      refine fs_callV_I (pc := 324) (As := [.int v11, .int i47]) (st := []) wd_X11_weight w_847 ok_X11_weight (by decide) rfl (Nat.le_of_ble_eq_true rfl) dL_law_324 hz kc_X11 hrc hW (fun i49 s48 hW => ?_)
      refine fs_iconst (pc := 327) 1 (by decide) dL_law_327 ?_
      refine fs_icmp_eq (pc := 328) (tgt := 333) (by decide) dL_law_328 hW (fun hW => ?_) (fun hW => ?_)
      · refine fs_iconst (pc := 333) 0 (by decide) dL_law_333 ?_
        refine fs_istore (pc := 334) (lv' := [(12, .int 0), (0, .ref b), (1, .ref a1), (2, .int v2), (6, .int v6), (7, .int v7), (8, .ref a8), (9, .ref a9), (10, .ref a10), (11, .int v11)]) (by decide) rfl dL_law_334 ?_
        exact fs_sub [1, 2, 3, 4, 5, 6, 7, 8, 9, 0] rfl hW
      · refine fs_iconst (pc := 331) 0 (by decide) dL_law_331 ?_
        exact hW.elim
set_option maxHeartbeats 4000000 in
set_option maxRecDepth 100000 in
theorem q_L_law_187 {g : GG} {b L : Nat} {xs : Nat → Int32} {σ : Hs} (kM nM : Nat) (a1 : Nat) (v2 : Int32) (v3 : Int32) (v6 : Int32) (v7 : Int32) (v8 : Int32) (hL : L ≤ 260) (hW : ¬ v3 = 0 ∧ ¬ v3 = 0 ∧ ¬ v3 = 0 ∧ ¬ v3 = 0 ∧ ((kM) ≤ 600000 ∧ (nM) ≤ 7302250) ∧ Rc σ a1 11 ∧ Do g M_X11_row 0 0 [.ref a1, .int ((v8 / 64) - (v8 / 64) / v3 * v3), .int ((v8 / 512) - (v8 / 512) / v3 * v3), .int ((v8 / 4096) - (v8 / 4096) / v3 * v3), .int ((v8 / 32768) - (v8 / 32768) / v3 * v3)] σ (kI (fun i53 s52 => (0 ≤ i53 → J_L_law_131 g b L xs kM nM s52 a1 v2 v3 v6 ((v7 + 1)) ) ∧ (¬ 0 ≤ i53 → False)))) : J_L_law_187 g b L xs kM nM σ a1 v2 v3 v6 v7 v8 := by
  show Fs g (SL b L xs g) (600000, 7302250, kM, nM) [(0, .ref b), (1, .ref a1), (2, .int v2), (3, .int v3), (6, .int v6), (7, .int v7), (8, .int v8)] [] 187 σ
  refine fs_aload_n (pc := 187) 1 rfl rfl dL_law_187 ?_
  refine fs_iload (pc := 188) 6 rfl dL_law_188 ?_
  refine fs_bipush (pc := 190) 64 (by decide) dL_law_190 ?_
  refine fs_idiv (pc := 192) (by decide) dL_law_192 ?_
  refine fs_iload_n (pc := 193) 3 rfl rfl dL_law_193 ?_
  obtain ⟨hne, hW⟩ := hW
  refine fs_irem (pc := 194) hne dL_law_194 ?_
  refine fs_iload (pc := 195) 6 rfl dL_law_195 ?_
  refine fs_sipush (pc := 197) 512 (by decide) dL_law_197 ?_
  refine fs_idiv (pc := 200) (by decide) dL_law_200 ?_
  refine fs_iload_n (pc := 201) 3 rfl rfl dL_law_201 ?_
  obtain ⟨hne, hW⟩ := hW
  refine fs_irem (pc := 202) hne dL_law_202 ?_
  refine fs_iload (pc := 203) 6 rfl dL_law_203 ?_
  refine fs_sipush (pc := 205) 4096 (by decide) dL_law_205 ?_
  refine fs_idiv (pc := 208) (by decide) dL_law_208 ?_
  refine fs_iload_n (pc := 209) 3 rfl rfl dL_law_209 ?_
  obtain ⟨hne, hW⟩ := hW
  refine fs_irem (pc := 210) hne dL_law_210 ?_
  refine fs_iload (pc := 211) 6 rfl dL_law_211 ?_
  refine fs_ldc (pc := 213) w_837 dL_law_213 ?_
  refine fs_idiv (pc := 215) (by decide) dL_law_215 ?_
  refine fs_iload_n (pc := 216) 3 rfl rfl dL_law_216 ?_
  obtain ⟨hne, hW⟩ := hW
  refine fs_irem (pc := 217) hne dL_law_217 ?_
  obtain ⟨hz, hrc, hW⟩ := hW
  refine fs_callV_I (pc := 218) (As := [.int ((v8 / 64) - (v8 / 64) / v3 * v3), .int ((v8 / 512) - (v8 / 512) / v3 * v3), .int ((v8 / 4096) - (v8 / 4096) / v3 * v3), .int ((v8 / 32768) - (v8 / 32768) / v3 * v3)]) (st := []) wd_X11_row w_845 ok_X11_row (by decide) rfl (Nat.le_of_ble_eq_true rfl) dL_law_218 hz kc_X11 hrc hW (fun i53 s52 hW => ?_)
  refine fs_if_ge (pc := 221) (tgt := 226) (by decide) dL_law_221 hW (fun hW => ?_) (fun hW => ?_)
  · refine fs_iinc (pc := 226) (lv' := [(7, .int (v7 + 1)), (0, .ref b), (1, .ref a1), (2, .int v2), (3, .int v3), (6, .int v6), (8, .int v8)]) (v7 + 1) 5 rfl (congrArg (fun z => v7 + z) (by decide)) (by decide) rfl dL_law_226 ?_
    refine fs_goto (pc := 229) (tgt := 131) (by decide) dL_law_229 ?_
    exact fs_sub [1, 2, 3, 4, 5, 0] rfl hW
  · refine fs_iconst (pc := 224) 0 (by decide) dL_law_224 ?_
    exact hW.elim
set_option maxHeartbeats 4000000 in
set_option maxRecDepth 100000 in
theorem q_L_law_608 {g : GG} {b L : Nat} {xs : Nat → Int32} {σ : Hs} (kM nM : Nat) (a1 : Nat) (v2 : Int32) (v6 : Int32) (v7 : Int32) (a8 : Nat) (a9 : Nat) (a10 : Nat) (a11 : Nat) (v12 : Int32) (hL : L ≤ 260) (hW : (v7 ≤ v12 → ((kM) ≤ 600000 ∧ (nM) ≤ 7302250) ∧ ((kM) ≤ 600000 ∧ (nM) ≤ 7302250) ∧ ((kM) ≤ 600000 ∧ (nM) ≤ 7302250) ∧ Rc σ a1 11 ∧ Do g M_X11_upkeep 0 0 [.ref a1, .int ((cel L xs 28) - (cel L xs 28) / 20 * 20)] σ (kI (fun i57 s56 => (i57 = 0 → ((kM) + 1 ≤ 600000 ∧ (nM) + 8 ≤ 7302250) ∧ NA g s56 0 8 ndef (fun r60 s61 => J_L_law_801 g b L xs (kM + 1) (nM + 8) s61 a1 v6 v7 a9 a11 (((cel L xs 28) - (cel L xs 28) / 20 * 20)) (((cel L xs 29) - (cel L xs 29) / 40 * 40)) 0 (-1) 0 r60 0 )) ∧ (¬ i57 = 0 → False)))) ∧ (¬ v7 ≤ v12 → J_L_law_618 g b L xs kM nM σ a1 v2 v6 v7 a8 a9 a10 a11 v12 (-1) )) : J_L_law_608 g b L xs kM nM σ a1 v2 v6 v7 a8 a9 a10 a11 v12 := by
  show Fs g (SL b L xs g) (600000, 7302250, kM, nM) [(0, .ref b), (1, .ref a1), (2, .int v2), (6, .int v6), (7, .int v7), (8, .ref a8), (9, .ref a9), (10, .ref a10), (11, .ref a11), (12, .int v12)] [] 608 σ
  refine fs_iload (pc := 608) 9 rfl dL_law_608 ?_
  refine fs_iload (pc := 610) 4 rfl dL_law_610 ?_
  refine fs_icmp_ge (pc := 612) (tgt := 750) (by decide) dL_law_612 hW (fun hW => ?_) (fun hW => ?_)
  · refine fs_aload_n (pc := 750) 0 rfl rfl dL_law_750 ?_
    refine fs_bipush (pc := 751) 28 (by decide) dL_law_751 ?_
    obtain ⟨hz, hW⟩ := hW
    refine fs_cell (pc := 753) hL (by decide) hz (Nat.le_of_ble_eq_true rfl) dL_law_753 ?_
    refine fs_bipush (pc := 756) 20 (by decide) dL_law_756 ?_
    refine fs_irem (pc := 758) (by decide) dL_law_758 ?_
    refine fs_istore (pc := 759) (lv' := [(12, .int ((cel L xs 28) - (cel L xs 28) / 20 * 20)), (0, .ref b), (1, .ref a1), (2, .int v2), (6, .int v6), (7, .int v7), (8, .ref a8), (9, .ref a9), (10, .ref a10), (11, .ref a11)]) (by decide) rfl dL_law_759 ?_
    refine fs_aload_n (pc := 761) 1 rfl rfl dL_law_761 ?_
    refine fs_bipush (pc := 762) 29 (by decide) dL_law_762 ?_
    obtain ⟨hz, hW⟩ := hW
    refine fs_cell (pc := 764) hL (by decide) hz (Nat.le_of_ble_eq_true rfl) dL_law_764 ?_
    refine fs_bipush (pc := 767) 40 (by decide) dL_law_767 ?_
    refine fs_irem (pc := 769) (by decide) dL_law_769 ?_
    refine fs_istore (pc := 770) (lv' := [(13, .int ((cel L xs 29) - (cel L xs 29) / 40 * 40)), (12, .int ((cel L xs 28) - (cel L xs 28) / 20 * 20)), (0, .ref b), (1, .ref a1), (2, .int v2), (6, .int v6), (7, .int v7), (8, .ref a8), (9, .ref a9), (10, .ref a10), (11, .ref a11)]) (by decide) rfl dL_law_770 ?_
    refine fs_aload_n (pc := 772) 3 rfl rfl dL_law_772 ?_
    refine fs_iload (pc := 773) 1 rfl dL_law_773 ?_
    obtain ⟨hz, hrc, hW⟩ := hW
    refine fs_callV_I (pc := 775) (As := [.int ((cel L xs 28) - (cel L xs 28) / 20 * 20)]) (st := []) wd_X11_upkeep w_853 ok_X11_upkeep (by decide) rfl (Nat.le_of_ble_eq_true rfl) dL_law_775 hz kc_X11 hrc hW (fun i57 s56 hW => ?_)
    refine fs_if_eq (pc := 778) (tgt := 783) (by decide) dL_law_778 hW (fun hW => ?_) (fun hW => ?_)
    · refine fs_iconst (pc := 783) 0 (by decide) dL_law_783 ?_
      refine fs_istore (pc := 784) (lv' := [(14, .int 0), (13, .int ((cel L xs 29) - (cel L xs 29) / 40 * 40)), (12, .int ((cel L xs 28) - (cel L xs 28) / 20 * 20)), (0, .ref b), (1, .ref a1), (2, .int v2), (6, .int v6), (7, .int v7), (8, .ref a8), (9, .ref a9), (10, .ref a10), (11, .ref a11)]) (by decide) rfl dL_law_784 ?_
      refine fs_iconst (pc := 786) (-1) (by decide) dL_law_786 ?_
      refine fs_istore (pc := 787) (lv' := [(15, .int (-1)), (14, .int 0), (13, .int ((cel L xs 29) - (cel L xs 29) / 40 * 40)), (12, .int ((cel L xs 28) - (cel L xs 28) / 20 * 20)), (0, .ref b), (1, .ref a1), (2, .int v2), (6, .int v6), (7, .int v7), (8, .ref a8), (9, .ref a9), (10, .ref a10), (11, .ref a11)]) (by decide) rfl dL_law_787 ?_
      refine fs_iconst (pc := 789) 0 (by decide) dL_law_789 ?_
      refine fs_istore (pc := 790) (lv' := [(16, .int 0), (15, .int (-1)), (14, .int 0), (13, .int ((cel L xs 29) - (cel L xs 29) / 40 * 40)), (12, .int ((cel L xs 28) - (cel L xs 28) / 20 * 20)), (0, .ref b), (1, .ref a1), (2, .int v2), (6, .int v6), (7, .int v7), (8, .ref a8), (9, .ref a9), (10, .ref a10), (11, .ref a11)]) (by decide) rfl dL_law_790 ?_
      refine fs_bipush (pc := 792) 8 (by decide) dL_law_792 ?_
      obtain ⟨hz, hW⟩ := hW
      refine fs_newI (pc := 794) 0 .int (Or.inl ⟨rfl, rfl⟩) w_500 dL_law_794 (by decide) (by decide) hz (Z' := (600000, 7302250, kM + 1, nM + 8)) rfl hW (fun r60 s61 hW => ?_)
      refine fs_astore (pc := 796) (lv' := [(17, .ref r60), (16, .int 0), (15, .int (-1)), (14, .int 0), (13, .int ((cel L xs 29) - (cel L xs 29) / 40 * 40)), (12, .int ((cel L xs 28) - (cel L xs 28) / 20 * 20)), (0, .ref b), (1, .ref a1), (2, .int v2), (6, .int v6), (7, .int v7), (8, .ref a8), (9, .ref a9), (10, .ref a10), (11, .ref a11)]) (by decide) rfl dL_law_796 ?_
      refine fs_iconst (pc := 798) 0 (by decide) dL_law_798 ?_
      refine fs_istore (pc := 799) (lv' := [(18, .int 0), (17, .ref r60), (16, .int 0), (15, .int (-1)), (14, .int 0), (13, .int ((cel L xs 29) - (cel L xs 29) / 40 * 40)), (12, .int ((cel L xs 28) - (cel L xs 28) / 20 * 20)), (0, .ref b), (1, .ref a1), (2, .int v2), (6, .int v6), (7, .int v7), (8, .ref a8), (9, .ref a9), (10, .ref a10), (11, .ref a11)]) (by decide) rfl dL_law_799 ?_
      exact fs_sub [8, 10, 11, 13, 15, 6, 5, 4, 3, 2, 1, 0] rfl hW
    · refine fs_iconst (pc := 781) 0 (by decide) dL_law_781 ?_
      exact hW.elim
  · refine fs_iconst (pc := 615) (-1) (by decide) dL_law_615 ?_
    refine fs_istore (pc := 616) (lv' := [(13, .int (-1)), (0, .ref b), (1, .ref a1), (2, .int v2), (6, .int v6), (7, .int v7), (8, .ref a8), (9, .ref a9), (10, .ref a10), (11, .ref a11), (12, .int v12)]) (by decide) rfl dL_law_616 ?_
    exact fs_sub [1, 2, 3, 4, 5, 6, 7, 8, 9, 10, 0] rfl hW
set_option maxHeartbeats 4000000 in
set_option maxRecDepth 100000 in
theorem q_L_law_336 {g : GG} {b L : Nat} {xs : Nat → Int32} {σ : Hs} (kM nM : Nat) (a1 : Nat) (v2 : Int32) (v6 : Int32) (v7 : Int32) (a8 : Nat) (a9 : Nat) (a10 : Nat) (v11 : Int32) (v12 : Int32) (hL : L ≤ 260) (hW : (100 ≤ v12 → ((kM) ≤ 600000 ∧ (nM) ≤ 7302250) ∧ Rc σ a1 11 ∧ Do g M_X11_answers 0 0 [.ref a1, .int v11] σ (kI (fun i63 s62 => AI g s62 a10 0 v11 (fun i66 => (¬ i63 = i66 → False) ∧ (i63 = i66 → AI g s62 a10 0 v11 (fun i67 => ((kM) ≤ 600000 ∧ (nM) ≤ 7302250) ∧ Rc s62 a1 11 ∧ Do g M_X11_answer 0 0 [.ref a1, .int v11, .int i67] s62 (kI (fun i69 s68 => (i69 = (-1) → J_L_law_263 g b L xs kM nM s68 a1 v2 v6 v7 a8 a9 a10 ((v11 + 1)) ) ∧ (¬ i69 = (-1) → False))))))))) ∧ (¬ 100 ≤ v12 → J_L_law_346 g b L xs kM nM σ a1 v2 v6 v7 a8 a9 a10 v11 v12 0 )) : J_L_law_336 g b L xs kM nM σ a1 v2 v6 v7 a8 a9 a10 v11 v12 := by
  show Fs g (SL b L xs g) (600000, 7302250, kM, nM) [(0, .ref b), (1, .ref a1), (2, .int v2), (6, .int v6), (7, .int v7), (8, .ref a8), (9, .ref a9), (10, .ref a10), (11, .int v11), (12, .int v12)] [] 336 σ
  refine fs_iload (pc := 336) 9 rfl dL_law_336 ?_
  refine fs_bipush (pc := 338) 100 (by decide) dL_law_338 ?_
  refine fs_icmp_ge (pc := 340) (tgt := 562) (by decide) dL_law_340 hW (fun hW => ?_) (fun hW => ?_)
  · refine fs_aload_n (pc := 562) 1 rfl rfl dL_law_562 ?_
    refine fs_iload (pc := 563) 8 rfl dL_law_563 ?_
    obtain ⟨hz, hrc, hW⟩ := hW
    refine fs_callV_I (pc := 565) (As := [.int v11]) (st := []) wd_X11_answers w_850 ok_X11_answers (by decide) rfl (Nat.le_of_ble_eq_true rfl) dL_law_565 hz kc_X11 hrc hW (fun i63 s62 hW => ?_)
    refine fs_aload (pc := 568) 7 rfl dL_law_568 ?_
    refine fs_iload (pc := 570) 8 rfl dL_law_570 ?_
    refine fs_iald (pc := 572) dL_law_572 hW (fun i66 hW => ?_)
    refine fs_icmp_ne (pc := 573) (tgt := 591) (by decide) dL_law_573 hW (fun hW => ?_) (fun hW => ?_)
    · refine fs_iconst (pc := 591) 0 (by decide) dL_law_591 ?_
      exact hW.elim
    · refine fs_aload_n (pc := 576) 1 rfl rfl dL_law_576 ?_
      refine fs_iload (pc := 577) 8 rfl dL_law_577 ?_
      refine fs_aload (pc := 579) 7 rfl dL_law_579 ?_
      refine fs_iload (pc := 581) 8 rfl dL_law_581 ?_
      refine fs_iald (pc := 583) dL_law_583 hW (fun i67 hW => ?_)
      obtain ⟨hz, hrc, hW⟩ := hW
      refine fs_callV_I (pc := 584) (As := [.int v11, .int i67]) (st := []) wd_X11_answer w_849 ok_X11_answer (by decide) rfl (Nat.le_of_ble_eq_true rfl) dL_law_584 hz kc_X11 hrc hW (fun i69 s68 hW => ?_)
      refine fs_iconst (pc := 587) (-1) (by decide) dL_law_587 ?_
      refine fs_icmp_eq (pc := 588) (tgt := 593) (by decide) dL_law_588 hW (fun hW => ?_) (fun hW => ?_)
      · refine fs_iinc (pc := 593) (lv' := [(11, .int (v11 + 1)), (0, .ref b), (1, .ref a1), (2, .int v2), (6, .int v6), (7, .int v7), (8, .ref a8), (9, .ref a9), (10, .ref a10), (12, .int v12)]) (v11 + 1) 8 rfl (congrArg (fun z => v11 + z) (by decide)) (by decide) rfl dL_law_593 ?_
        refine fs_goto (pc := 596) (tgt := 263) (by decide) dL_law_596 ?_
        exact fs_sub [1, 2, 3, 4, 5, 6, 7, 8, 0] rfl hW
      · refine fs_iconst (pc := 591) 0 (by decide) dL_law_591 ?_
        exact hW.elim
  · refine fs_iconst (pc := 343) 0 (by decide) dL_law_343 ?_
    refine fs_istore (pc := 344) (lv' := [(13, .int 0), (0, .ref b), (1, .ref a1), (2, .int v2), (6, .int v6), (7, .int v7), (8, .ref a8), (9, .ref a9), (10, .ref a10), (11, .int v11), (12, .int v12)]) (by decide) rfl dL_law_344 ?_
    exact fs_sub [1, 2, 3, 4, 5, 6, 7, 8, 9, 10, 0] rfl hW
set_option maxHeartbeats 4000000 in
set_option maxRecDepth 100000 in
theorem q_L_law_801 {g : GG} {b L : Nat} {xs : Nat → Int32} {σ : Hs} (kM nM : Nat) (a1 : Nat) (v6 : Int32) (v7 : Int32) (a9 : Nat) (a11 : Nat) (v12 : Int32) (v13 : Int32) (v14 : Int32) (v15 : Int32) (v16 : Int32) (a17 : Nat) (v18 : Int32) (hL : L ≤ 260) (hW : (((1 : Int32) <<< (v6 &&& 31)) ≤ v18 → ((kM) ≤ 600000 ∧ (nM) ≤ 7302250) ∧ Rc σ a1 11 ∧ Do g M_X11_choose 0 0 [.ref a1, .int v13, .int 0] σ (kI (fun i73 s72 => (¬ i73 = v14 → False) ∧ (i73 = v14 → ((kM) ≤ 600000 ∧ (nM) ≤ 7302250) ∧ Rc s72 a1 11 ∧ Do g M_X11_choose 0 0 [.ref a1, .int v13, .int 1] s72 (kI (fun i77 s76 => (¬ i77 = v15 → False) ∧ (i77 = v15 → ((kM) ≤ 600000 ∧ (nM) ≤ 7302250) ∧ Rc s76 a1 11 ∧ Do g M_X11_choose 0 0 [.ref a1, .int v13, .int 2] s76 (kI (fun i81 s80 => (i81 = v16 → J_L_law_1221 g b L xs kM nM s80 a1 v6 v7 v13 v15 a17 0 0 1 ) ∧ (¬ i81 = v16 → False)))))))))) ∧ (¬ ((1 : Int32) <<< (v6 &&& 31)) ≤ v18 → J_L_law_819 g b L xs kM nM σ a1 v6 v7 a9 a11 v12 v13 v14 v15 v16 a17 v18 0 0 0 )) : J_L_law_801 g b L xs kM nM σ a1 v6 v7 a9 a11 v12 v13 v14 v15 v16 a17 v18 := by
  show Fs g (SL b L xs g) (600000, 7302250, kM, nM) [(1, .ref a1), (6, .int v6), (7, .int v7), (9, .ref a9), (11, .ref a11), (12, .int v12), (13, .int v13), (14, .int v14), (15, .int v15), (16, .int v16), (17, .ref a17), (18, .int v18)] [] 801 σ
  refine fs_iload (pc := 801) 11 rfl dL_law_801 ?_
  refine fs_iconst (pc := 803) 1 (by decide) dL_law_803 ?_
  refine fs_iload (pc := 804) 1 rfl dL_law_804 ?_
  refine fs_ishl (pc := 806) dL_law_806 ?_
  refine fs_icmp_ge (pc := 807) (tgt := 1174) (by decide) dL_law_807 hW (fun hW => ?_) (fun hW => ?_)
  · refine fs_aload_n (pc := 1174) 0 rfl rfl dL_law_1174 ?_
    refine fs_iload (pc := 1175) 6 rfl dL_law_1175 ?_
    refine fs_iconst (pc := 1177) 0 (by decide) dL_law_1177 ?_
    obtain ⟨hz, hrc, hW⟩ := hW
    refine fs_callV_I (pc := 1178) (As := [.int v13, .int 0]) (st := []) wd_X11_choose w_856 ok_X11_choose (by decide) rfl (Nat.le_of_ble_eq_true rfl) dL_law_1178 hz kc_X11 hrc hW (fun i73 s72 hW => ?_)
    refine fs_iload (pc := 1181) 7 rfl dL_law_1181 ?_
    refine fs_icmp_ne (pc := 1183) (tgt := 1210) (by decide) dL_law_1183 hW (fun hW => ?_) (fun hW => ?_)
    · refine fs_iconst (pc := 1210) 0 (by decide) dL_law_1210 ?_
      exact hW.elim
    · refine fs_aload_n (pc := 1186) 0 rfl rfl dL_law_1186 ?_
      refine fs_iload (pc := 1187) 6 rfl dL_law_1187 ?_
      refine fs_iconst (pc := 1189) 1 (by decide) dL_law_1189 ?_
      obtain ⟨hz, hrc, hW⟩ := hW
      refine fs_callV_I (pc := 1190) (As := [.int v13, .int 1]) (st := []) wd_X11_choose w_856 ok_X11_choose (by decide) rfl (Nat.le_of_ble_eq_true rfl) dL_law_1190 hz kc_X11 hrc hW (fun i77 s76 hW => ?_)
      refine fs_iload (pc := 1193) 8 rfl dL_law_1193 ?_
      refine fs_icmp_ne (pc := 1195) (tgt := 1210) (by decide) dL_law_1195 hW (fun hW => ?_) (fun hW => ?_)
      · refine fs_iconst (pc := 1210) 0 (by decide) dL_law_1210 ?_
        exact hW.elim
      · refine fs_aload_n (pc := 1198) 0 rfl rfl dL_law_1198 ?_
        refine fs_iload (pc := 1199) 6 rfl dL_law_1199 ?_
        refine fs_iconst (pc := 1201) 2 (by decide) dL_law_1201 ?_
        obtain ⟨hz, hrc, hW⟩ := hW
        refine fs_callV_I (pc := 1202) (As := [.int v13, .int 2]) (st := []) wd_X11_choose w_856 ok_X11_choose (by decide) rfl (Nat.le_of_ble_eq_true rfl) dL_law_1202 hz kc_X11 hrc hW (fun i81 s80 hW => ?_)
        refine fs_iload (pc := 1205) 9 rfl dL_law_1205 ?_
        refine fs_icmp_eq (pc := 1207) (tgt := 1212) (by decide) dL_law_1207 hW (fun hW => ?_) (fun hW => ?_)
        · refine fs_iconst (pc := 1212) 0 (by decide) dL_law_1212 ?_
          refine fs_istore (pc := 1213) (lv' := [(18, .int 0), (1, .ref a1), (6, .int v6), (7, .int v7), (9, .ref a9), (11, .ref a11), (12, .int v12), (13, .int v13), (14, .int v14), (15, .int v15), (16, .int v16), (17, .ref a17)]) (by decide) rfl dL_law_1213 ?_
          refine fs_iconst (pc := 1215) 0 (by decide) dL_law_1215 ?_
          refine fs_istore (pc := 1216) (lv' := [(19, .int 0), (18, .int 0), (1, .ref a1), (6, .int v6), (7, .int v7), (9, .ref a9), (11, .ref a11), (12, .int v12), (13, .int v13), (14, .int v14), (15, .int v15), (16, .int v16), (17, .ref a17)]) (by decide) rfl dL_law_1216 ?_
          refine fs_iconst (pc := 1218) 1 (by decide) dL_law_1218 ?_
          refine fs_istore (pc := 1219) (lv' := [(20, .int 1), (19, .int 0), (18, .int 0), (1, .ref a1), (6, .int v6), (7, .int v7), (9, .ref a9), (11, .ref a11), (12, .int v12), (13, .int v13), (14, .int v14), (15, .int v15), (16, .int v16), (17, .ref a17)]) (by decide) rfl dL_law_1219 ?_
          exact fs_sub [3, 4, 5, 9, 11, 13, 2, 1, 0] rfl hW
        · refine fs_iconst (pc := 1210) 0 (by decide) dL_law_1210 ?_
          exact hW.elim
  · refine fs_iconst (pc := 810) 0 (by decide) dL_law_810 ?_
    refine fs_istore (pc := 811) (lv' := [(19, .int 0), (1, .ref a1), (6, .int v6), (7, .int v7), (9, .ref a9), (11, .ref a11), (12, .int v12), (13, .int v13), (14, .int v14), (15, .int v15), (16, .int v16), (17, .ref a17), (18, .int v18)]) (by decide) rfl dL_law_811 ?_
    refine fs_iconst (pc := 813) 0 (by decide) dL_law_813 ?_
    refine fs_istore (pc := 814) (lv' := [(20, .int 0), (19, .int 0), (1, .ref a1), (6, .int v6), (7, .int v7), (9, .ref a9), (11, .ref a11), (12, .int v12), (13, .int v13), (14, .int v14), (15, .int v15), (16, .int v16), (17, .ref a17), (18, .int v18)]) (by decide) rfl dL_law_814 ?_
    refine fs_iconst (pc := 816) 0 (by decide) dL_law_816 ?_
    refine fs_istore (pc := 817) (lv' := [(21, .int 0), (20, .int 0), (19, .int 0), (1, .ref a1), (6, .int v6), (7, .int v7), (9, .ref a9), (11, .ref a11), (12, .int v12), (13, .int v13), (14, .int v14), (15, .int v15), (16, .int v16), (17, .ref a17), (18, .int v18)]) (by decide) rfl dL_law_817 ?_
    exact fs_sub [3, 4, 5, 6, 7, 8, 9, 10, 11, 12, 13, 14, 2, 1, 0] rfl hW
set_option maxHeartbeats 4000000 in
set_option maxRecDepth 100000 in
theorem q_L_law_618 {g : GG} {b L : Nat} {xs : Nat → Int32} {σ : Hs} (kM nM : Nat) (a1 : Nat) (v2 : Int32) (v6 : Int32) (v7 : Int32) (a8 : Nat) (a9 : Nat) (a10 : Nat) (a11 : Nat) (v12 : Int32) (v13 : Int32) (hL : L ≤ 260) (hW : (v6 ≤ v13 → J_L_law_608 g b L xs kM nM σ a1 v2 v6 v7 a8 a9 a10 a11 ((v12 + 1)) ) ∧ (¬ v6 ≤ v13 → J_L_law_629 g b L xs kM nM σ a1 v2 v6 v7 a8 a9 a10 a11 v12 v13 v13 )) : J_L_law_618 g b L xs kM nM σ a1 v2 v6 v7 a8 a9 a10 a11 v12 v13 := by
  show Fs g (SL b L xs g) (600000, 7302250, kM, nM) [(0, .ref b), (1, .ref a1), (2, .int v2), (6, .int v6), (7, .int v7), (8, .ref a8), (9, .ref a9), (10, .ref a10), (11, .ref a11), (12, .int v12), (13, .int v13)] [] 618 σ
  refine fs_iload (pc := 618) 10 rfl dL_law_618 ?_
  refine fs_iload (pc := 620) 3 rfl dL_law_620 ?_
  refine fs_icmp_ge (pc := 622) (tgt := 744) (by decide) dL_law_622 hW (fun hW => ?_) (fun hW => ?_)
  · refine fs_iinc (pc := 744) (lv' := [(12, .int (v12 + 1)), (0, .ref b), (1, .ref a1), (2, .int v2), (6, .int v6), (7, .int v7), (8, .ref a8), (9, .ref a9), (10, .ref a10), (11, .ref a11), (13, .int v13)]) (v12 + 1) 9 rfl (congrArg (fun z => v12 + z) (by decide)) (by decide) rfl dL_law_744 ?_
    refine fs_goto (pc := 747) (tgt := 608) (by decide) dL_law_747 ?_
    exact fs_sub [1, 2, 3, 4, 5, 6, 7, 8, 9, 0] rfl hW
  · refine fs_iload (pc := 625) 10 rfl dL_law_625 ?_
    refine fs_istore (pc := 627) (lv' := [(14, .int v13), (0, .ref b), (1, .ref a1), (2, .int v2), (6, .int v6), (7, .int v7), (8, .ref a8), (9, .ref a9), (10, .ref a10), (11, .ref a11), (12, .int v12), (13, .int v13)]) (by decide) rfl dL_law_627 ?_
    exact fs_sub [1, 2, 3, 4, 5, 6, 7, 8, 9, 10, 11, 0] rfl hW
set_option maxHeartbeats 4000000 in
set_option maxRecDepth 100000 in
theorem q_L_law_346 {g : GG} {b L : Nat} {xs : Nat → Int32} {σ : Hs} (kM nM : Nat) (a1 : Nat) (v2 : Int32) (v6 : Int32) (v7 : Int32) (a8 : Nat) (a9 : Nat) (a10 : Nat) (v11 : Int32) (v12 : Int32) (v13 : Int32) (hL : L ≤ 260) (hW : (64 ≤ v13 → J_L_law_336 g b L xs kM nM σ a1 v2 v6 v7 a8 a9 a10 v11 ((v12 + 1)) ) ∧ (¬ 64 ≤ v13 → ((kM) ≤ 600000 ∧ (nM) ≤ 7302250) ∧ Rc σ a1 11 ∧ Do g M_X11_get 0 0 [.ref a1, .int v13, .int 0] σ (kI (fun i85 s84 => (i85 < 0 → J_L_law_373 g b L xs kM nM s84 a1 v2 v6 v7 a8 a9 a10 v11 v12 v13 0 0 ) ∧ (¬ i85 < 0 → J_L_law_373 g b L xs kM nM s84 a1 v2 v6 v7 a8 a9 a10 v11 v12 v13 1 0 ))))) : J_L_law_346 g b L xs kM nM σ a1 v2 v6 v7 a8 a9 a10 v11 v12 v13 := by
  show Fs g (SL b L xs g) (600000, 7302250, kM, nM) [(0, .ref b), (1, .ref a1), (2, .int v2), (6, .int v6), (7, .int v7), (8, .ref a8), (9, .ref a9), (10, .ref a10), (11, .int v11), (12, .int v12), (13, .int v13)] [] 346 σ
  refine fs_iload (pc := 346) 10 rfl dL_law_346 ?_
  refine fs_bipush (pc := 348) 64 (by decide) dL_law_348 ?_
  refine fs_icmp_ge (pc := 350) (tgt := 556) (by decide) dL_law_350 hW (fun hW => ?_) (fun hW => ?_)
  · refine fs_iinc (pc := 556) (lv' := [(12, .int (v12 + 1)), (0, .ref b), (1, .ref a1), (2, .int v2), (6, .int v6), (7, .int v7), (8, .ref a8), (9, .ref a9), (10, .ref a10), (11, .int v11), (13, .int v13)]) (v12 + 1) 9 rfl (congrArg (fun z => v12 + z) (by decide)) (by decide) rfl dL_law_556 ?_
    refine fs_goto (pc := 559) (tgt := 336) (by decide) dL_law_559 ?_
    exact fs_sub [1, 2, 3, 4, 5, 6, 7, 8, 9, 0] rfl hW
  · refine fs_aload_n (pc := 353) 1 rfl rfl dL_law_353 ?_
    refine fs_iload (pc := 354) 10 rfl dL_law_354 ?_
    refine fs_iconst (pc := 356) 0 (by decide) dL_law_356 ?_
    obtain ⟨hz, hrc, hW⟩ := hW
    refine fs_callV_I (pc := 357) (As := [.int v13, .int 0]) (st := []) wd_X11_get w_736 ok_X11_get (by decide) rfl (Nat.le_of_ble_eq_true rfl) dL_law_357 hz kc_X11 hrc hW (fun i85 s84 hW => ?_)
    refine fs_if_lt (pc := 360) (tgt := 367) (by decide) dL_law_360 hW (fun hW => ?_) (fun hW => ?_)
    · refine fs_iconst (pc := 367) 0 (by decide) dL_law_367 ?_
      refine fs_istore (pc := 368) (lv' := [(14, .int 0), (0, .ref b), (1, .ref a1), (2, .int v2), (6, .int v6), (7, .int v7), (8, .ref a8), (9, .ref a9), (10, .ref a10), (11, .int v11), (12, .int v12), (13, .int v13)]) (by decide) rfl dL_law_368 ?_
      refine fs_iconst (pc := 370) 0 (by decide) dL_law_370 ?_
      refine fs_istore (pc := 371) (lv' := [(15, .int 0), (14, .int 0), (0, .ref b), (1, .ref a1), (2, .int v2), (6, .int v6), (7, .int v7), (8, .ref a8), (9, .ref a9), (10, .ref a10), (11, .int v11), (12, .int v12), (13, .int v13)]) (by decide) rfl dL_law_371 ?_
      exact fs_sub [2, 3, 4, 5, 6, 7, 8, 9, 10, 11, 12, 1, 0] rfl hW
    · refine fs_iconst (pc := 363) 1 (by decide) dL_law_363 ?_
      refine fs_goto (pc := 364) (tgt := 368) (by decide) dL_law_364 ?_
      refine fs_istore (pc := 368) (lv' := [(14, .int 1), (0, .ref b), (1, .ref a1), (2, .int v2), (6, .int v6), (7, .int v7), (8, .ref a8), (9, .ref a9), (10, .ref a10), (11, .int v11), (12, .int v12), (13, .int v13)]) (by decide) rfl dL_law_368 ?_
      refine fs_iconst (pc := 370) 0 (by decide) dL_law_370 ?_
      refine fs_istore (pc := 371) (lv' := [(15, .int 0), (14, .int 1), (0, .ref b), (1, .ref a1), (2, .int v2), (6, .int v6), (7, .int v7), (8, .ref a8), (9, .ref a9), (10, .ref a10), (11, .int v11), (12, .int v12), (13, .int v13)]) (by decide) rfl dL_law_371 ?_
      exact fs_sub [2, 3, 4, 5, 6, 7, 8, 9, 10, 11, 12, 1, 0] rfl hW
set_option maxHeartbeats 4000000 in
set_option maxRecDepth 100000 in
theorem q_L_law_1221 {g : GG} {b L : Nat} {xs : Nat → Int32} {σ : Hs} (kM nM : Nat) (a1 : Nat) (v6 : Int32) (v7 : Int32) (v13 : Int32) (v15 : Int32) (a17 : Nat) (v18 : Int32) (v19 : Int32) (v20 : Int32) (hL : L ≤ 260) (hW : (v20 = 0 → ((kM) ≤ 600000 ∧ (nM) ≤ 7302250) ∧ Rc σ a1 11 ∧ Do g M_X11_steps 0 0 [.ref a1, .int v13, .int 0] σ (kI (fun i89 s88 => (¬ i89 = v18 → False) ∧ (i89 = v18 → ((kM) ≤ 600000 ∧ (nM) ≤ 7302250) ∧ Rc s88 a1 11 ∧ Do g M_X11_steps 0 0 [.ref a1, .int v13, .int 1] s88 (kI (fun i93 s92 => AI g s92 a17 0 v18 (fun i96 => (¬ i93 = i96 → False) ∧ (i93 = i96 → ((kM) ≤ 600000 ∧ (nM) ≤ 7302250) ∧ Rc s92 a1 11 ∧ Do g M_X11_steps 0 0 [.ref a1, .int v13, .int 2] s92 (kI (fun i98 s97 => (¬ i98 = v19 → False) ∧ (i98 = v19 → ((kM) ≤ 600000 ∧ (nM) ≤ 7302250) ∧ Rc s97 a1 11 ∧ Do g M_X11_steps 0 0 [.ref a1, .int v13, .int (10 + v19)] s97 (kI (fun i102 s101 => (¬ i102 = (-1) → False) ∧ (i102 = (-1) → AI g s101 a17 0 v18 (fun i105 => (i105 < v15 → False) ∧ (¬ i105 < v15 → ((kM) ≤ 600000 ∧ (nM) ≤ 7302250) ∧ Rc s101 a1 11 ∧ Do g M_X11_looks 0 0 [.ref a1, .int 0, .int (v6 + 1)] s101 (kI (fun i107 s106 => (¬ i107 = (-101) → False) ∧ (i107 = (-101) → ((kM) ≤ 600000 ∧ (nM) ≤ 7302250) ∧ Rc s106 a1 11 ∧ Do g M_X11_looks 0 0 [.ref a1, .int v7, .int 0] s106 (kI (fun i111 s110 => (¬ i111 = (-101) → False) ∧ (i111 = (-101) → ((kM) ≤ 600000 ∧ (nM) ≤ 7302250) ∧ Rc s110 a1 11 ∧ Do g M_X11_best 0 0 [.ref a1, .int 0, .int 256] s110 (kI (fun i115 s114 => (¬ i115 = (-102) → False) ∧ (i115 = (-102) → ((kM) ≤ 600000 ∧ (nM) ≤ 7302250) ∧ Rc s114 a1 11 ∧ Do g M_X11_work 0 0 [.ref a1, .int (-1)] s114 (kI (fun i119 s118 => (¬ i119 = (-102) → False) ∧ (i119 = (-102) → ((kM) ≤ 600000 ∧ (nM) ≤ 7302250) ∧ Rc s118 a1 11 ∧ Do g M_X11_choose 0 0 [.ref a1, .int 10000, .int 0] s118 (kI (fun i123 s122 => (¬ i123 = (-102) → False) ∧ (i123 = (-102) → ((kM) ≤ 600000 ∧ (nM) ≤ 7302250) ∧ Rc s122 a1 11 ∧ Do g M_X11_steps 0 0 [.ref a1, .int 0, .int 3] s122 (kI (fun i127 s126 => (¬ i127 = (-102) → False) ∧ (i127 = (-102) → ((kM) ≤ 600000 ∧ (nM) ≤ 7302250))))))))))))))))))))))))))))))))))) ∧ (¬ v20 = 0 → AI g σ a17 0 v18 (fun i130 => J_L_law_1239 g b L xs kM nM σ a1 v6 v7 v13 v15 a17 v18 v19 (-1) i130 0 ))) : J_L_law_1221 g b L xs kM nM σ a1 v6 v7 v13 v15 a17 v18 v19 v20 := by
  show Fs g (SL b L xs g) (600000, 7302250, kM, nM) [(1, .ref a1), (6, .int v6), (7, .int v7), (13, .int v13), (15, .int v15), (17, .ref a17), (18, .int v18), (19, .int v19), (20, .int v20)] [] 1221 σ
  refine fs_iload (pc := 1221) 8 rfl dL_law_1221 ?_
  refine fs_if_eq (pc := 1223) (tgt := 1416) (by decide) dL_law_1223 hW (fun hW => ?_) (fun hW => ?_)
  · refine fs_aload_n (pc := 1416) 0 rfl rfl dL_law_1416 ?_
    refine fs_iload (pc := 1417) 3 rfl dL_law_1417 ?_
    refine fs_iconst (pc := 1419) 0 (by decide) dL_law_1419 ?_
    obtain ⟨hz, hrc, hW⟩ := hW
    refine fs_callV_I (pc := 1420) (As := [.int v13, .int 0]) (st := []) wd_X11_steps w_857 ok_X11_steps (by decide) rfl (Nat.le_of_ble_eq_true rfl) dL_law_1420 hz kc_X11 hrc hW (fun i89 s88 hW => ?_)
    refine fs_iload (pc := 1423) 6 rfl dL_law_1423 ?_
    refine fs_icmp_ne (pc := 1425) (tgt := 1557) (by decide) dL_law_1425 hW (fun hW => ?_) (fun hW => ?_)
    · refine fs_iconst (pc := 1557) 0 (by decide) dL_law_1557 ?_
      exact hW.elim
    · refine fs_aload_n (pc := 1428) 0 rfl rfl dL_law_1428 ?_
      refine fs_iload (pc := 1429) 3 rfl dL_law_1429 ?_
      refine fs_iconst (pc := 1431) 1 (by decide) dL_law_1431 ?_
      obtain ⟨hz, hrc, hW⟩ := hW
      refine fs_callV_I (pc := 1432) (As := [.int v13, .int 1]) (st := []) wd_X11_steps w_857 ok_X11_steps (by decide) rfl (Nat.le_of_ble_eq_true rfl) dL_law_1432 hz kc_X11 hrc hW (fun i93 s92 hW => ?_)
      refine fs_aload (pc := 1435) 5 rfl dL_law_1435 ?_
      refine fs_iload (pc := 1437) 6 rfl dL_law_1437 ?_
      refine fs_iald (pc := 1439) dL_law_1439 hW (fun i96 hW => ?_)
      refine fs_icmp_ne (pc := 1440) (tgt := 1557) (by decide) dL_law_1440 hW (fun hW => ?_) (fun hW => ?_)
      · refine fs_iconst (pc := 1557) 0 (by decide) dL_law_1557 ?_
        exact hW.elim
      · refine fs_aload_n (pc := 1443) 0 rfl rfl dL_law_1443 ?_
        refine fs_iload (pc := 1444) 3 rfl dL_law_1444 ?_
        refine fs_iconst (pc := 1446) 2 (by decide) dL_law_1446 ?_
        obtain ⟨hz, hrc, hW⟩ := hW
        refine fs_callV_I (pc := 1447) (As := [.int v13, .int 2]) (st := []) wd_X11_steps w_857 ok_X11_steps (by decide) rfl (Nat.le_of_ble_eq_true rfl) dL_law_1447 hz kc_X11 hrc hW (fun i98 s97 hW => ?_)
        refine fs_iload (pc := 1450) 7 rfl dL_law_1450 ?_
        refine fs_icmp_ne (pc := 1452) (tgt := 1557) (by decide) dL_law_1452 hW (fun hW => ?_) (fun hW => ?_)
        · refine fs_iconst (pc := 1557) 0 (by decide) dL_law_1557 ?_
          exact hW.elim
        · refine fs_aload_n (pc := 1455) 0 rfl rfl dL_law_1455 ?_
          refine fs_iload (pc := 1456) 3 rfl dL_law_1456 ?_
          refine fs_bipush (pc := 1458) 10 (by decide) dL_law_1458 ?_
          refine fs_iload (pc := 1460) 7 rfl dL_law_1460 ?_
          refine fs_iadd (pc := 1462) dL_law_1462 ?_
          obtain ⟨hz, hrc, hW⟩ := hW
          refine fs_callV_I (pc := 1463) (As := [.int v13, .int (10 + v19)]) (st := []) wd_X11_steps w_857 ok_X11_steps (by decide) rfl (Nat.le_of_ble_eq_true rfl) dL_law_1463 hz kc_X11 hrc hW (fun i102 s101 hW => ?_)
          refine fs_iconst (pc := 1466) (-1) (by decide) dL_law_1466 ?_
          refine fs_icmp_ne (pc := 1467) (tgt := 1557) (by decide) dL_law_1467 hW (fun hW => ?_) (fun hW => ?_)
          · refine fs_iconst (pc := 1557) 0 (by decide) dL_law_1557 ?_
            exact hW.elim
          · refine fs_aload (pc := 1470) 5 rfl dL_law_1470 ?_
            refine fs_iload (pc := 1472) 6 rfl dL_law_1472 ?_
            refine fs_iald (pc := 1474) dL_law_1474 hW (fun i105 hW => ?_)
            refine fs_iload (pc := 1475) 4 rfl dL_law_1475 ?_
            refine fs_icmp_lt (pc := 1477) (tgt := 1557) (by decide) dL_law_1477 hW (fun hW => ?_) (fun hW => ?_)
            · refine fs_iconst (pc := 1557) 0 (by decide) dL_law_1557 ?_
              exact hW.elim
            · refine fs_aload_n (pc := 1480) 0 rfl rfl dL_law_1480 ?_
              refine fs_iconst (pc := 1481) 0 (by decide) dL_law_1481 ?_
              refine fs_iload (pc := 1482) 1 rfl dL_law_1482 ?_
              refine fs_iconst (pc := 1484) 1 (by decide) dL_law_1484 ?_
              refine fs_iadd (pc := 1485) dL_law_1485 ?_
              obtain ⟨hz, hrc, hW⟩ := hW
              refine fs_callV_I (pc := 1486) (As := [.int 0, .int (v6 + 1)]) (st := []) wd_X11_looks w_852 ok_X11_looks (by decide) rfl (Nat.le_of_ble_eq_true rfl) dL_law_1486 hz kc_X11 hrc hW (fun i107 s106 hW => ?_)
              refine fs_bipush (pc := 1489) (-101) (by decide) dL_law_1489 ?_
              refine fs_icmp_ne (pc := 1491) (tgt := 1557) (by decide) dL_law_1491 hW (fun hW => ?_) (fun hW => ?_)
              · refine fs_iconst (pc := 1557) 0 (by decide) dL_law_1557 ?_
                exact hW.elim
              · refine fs_aload_n (pc := 1494) 0 rfl rfl dL_law_1494 ?_
                refine fs_iload (pc := 1495) 2 rfl dL_law_1495 ?_
                refine fs_iconst (pc := 1497) 0 (by decide) dL_law_1497 ?_
                obtain ⟨hz, hrc, hW⟩ := hW
                refine fs_callV_I (pc := 1498) (As := [.int v7, .int 0]) (st := []) wd_X11_looks w_852 ok_X11_looks (by decide) rfl (Nat.le_of_ble_eq_true rfl) dL_law_1498 hz kc_X11 hrc hW (fun i111 s110 hW => ?_)
                refine fs_bipush (pc := 1501) (-101) (by decide) dL_law_1501 ?_
                refine fs_icmp_ne (pc := 1503) (tgt := 1557) (by decide) dL_law_1503 hW (fun hW => ?_) (fun hW => ?_)
                · refine fs_iconst (pc := 1557) 0 (by decide) dL_law_1557 ?_
                  exact hW.elim
                · refine fs_aload_n (pc := 1506) 0 rfl rfl dL_law_1506 ?_
                  refine fs_iconst (pc := 1507) 0 (by decide) dL_law_1507 ?_
                  refine fs_sipush (pc := 1508) 256 (by decide) dL_law_1508 ?_
                  obtain ⟨hz, hrc, hW⟩ := hW
                  refine fs_callV_I (pc := 1511) (As := [.int 0, .int 256]) (st := []) wd_X11_best w_854 ok_X11_best (by decide) rfl (Nat.le_of_ble_eq_true rfl) dL_law_1511 hz kc_X11 hrc hW (fun i115 s114 hW => ?_)
                  refine fs_bipush (pc := 1514) (-102) (by decide) dL_law_1514 ?_
                  refine fs_icmp_ne (pc := 1516) (tgt := 1557) (by decide) dL_law_1516 hW (fun hW => ?_) (fun hW => ?_)
                  · refine fs_iconst (pc := 1557) 0 (by decide) dL_law_1557 ?_
                    exact hW.elim
                  · refine fs_aload_n (pc := 1519) 0 rfl rfl dL_law_1519 ?_
                    refine fs_iconst (pc := 1520) (-1) (by decide) dL_law_1520 ?_
                    obtain ⟨hz, hrc, hW⟩ := hW
                    refine fs_callV_I (pc := 1521) (As := [.int (-1)]) (st := []) wd_X11_work w_855 ok_X11_work (by decide) rfl (Nat.le_of_ble_eq_true rfl) dL_law_1521 hz kc_X11 hrc hW (fun i119 s118 hW => ?_)
                    refine fs_bipush (pc := 1524) (-102) (by decide) dL_law_1524 ?_
                    refine fs_icmp_ne (pc := 1526) (tgt := 1557) (by decide) dL_law_1526 hW (fun hW => ?_) (fun hW => ?_)
                    · refine fs_iconst (pc := 1557) 0 (by decide) dL_law_1557 ?_
                      exact hW.elim
                    · refine fs_aload_n (pc := 1529) 0 rfl rfl dL_law_1529 ?_
                      refine fs_sipush (pc := 1530) 10000 (by decide) dL_law_1530 ?_
                      refine fs_iconst (pc := 1533) 0 (by decide) dL_law_1533 ?_
                      obtain ⟨hz, hrc, hW⟩ := hW
                      refine fs_callV_I (pc := 1534) (As := [.int 10000, .int 0]) (st := []) wd_X11_choose w_856 ok_X11_choose (by decide) rfl (Nat.le_of_ble_eq_true rfl) dL_law_1534 hz kc_X11 hrc hW (fun i123 s122 hW => ?_)
                      refine fs_bipush (pc := 1537) (-102) (by decide) dL_law_1537 ?_
                      refine fs_icmp_ne (pc := 1539) (tgt := 1557) (by decide) dL_law_1539 hW (fun hW => ?_) (fun hW => ?_)
                      · refine fs_iconst (pc := 1557) 0 (by decide) dL_law_1557 ?_
                        exact hW.elim
                      · refine fs_aload_n (pc := 1542) 0 rfl rfl dL_law_1542 ?_
                        refine fs_iconst (pc := 1543) 0 (by decide) dL_law_1543 ?_
                        refine fs_iconst (pc := 1544) 3 (by decide) dL_law_1544 ?_
                        obtain ⟨hz, hrc, hW⟩ := hW
                        refine fs_callV_I (pc := 1545) (As := [.int 0, .int 3]) (st := []) wd_X11_steps w_857 ok_X11_steps (by decide) rfl (Nat.le_of_ble_eq_true rfl) dL_law_1545 hz kc_X11 hrc hW (fun i127 s126 hW => ?_)
                        refine fs_bipush (pc := 1548) (-102) (by decide) dL_law_1548 ?_
                        refine fs_icmp_ne (pc := 1550) (tgt := 1557) (by decide) dL_law_1550 hW (fun hW => ?_) (fun hW => ?_)
                        · refine fs_iconst (pc := 1557) 0 (by decide) dL_law_1557 ?_
                          exact hW.elim
                        · refine fs_iconst (pc := 1553) 1 (by decide) dL_law_1553 ?_
                          refine fs_goto (pc := 1554) (tgt := 1558) (by decide) dL_law_1554 ?_
                          exact fs_end (pc := 1558) dL_law_1558 hW
  · refine fs_iconst (pc := 1226) (-1) (by decide) dL_law_1226 ?_
    refine fs_istore (pc := 1227) (lv' := [(21, .int (-1)), (1, .ref a1), (6, .int v6), (7, .int v7), (13, .int v13), (15, .int v15), (17, .ref a17), (18, .int v18), (19, .int v19), (20, .int v20)]) (by decide) rfl dL_law_1227 ?_
    refine fs_aload (pc := 1229) 6 rfl dL_law_1229 ?_
    refine fs_iload (pc := 1231) 7 rfl dL_law_1231 ?_
    refine fs_iald (pc := 1233) dL_law_1233 hW (fun i130 hW => ?_)
    refine fs_istore (pc := 1234) (lv' := [(22, .int i130), (21, .int (-1)), (1, .ref a1), (6, .int v6), (7, .int v7), (13, .int v13), (15, .int v15), (17, .ref a17), (18, .int v18), (19, .int v19), (20, .int v20)]) (by decide) rfl dL_law_1234 ?_
    refine fs_iconst (pc := 1236) 0 (by decide) dL_law_1236 ?_
    refine fs_istore (pc := 1237) (lv' := [(23, .int 0), (22, .int i130), (21, .int (-1)), (1, .ref a1), (6, .int v6), (7, .int v7), (13, .int v13), (15, .int v15), (17, .ref a17), (18, .int v18), (19, .int v19), (20, .int v20)]) (by decide) rfl dL_law_1237 ?_
    exact fs_sub [3, 4, 5, 6, 7, 8, 9, 10, 2, 1, 0] rfl hW
set_option maxHeartbeats 4000000 in
set_option maxRecDepth 100000 in
theorem q_L_law_819 {g : GG} {b L : Nat} {xs : Nat → Int32} {σ : Hs} (kM nM : Nat) (a1 : Nat) (v6 : Int32) (v7 : Int32) (a9 : Nat) (a11 : Nat) (v12 : Int32) (v13 : Int32) (v14 : Int32) (v15 : Int32) (v16 : Int32) (a17 : Nat) (v18 : Int32) (v19 : Int32) (v20 : Int32) (v21 : Int32) (hL : L ≤ 260) (hW : (v6 ≤ v21 → J_L_law_894 g b L xs kM nM σ a1 v6 v7 a9 a11 v12 v13 v14 v15 v16 a17 v18 v19 v20 0 ) ∧ (¬ v6 ≤ v21 → (¬ ((v18 >>> (v21 &&& 31)) &&& 1) = 1 → J_L_law_855 g b L xs kM nM σ a1 v6 v7 a9 a11 v12 v13 v14 v15 v16 a17 v18 v20 v21 0 v19) ∧ (((v18 >>> (v21 &&& 31)) &&& 1) = 1 → ((kM) ≤ 600000 ∧ (nM) ≤ 7302250) ∧ Rc σ a1 11 ∧ Do g M_X11_about 0 0 [.ref a1, .int v21, .int 2] σ (kI (fun i132 s131 => J_L_law_855 g b L xs kM nM s131 a1 v6 v7 a9 a11 v12 v13 v14 v15 v16 a17 v18 v20 v21 ((v12 * (i132 + 2))) v19))))) : J_L_law_819 g b L xs kM nM σ a1 v6 v7 a9 a11 v12 v13 v14 v15 v16 a17 v18 v19 v20 v21 := by
  show Fs g (SL b L xs g) (600000, 7302250, kM, nM) [(1, .ref a1), (6, .int v6), (7, .int v7), (9, .ref a9), (11, .ref a11), (12, .int v12), (13, .int v13), (14, .int v14), (15, .int v15), (16, .int v16), (17, .ref a17), (18, .int v18), (19, .int v19), (20, .int v20), (21, .int v21)] [] 819 σ
  refine fs_iload (pc := 819) 14 rfl dL_law_819 ?_
  refine fs_iload (pc := 821) 1 rfl dL_law_821 ?_
  refine fs_icmp_ge (pc := 823) (tgt := 891) (by decide) dL_law_823 hW (fun hW => ?_) (fun hW => ?_)
  · refine fs_iconst (pc := 891) 0 (by decide) dL_law_891 ?_
    refine fs_istore (pc := 892) (lv' := [(21, .int 0), (1, .ref a1), (6, .int v6), (7, .int v7), (9, .ref a9), (11, .ref a11), (12, .int v12), (13, .int v13), (14, .int v14), (15, .int v15), (16, .int v16), (17, .ref a17), (18, .int v18), (19, .int v19), (20, .int v20)]) (by decide) rfl dL_law_892 ?_
    exact fs_sub [1, 2, 3, 4, 5, 6, 7, 8, 9, 10, 11, 12, 13, 14, 0] rfl hW
  · refine fs_iload (pc := 826) 12 rfl dL_law_826 ?_
    refine fs_iload (pc := 828) 11 rfl dL_law_828 ?_
    refine fs_iload (pc := 830) 14 rfl dL_law_830 ?_
    refine fs_ishr (pc := 832) dL_law_832 ?_
    refine fs_iconst (pc := 833) 1 (by decide) dL_law_833 ?_
    refine fs_iand (pc := 834) dL_law_834 ?_
    refine fs_iconst (pc := 835) 1 (by decide) dL_law_835 ?_
    refine fs_icmp_ne (pc := 836) (tgt := 854) (by decide) dL_law_836 hW (fun hW => ?_) (fun hW => ?_)
    · refine fs_iconst (pc := 854) 0 (by decide) dL_law_854 ?_
      exact fs_sub [0, 1, 2, 3, 4, 5, 6, 7, 8, 9, 10, 11, 13, 14] rfl hW
    · refine fs_iload (pc := 839) 5 rfl dL_law_839 ?_
      refine fs_aload_n (pc := 841) 0 rfl rfl dL_law_841 ?_
      refine fs_iload (pc := 842) 14 rfl dL_law_842 ?_
      refine fs_iconst (pc := 844) 2 (by decide) dL_law_844 ?_
      obtain ⟨hz, hrc, hW⟩ := hW
      refine fs_callV_I (pc := 845) (As := [.int v21, .int 2]) (st := [.int v12, .int v19]) wd_X11_about w_763 ok_X11_about (by decide) rfl (Nat.le_of_ble_eq_true rfl) dL_law_845 hz kc_X11 hrc hW (fun i132 s131 hW => ?_)
      refine fs_iconst (pc := 848) 2 (by decide) dL_law_848 ?_
      refine fs_iadd (pc := 849) dL_law_849 ?_
      refine fs_imul (pc := 850) dL_law_850 ?_
      refine fs_goto (pc := 851) (tgt := 855) (by decide) dL_law_851 ?_
      exact fs_sub [0, 1, 2, 3, 4, 5, 6, 7, 8, 9, 10, 11, 13, 14] rfl hW
set_option maxHeartbeats 4000000 in
set_option maxRecDepth 100000 in
theorem q_L_law_629 {g : GG} {b L : Nat} {xs : Nat → Int32} {σ : Hs} (kM nM : Nat) (a1 : Nat) (v2 : Int32) (v6 : Int32) (v7 : Int32) (a8 : Nat) (a9 : Nat) (a10 : Nat) (a11 : Nat) (v12 : Int32) (v13 : Int32) (v14 : Int32) (hL : L ≤ 260) (hW : (v6 ≤ v14 → J_L_law_618 g b L xs kM nM σ a1 v2 v6 v7 a8 a9 a10 a11 v12 ((v13 + 1)) ) ∧ (¬ v6 ≤ v14 → (¬ v13 = v14 → (0 ≤ v13 → J_L_law_670 g b L xs kM nM σ a1 v2 v6 v7 a8 a9 a10 a11 v12 v13 v14 (((100 + (10 * v13)) + v14))) ∧ (¬ 0 ≤ v13 → J_L_law_670 g b L xs kM nM σ a1 v2 v6 v7 a8 a9 a10 a11 v12 v13 v14 (-1))) ∧ (v13 = v14 → J_L_law_670 g b L xs kM nM σ a1 v2 v6 v7 a8 a9 a10 a11 v12 v13 v14 ((v13 + 1))))) : J_L_law_629 g b L xs kM nM σ a1 v2 v6 v7 a8 a9 a10 a11 v12 v13 v14 := by
  show Fs g (SL b L xs g) (600000, 7302250, kM, nM) [(0, .ref b), (1, .ref a1), (2, .int v2), (6, .int v6), (7, .int v7), (8, .ref a8), (9, .ref a9), (10, .ref a10), (11, .ref a11), (12, .int v12), (13, .int v13), (14, .int v14)] [] 629 σ
  refine fs_iload (pc := 629) 11 rfl dL_law_629 ?_
  refine fs_iload (pc := 631) 3 rfl dL_law_631 ?_
  refine fs_icmp_ge (pc := 633) (tgt := 738) (by decide) dL_law_633 hW (fun hW => ?_) (fun hW => ?_)
  · refine fs_iinc (pc := 738) (lv' := [(13, .int (v13 + 1)), (0, .ref b), (1, .ref a1), (2, .int v2), (6, .int v6), (7, .int v7), (8, .ref a8), (9, .ref a9), (10, .ref a10), (11, .ref a11), (12, .int v12), (14, .int v14)]) (v13 + 1) 10 rfl (congrArg (fun z => v13 + z) (by decide)) (by decide) rfl dL_law_738 ?_
    refine fs_goto (pc := 741) (tgt := 618) (by decide) dL_law_741 ?_
    exact fs_sub [1, 2, 3, 4, 5, 6, 7, 8, 9, 10, 0] rfl hW
  · refine fs_iload (pc := 636) 10 rfl dL_law_636 ?_
    refine fs_iload (pc := 638) 11 rfl dL_law_638 ?_
    refine fs_icmp_ne (pc := 640) (tgt := 650) (by decide) dL_law_640 hW (fun hW => ?_) (fun hW => ?_)
    · refine fs_iload (pc := 650) 10 rfl dL_law_650 ?_
      refine fs_if_ge (pc := 652) (tgt := 659) (by decide) dL_law_652 hW (fun hW => ?_) (fun hW => ?_)
      · refine fs_bipush (pc := 659) 100 (by decide) dL_law_659 ?_
        refine fs_bipush (pc := 661) 10 (by decide) dL_law_661 ?_
        refine fs_iload (pc := 663) 10 rfl dL_law_663 ?_
        refine fs_imul (pc := 665) dL_law_665 ?_
        refine fs_iadd (pc := 666) dL_law_666 ?_
        refine fs_iload (pc := 667) 11 rfl dL_law_667 ?_
        refine fs_iadd (pc := 669) dL_law_669 ?_
        exact fs_sub [0, 1, 2, 3, 4, 5, 6, 7, 8, 9, 10, 11] rfl hW
      · refine fs_iconst (pc := 655) (-1) (by decide) dL_law_655 ?_
        refine fs_goto (pc := 656) (tgt := 670) (by decide) dL_law_656 ?_
        exact fs_sub [0, 1, 2, 3, 4, 5, 6, 7, 8, 9, 10, 11] rfl hW
    · refine fs_iload (pc := 643) 10 rfl dL_law_643 ?_
      refine fs_iconst (pc := 645) 1 (by decide) dL_law_645 ?_
      refine fs_iadd (pc := 646) dL_law_646 ?_
      refine fs_goto (pc := 647) (tgt := 670) (by decide) dL_law_647 ?_
      exact fs_sub [0, 1, 2, 3, 4, 5, 6, 7, 8, 9, 10, 11] rfl hW
set_option maxHeartbeats 4000000 in
set_option maxRecDepth 100000 in
theorem q_L_law_373 {g : GG} {b L : Nat} {xs : Nat → Int32} {σ : Hs} (kM nM : Nat) (a1 : Nat) (v2 : Int32) (v6 : Int32) (v7 : Int32) (a8 : Nat) (a9 : Nat) (a10 : Nat) (v11 : Int32) (v12 : Int32) (v13 : Int32) (v14 : Int32) (v15 : Int32) (hL : L ≤ 260) (hW : (4 ≤ v15 → AI g σ a8 0 (56 + v11) (fun i135 => (¬ i135 = 4 → AI g σ a8 0 (56 + v11) (fun i136 => ((kM) ≤ 600000 ∧ (nM) ≤ 7302250) ∧ Rc σ a1 11 ∧ Do g M_X11_get 0 0 [.ref a1, .int v13, .int i136] σ (kI (fun i138 s137 => (¬ i138 = v12 → J_L_law_511 g b L xs kM nM s137 a1 v2 v6 v7 a8 a9 a10 v11 v12 v13 v14 0) ∧ (i138 = v12 → J_L_law_511 g b L xs kM nM s137 a1 v2 v6 v7 a8 a9 a10 v11 v12 v13 v14 1))))) ∧ (i135 = 4 → (¬ v12 = 0 → J_L_law_511 g b L xs kM nM σ a1 v2 v6 v7 a8 a9 a10 v11 v12 v13 v14 0) ∧ (v12 = 0 → J_L_law_511 g b L xs kM nM σ a1 v2 v6 v7 a8 a9 a10 v11 v12 v13 v14 1)))) ∧ (¬ 4 ≤ v15 → (v14 = 0 → J_L_law_404 g b L xs kM nM σ a1 v2 v6 v7 a8 a9 a10 v11 v12 v13 v15 0) ∧ (¬ v14 = 0 → ((kM) ≤ 600000 ∧ (nM) ≤ 7302250) ∧ Do g M_L_within 0 0 [.ref a1, .ref a8, .int v11, .int v13, .int v15] σ (kI (fun i142 s141 => (i142 = 0 → J_L_law_404 g b L xs kM nM s141 a1 v2 v6 v7 a8 a9 a10 v11 v12 v13 v15 0) ∧ (¬ i142 = 0 → J_L_law_404 g b L xs kM nM s141 a1 v2 v6 v7 a8 a9 a10 v11 v12 v13 v15 1)))))) : J_L_law_373 g b L xs kM nM σ a1 v2 v6 v7 a8 a9 a10 v11 v12 v13 v14 v15 := by
  show Fs g (SL b L xs g) (600000, 7302250, kM, nM) [(0, .ref b), (1, .ref a1), (2, .int v2), (6, .int v6), (7, .int v7), (8, .ref a8), (9, .ref a9), (10, .ref a10), (11, .int v11), (12, .int v12), (13, .int v13), (14, .int v14), (15, .int v15)] [] 373 σ
  refine fs_iload (pc := 373) 12 rfl dL_law_373 ?_
  refine fs_iconst (pc := 375) 4 (by decide) dL_law_375 ?_
  refine fs_icmp_ge (pc := 376) (tgt := 462) (by decide) dL_law_376 hW (fun hW => ?_) (fun hW => ?_)
  · refine fs_aload (pc := 462) 5 rfl dL_law_462 ?_
    refine fs_bipush (pc := 464) 56 (by decide) dL_law_464 ?_
    refine fs_iload (pc := 466) 8 rfl dL_law_466 ?_
    refine fs_iadd (pc := 468) dL_law_468 ?_
    refine fs_iald (pc := 469) dL_law_469 hW (fun i135 hW => ?_)
    refine fs_iconst (pc := 470) 4 (by decide) dL_law_470 ?_
    refine fs_icmp_ne (pc := 471) (tgt := 487) (by decide) dL_law_471 hW (fun hW => ?_) (fun hW => ?_)
    · refine fs_aload_n (pc := 487) 1 rfl rfl dL_law_487 ?_
      refine fs_iload (pc := 488) 10 rfl dL_law_488 ?_
      refine fs_aload (pc := 490) 5 rfl dL_law_490 ?_
      refine fs_bipush (pc := 492) 56 (by decide) dL_law_492 ?_
      refine fs_iload (pc := 494) 8 rfl dL_law_494 ?_
      refine fs_iadd (pc := 496) dL_law_496 ?_
      refine fs_iald (pc := 497) dL_law_497 hW (fun i136 hW => ?_)
      obtain ⟨hz, hrc, hW⟩ := hW
      refine fs_callV_I (pc := 498) (As := [.int v13, .int i136]) (st := []) wd_X11_get w_736 ok_X11_get (by decide) rfl (Nat.le_of_ble_eq_true rfl) dL_law_498 hz kc_X11 hrc hW (fun i138 s137 hW => ?_)
      refine fs_iload (pc := 501) 9 rfl dL_law_501 ?_
      refine fs_icmp_ne (pc := 503) (tgt := 510) (by decide) dL_law_503 hW (fun hW => ?_) (fun hW => ?_)
      · refine fs_iconst (pc := 510) 0 (by decide) dL_law_510 ?_
        exact fs_sub [0, 1, 2, 3, 4, 5, 6, 7, 8, 9, 10, 11] rfl hW
      · refine fs_iconst (pc := 506) 1 (by decide) dL_law_506 ?_
        refine fs_goto (pc := 507) (tgt := 511) (by decide) dL_law_507 ?_
        exact fs_sub [0, 1, 2, 3, 4, 5, 6, 7, 8, 9, 10, 11] rfl hW
    · refine fs_iload (pc := 474) 9 rfl dL_law_474 ?_
      refine fs_if_ne (pc := 476) (tgt := 483) (by decide) dL_law_476 hW (fun hW => ?_) (fun hW => ?_)
      · refine fs_iconst (pc := 483) 0 (by decide) dL_law_483 ?_
        refine fs_goto (pc := 484) (tgt := 511) (by decide) dL_law_484 ?_
        exact fs_sub [0, 1, 2, 3, 4, 5, 6, 7, 8, 9, 10, 11] rfl hW
      · refine fs_iconst (pc := 479) 1 (by decide) dL_law_479 ?_
        refine fs_goto (pc := 480) (tgt := 511) (by decide) dL_law_480 ?_
        exact fs_sub [0, 1, 2, 3, 4, 5, 6, 7, 8, 9, 10, 11] rfl hW
  · refine fs_iload (pc := 379) 11 rfl dL_law_379 ?_
    refine fs_if_eq (pc := 381) (tgt := 403) (by decide) dL_law_381 hW (fun hW => ?_) (fun hW => ?_)
    · refine fs_iconst (pc := 403) 0 (by decide) dL_law_403 ?_
      exact fs_sub [0, 1, 2, 3, 4, 5, 6, 7, 8, 9, 10, 12] rfl hW
    · refine fs_aload_n (pc := 384) 1 rfl rfl dL_law_384 ?_
      refine fs_aload (pc := 385) 5 rfl dL_law_385 ?_
      refine fs_iload (pc := 387) 8 rfl dL_law_387 ?_
      refine fs_iload (pc := 389) 10 rfl dL_law_389 ?_
      refine fs_iload (pc := 391) 12 rfl dL_law_391 ?_
      obtain ⟨hz, hW⟩ := hW
      refine fs_callS_I (pc := 393) (As := [.ref a1, .ref a8, .int v11, .int v13, .int v15]) (st := []) wd_L_within w_767 ok_L_within (by decide) rfl (Nat.le_of_ble_eq_true rfl) dL_law_393 hz hW (fun i142 s141 hW => ?_)
      refine fs_if_eq (pc := 396) (tgt := 403) (by decide) dL_law_396 hW (fun hW => ?_) (fun hW => ?_)
      · refine fs_iconst (pc := 403) 0 (by decide) dL_law_403 ?_
        exact fs_sub [0, 1, 2, 3, 4, 5, 6, 7, 8, 9, 10, 12] rfl hW
      · refine fs_iconst (pc := 399) 1 (by decide) dL_law_399 ?_
        refine fs_goto (pc := 400) (tgt := 404) (by decide) dL_law_400 ?_
        exact fs_sub [0, 1, 2, 3, 4, 5, 6, 7, 8, 9, 10, 12] rfl hW
set_option maxHeartbeats 4000000 in
set_option maxRecDepth 100000 in
theorem q_L_law_1239 {g : GG} {b L : Nat} {xs : Nat → Int32} {σ : Hs} (kM nM : Nat) (a1 : Nat) (v6 : Int32) (v7 : Int32) (v13 : Int32) (v15 : Int32) (a17 : Nat) (v18 : Int32) (v19 : Int32) (v21 : Int32) (v22 : Int32) (v23 : Int32) (hL : L ≤ 260) (hW : (v6 ≤ v23 → (v21 < 0 → J_L_law_1352 g b L xs kM nM σ a1 v6 v7 v13 v15 a17 v18 v19 v21 v22 0) ∧ (¬ v21 < 0 → J_L_law_1352 g b L xs kM nM σ a1 v6 v7 v13 v15 a17 v18 v19 v21 v22 1)) ∧ (¬ v6 ≤ v23 → J_L_law_1261 g b L xs kM nM σ a1 v6 v7 v13 v15 a17 v18 v19 v21 v22 v23 ((v18 ||| ((1 : Int32) <<< (v23 &&& 31)))) 0 0 )) : J_L_law_1239 g b L xs kM nM σ a1 v6 v7 v13 v15 a17 v18 v19 v21 v22 v23 := by
  show Fs g (SL b L xs g) (600000, 7302250, kM, nM) [(1, .ref a1), (6, .int v6), (7, .int v7), (13, .int v13), (15, .int v15), (17, .ref a17), (18, .int v18), (19, .int v19), (21, .int v21), (22, .int v22), (23, .int v23)] [] 1239 σ
  refine fs_iload (pc := 1239) 10 rfl dL_law_1239 ?_
  refine fs_iload (pc := 1241) 1 rfl dL_law_1241 ?_
  refine fs_icmp_ge (pc := 1243) (tgt := 1342) (by decide) dL_law_1243 hW (fun hW => ?_) (fun hW => ?_)
  · refine fs_iload (pc := 1342) 8 rfl dL_law_1342 ?_
    refine fs_if_lt (pc := 1344) (tgt := 1351) (by decide) dL_law_1344 hW (fun hW => ?_) (fun hW => ?_)
    · refine fs_iconst (pc := 1351) 0 (by decide) dL_law_1351 ?_
      exact fs_sub [0, 1, 2, 3, 4, 5, 6, 7, 8, 9] rfl hW
    · refine fs_iconst (pc := 1347) 1 (by decide) dL_law_1347 ?_
      refine fs_goto (pc := 1348) (tgt := 1352) (by decide) dL_law_1348 ?_
      exact fs_sub [0, 1, 2, 3, 4, 5, 6, 7, 8, 9] rfl hW
  · refine fs_iload (pc := 1246) 6 rfl dL_law_1246 ?_
    refine fs_iconst (pc := 1248) 1 (by decide) dL_law_1248 ?_
    refine fs_iload (pc := 1249) 10 rfl dL_law_1249 ?_
    refine fs_ishl (pc := 1251) dL_law_1251 ?_
    refine fs_ior (pc := 1252) dL_law_1252 ?_
    refine fs_istore (pc := 1253) (lv' := [(24, .int (v18 ||| ((1 : Int32) <<< (v23 &&& 31)))), (1, .ref a1), (6, .int v6), (7, .int v7), (13, .int v13), (15, .int v15), (17, .ref a17), (18, .int v18), (19, .int v19), (21, .int v21), (22, .int v22), (23, .int v23)]) (by decide) rfl dL_law_1253 ?_
    refine fs_iconst (pc := 1255) 0 (by decide) dL_law_1255 ?_
    refine fs_istore (pc := 1256) (lv' := [(25, .int 0), (24, .int (v18 ||| ((1 : Int32) <<< (v23 &&& 31)))), (1, .ref a1), (6, .int v6), (7, .int v7), (13, .int v13), (15, .int v15), (17, .ref a17), (18, .int v18), (19, .int v19), (21, .int v21), (22, .int v22), (23, .int v23)]) (by decide) rfl dL_law_1256 ?_
    refine fs_iconst (pc := 1258) 0 (by decide) dL_law_1258 ?_
    refine fs_istore (pc := 1259) (lv' := [(26, .int 0), (25, .int 0), (24, .int (v18 ||| ((1 : Int32) <<< (v23 &&& 31)))), (1, .ref a1), (6, .int v6), (7, .int v7), (13, .int v13), (15, .int v15), (17, .ref a17), (18, .int v18), (19, .int v19), (21, .int v21), (22, .int v22), (23, .int v23)]) (by decide) rfl dL_law_1259 ?_
    exact fs_sub [3, 4, 5, 6, 7, 8, 9, 10, 11, 12, 13, 2, 1, 0] rfl hW
set_option maxHeartbeats 4000000 in
set_option maxRecDepth 100000 in
theorem q_L_law_894 {g : GG} {b L : Nat} {xs : Nat → Int32} {σ : Hs} (kM nM : Nat) (a1 : Nat) (v6 : Int32) (v7 : Int32) (a9 : Nat) (a11 : Nat) (v12 : Int32) (v13 : Int32) (v14 : Int32) (v15 : Int32) (v16 : Int32) (a17 : Nat) (v18 : Int32) (v19 : Int32) (v20 : Int32) (v21 : Int32) (hL : L ≤ 260) (hW : (v7 ≤ v21 → SI g σ a17 0 v18 v19 (fun s145 => ((kM) ≤ 600000 ∧ (nM) ≤ 7302250) ∧ Rc s145 a1 11 ∧ Do g M_X11_work 0 0 [.ref a1, .int v18] s145 (kI (fun i147 s146 => (i147 = v19 → (v13 < v20 → J_L_law_801 g b L xs kM nM s146 a1 v6 v7 a9 a11 v12 v13 v14 v15 v16 a17 ((v18 + 1)) ) ∧ (¬ v13 < v20 → (v15 < 0 → J_L_law_801 g b L xs kM nM s146 a1 v6 v7 a9 a11 v12 v13 v18 v19 v20 a17 ((v18 + 1)) ) ∧ (¬ v15 < 0 → (v19 < v15 → J_L_law_801 g b L xs kM nM s146 a1 v6 v7 a9 a11 v12 v13 v18 v19 v20 a17 ((v18 + 1)) ) ∧ (¬ v19 < v15 → (¬ v19 = v15 → J_L_law_801 g b L xs kM nM s146 a1 v6 v7 a9 a11 v12 v13 v14 v15 v16 a17 ((v18 + 1)) ) ∧ (v19 = v15 → (v16 ≤ v20 → J_L_law_801 g b L xs kM nM s146 a1 v6 v7 a9 a11 v12 v13 v14 v15 v16 a17 ((v18 + 1)) ) ∧ (¬ v16 ≤ v20 → J_L_law_801 g b L xs kM nM s146 a1 v6 v7 a9 a11 v12 v13 v18 v19 v20 a17 ((v18 + 1)) )))))) ∧ (¬ i147 = v19 → False))))) ∧ (¬ v7 ≤ v21 → AI g σ a11 0 (16 * v21) (fun i150 => J_L_law_917 g b L xs kM nM σ a1 v6 v7 a9 a11 v12 v13 v14 v15 v16 a17 v18 v19 v20 v21 0 i150 0 ))) : J_L_law_894 g b L xs kM nM σ a1 v6 v7 a9 a11 v12 v13 v14 v15 v16 a17 v18 v19 v20 v21 := by
  show Fs g (SL b L xs g) (600000, 7302250, kM, nM) [(1, .ref a1), (6, .int v6), (7, .int v7), (9, .ref a9), (11, .ref a11), (12, .int v12), (13, .int v13), (14, .int v14), (15, .int v15), (16, .int v16), (17, .ref a17), (18, .int v18), (19, .int v19), (20, .int v20), (21, .int v21)] [] 894 σ
  refine fs_iload (pc := 894) 14 rfl dL_law_894 ?_
  refine fs_iload (pc := 896) 2 rfl dL_law_896 ?_
  refine fs_icmp_ge (pc := 898) (tgt := 1103) (by decide) dL_law_898 hW (fun hW => ?_) (fun hW => ?_)
  · refine fs_aload (pc := 1103) 10 rfl dL_law_1103 ?_
    refine fs_iload (pc := 1105) 11 rfl dL_law_1105 ?_
    refine fs_iload (pc := 1107) 12 rfl dL_law_1107 ?_
    refine fs_iast (pc := 1109) dL_law_1109 hW (fun s145 hW => ?_)
    refine fs_aload_n (pc := 1110) 0 rfl rfl dL_law_1110 ?_
    refine fs_iload (pc := 1111) 11 rfl dL_law_1111 ?_
    obtain ⟨hz, hrc, hW⟩ := hW
    refine fs_callV_I (pc := 1113) (As := [.int v18]) (st := []) wd_X11_work w_855 ok_X11_work (by decide) rfl (Nat.le_of_ble_eq_true rfl) dL_law_1113 hz kc_X11 hrc hW (fun i147 s146 hW => ?_)
    refine fs_iload (pc := 1116) 12 rfl dL_law_1116 ?_
    refine fs_icmp_eq (pc := 1118) (tgt := 1123) (by decide) dL_law_1118 hW (fun hW => ?_) (fun hW => ?_)
    · refine fs_iload (pc := 1123) 13 rfl dL_law_1123 ?_
      refine fs_iload (pc := 1125) 6 rfl dL_law_1125 ?_
      refine fs_icmp_gt (pc := 1127) (tgt := 1168) (by decide) dL_law_1127 hW (fun hW => ?_) (fun hW => ?_)
      · refine fs_iinc (pc := 1168) (lv' := [(18, .int (v18 + 1)), (1, .ref a1), (6, .int v6), (7, .int v7), (9, .ref a9), (11, .ref a11), (12, .int v12), (13, .int v13), (14, .int v14), (15, .int v15), (16, .int v16), (17, .ref a17), (19, .int v19), (20, .int v20), (21, .int v21)]) (v18 + 1) 11 rfl (congrArg (fun z => v18 + z) (by decide)) (by decide) rfl dL_law_1168 ?_
        refine fs_goto (pc := 1171) (tgt := 801) (by decide) dL_law_1171 ?_
        exact fs_sub [1, 2, 3, 4, 5, 6, 7, 8, 9, 10, 11, 0] rfl hW
      · refine fs_iload (pc := 1130) 8 rfl dL_law_1130 ?_
        refine fs_if_lt (pc := 1132) (tgt := 1156) (by decide) dL_law_1132 hW (fun hW => ?_) (fun hW => ?_)
        · refine fs_iload (pc := 1156) 11 rfl dL_law_1156 ?_
          refine fs_istore (pc := 1158) (lv' := [(14, .int v18), (1, .ref a1), (6, .int v6), (7, .int v7), (9, .ref a9), (11, .ref a11), (12, .int v12), (13, .int v13), (15, .int v15), (16, .int v16), (17, .ref a17), (18, .int v18), (19, .int v19), (20, .int v20), (21, .int v21)]) (by decide) rfl dL_law_1158 ?_
          refine fs_iload (pc := 1160) 12 rfl dL_law_1160 ?_
          refine fs_istore (pc := 1162) (lv' := [(15, .int v19), (14, .int v18), (1, .ref a1), (6, .int v6), (7, .int v7), (9, .ref a9), (11, .ref a11), (12, .int v12), (13, .int v13), (16, .int v16), (17, .ref a17), (18, .int v18), (19, .int v19), (20, .int v20), (21, .int v21)]) (by decide) rfl dL_law_1162 ?_
          refine fs_iload (pc := 1164) 13 rfl dL_law_1164 ?_
          refine fs_istore (pc := 1166) (lv' := [(16, .int v20), (15, .int v19), (14, .int v18), (1, .ref a1), (6, .int v6), (7, .int v7), (9, .ref a9), (11, .ref a11), (12, .int v12), (13, .int v13), (17, .ref a17), (18, .int v18), (19, .int v19), (20, .int v20), (21, .int v21)]) (by decide) rfl dL_law_1166 ?_
          refine fs_iinc (pc := 1168) (lv' := [(18, .int (v18 + 1)), (16, .int v20), (15, .int v19), (14, .int v18), (1, .ref a1), (6, .int v6), (7, .int v7), (9, .ref a9), (11, .ref a11), (12, .int v12), (13, .int v13), (17, .ref a17), (19, .int v19), (20, .int v20), (21, .int v21)]) (v18 + 1) 11 rfl (congrArg (fun z => v18 + z) (by decide)) (by decide) rfl dL_law_1168 ?_
          refine fs_goto (pc := 1171) (tgt := 801) (by decide) dL_law_1171 ?_
          exact fs_sub [4, 5, 6, 7, 8, 9, 10, 3, 2, 1, 11, 0] rfl hW
        · refine fs_iload (pc := 1135) 12 rfl dL_law_1135 ?_
          refine fs_iload (pc := 1137) 8 rfl dL_law_1137 ?_
          refine fs_icmp_lt (pc := 1139) (tgt := 1156) (by decide) dL_law_1139 hW (fun hW => ?_) (fun hW => ?_)
          · refine fs_iload (pc := 1156) 11 rfl dL_law_1156 ?_
            refine fs_istore (pc := 1158) (lv' := [(14, .int v18), (1, .ref a1), (6, .int v6), (7, .int v7), (9, .ref a9), (11, .ref a11), (12, .int v12), (13, .int v13), (15, .int v15), (16, .int v16), (17, .ref a17), (18, .int v18), (19, .int v19), (20, .int v20), (21, .int v21)]) (by decide) rfl dL_law_1158 ?_
            refine fs_iload (pc := 1160) 12 rfl dL_law_1160 ?_
            refine fs_istore (pc := 1162) (lv' := [(15, .int v19), (14, .int v18), (1, .ref a1), (6, .int v6), (7, .int v7), (9, .ref a9), (11, .ref a11), (12, .int v12), (13, .int v13), (16, .int v16), (17, .ref a17), (18, .int v18), (19, .int v19), (20, .int v20), (21, .int v21)]) (by decide) rfl dL_law_1162 ?_
            refine fs_iload (pc := 1164) 13 rfl dL_law_1164 ?_
            refine fs_istore (pc := 1166) (lv' := [(16, .int v20), (15, .int v19), (14, .int v18), (1, .ref a1), (6, .int v6), (7, .int v7), (9, .ref a9), (11, .ref a11), (12, .int v12), (13, .int v13), (17, .ref a17), (18, .int v18), (19, .int v19), (20, .int v20), (21, .int v21)]) (by decide) rfl dL_law_1166 ?_
            refine fs_iinc (pc := 1168) (lv' := [(18, .int (v18 + 1)), (16, .int v20), (15, .int v19), (14, .int v18), (1, .ref a1), (6, .int v6), (7, .int v7), (9, .ref a9), (11, .ref a11), (12, .int v12), (13, .int v13), (17, .ref a17), (19, .int v19), (20, .int v20), (21, .int v21)]) (v18 + 1) 11 rfl (congrArg (fun z => v18 + z) (by decide)) (by decide) rfl dL_law_1168 ?_
            refine fs_goto (pc := 1171) (tgt := 801) (by decide) dL_law_1171 ?_
            exact fs_sub [4, 5, 6, 7, 8, 9, 10, 3, 2, 1, 11, 0] rfl hW
          · refine fs_iload (pc := 1142) 12 rfl dL_law_1142 ?_
            refine fs_iload (pc := 1144) 8 rfl dL_law_1144 ?_
            refine fs_icmp_ne (pc := 1146) (tgt := 1168) (by decide) dL_law_1146 hW (fun hW => ?_) (fun hW => ?_)
            · refine fs_iinc (pc := 1168) (lv' := [(18, .int (v18 + 1)), (1, .ref a1), (6, .int v6), (7, .int v7), (9, .ref a9), (11, .ref a11), (12, .int v12), (13, .int v13), (14, .int v14), (15, .int v15), (16, .int v16), (17, .ref a17), (19, .int v19), (20, .int v20), (21, .int v21)]) (v18 + 1) 11 rfl (congrArg (fun z => v18 + z) (by decide)) (by decide) rfl dL_law_1168 ?_
              refine fs_goto (pc := 1171) (tgt := 801) (by decide) dL_law_1171 ?_
              exact fs_sub [1, 2, 3, 4, 5, 6, 7, 8, 9, 10, 11, 0] rfl hW
            · refine fs_iload (pc := 1149) 13 rfl dL_law_1149 ?_
              refine fs_iload (pc := 1151) 9 rfl dL_law_1151 ?_
              refine fs_icmp_ge (pc := 1153) (tgt := 1168) (by decide) dL_law_1153 hW (fun hW => ?_) (fun hW => ?_)
              · refine fs_iinc (pc := 1168) (lv' := [(18, .int (v18 + 1)), (1, .ref a1), (6, .int v6), (7, .int v7), (9, .ref a9), (11, .ref a11), (12, .int v12), (13, .int v13), (14, .int v14), (15, .int v15), (16, .int v16), (17, .ref a17), (19, .int v19), (20, .int v20), (21, .int v21)]) (v18 + 1) 11 rfl (congrArg (fun z => v18 + z) (by decide)) (by decide) rfl dL_law_1168 ?_
                refine fs_goto (pc := 1171) (tgt := 801) (by decide) dL_law_1171 ?_
                exact fs_sub [1, 2, 3, 4, 5, 6, 7, 8, 9, 10, 11, 0] rfl hW
              · refine fs_iload (pc := 1156) 11 rfl dL_law_1156 ?_
                refine fs_istore (pc := 1158) (lv' := [(14, .int v18), (1, .ref a1), (6, .int v6), (7, .int v7), (9, .ref a9), (11, .ref a11), (12, .int v12), (13, .int v13), (15, .int v15), (16, .int v16), (17, .ref a17), (18, .int v18), (19, .int v19), (20, .int v20), (21, .int v21)]) (by decide) rfl dL_law_1158 ?_
                refine fs_iload (pc := 1160) 12 rfl dL_law_1160 ?_
                refine fs_istore (pc := 1162) (lv' := [(15, .int v19), (14, .int v18), (1, .ref a1), (6, .int v6), (7, .int v7), (9, .ref a9), (11, .ref a11), (12, .int v12), (13, .int v13), (16, .int v16), (17, .ref a17), (18, .int v18), (19, .int v19), (20, .int v20), (21, .int v21)]) (by decide) rfl dL_law_1162 ?_
                refine fs_iload (pc := 1164) 13 rfl dL_law_1164 ?_
                refine fs_istore (pc := 1166) (lv' := [(16, .int v20), (15, .int v19), (14, .int v18), (1, .ref a1), (6, .int v6), (7, .int v7), (9, .ref a9), (11, .ref a11), (12, .int v12), (13, .int v13), (17, .ref a17), (18, .int v18), (19, .int v19), (20, .int v20), (21, .int v21)]) (by decide) rfl dL_law_1166 ?_
                refine fs_iinc (pc := 1168) (lv' := [(18, .int (v18 + 1)), (16, .int v20), (15, .int v19), (14, .int v18), (1, .ref a1), (6, .int v6), (7, .int v7), (9, .ref a9), (11, .ref a11), (12, .int v12), (13, .int v13), (17, .ref a17), (19, .int v19), (20, .int v20), (21, .int v21)]) (v18 + 1) 11 rfl (congrArg (fun z => v18 + z) (by decide)) (by decide) rfl dL_law_1168 ?_
                refine fs_goto (pc := 1171) (tgt := 801) (by decide) dL_law_1171 ?_
                exact fs_sub [4, 5, 6, 7, 8, 9, 10, 3, 2, 1, 11, 0] rfl hW
    · refine fs_iconst (pc := 1121) 0 (by decide) dL_law_1121 ?_
      exact hW.elim
  · refine fs_iconst (pc := 901) 0 (by decide) dL_law_901 ?_
    refine fs_istore (pc := 902) (lv' := [(22, .int 0), (1, .ref a1), (6, .int v6), (7, .int v7), (9, .ref a9), (11, .ref a11), (12, .int v12), (13, .int v13), (14, .int v14), (15, .int v15), (16, .int v16), (17, .ref a17), (18, .int v18), (19, .int v19), (20, .int v20), (21, .int v21)]) (by decide) rfl dL_law_902 ?_
    refine fs_aload (pc := 904) 5 rfl dL_law_904 ?_
    refine fs_bipush (pc := 906) 16 (by decide) dL_law_906 ?_
    refine fs_iload (pc := 908) 15 rfl dL_law_908 ?_
    refine fs_imul (pc := 910) dL_law_910 ?_
    refine fs_iald (pc := 911) dL_law_911 hW (fun i150 hW => ?_)
    refine fs_istore (pc := 912) (lv' := [(23, .int i150), (22, .int 0), (1, .ref a1), (6, .int v6), (7, .int v7), (9, .ref a9), (11, .ref a11), (12, .int v12), (13, .int v13), (14, .int v14), (15, .int v15), (16, .int v16), (17, .ref a17), (18, .int v18), (19, .int v19), (20, .int v20), (21, .int v21)]) (by decide) rfl dL_law_912 ?_
    refine fs_iconst (pc := 914) 0 (by decide) dL_law_914 ?_
    refine fs_istore (pc := 915) (lv' := [(24, .int 0), (23, .int i150), (22, .int 0), (1, .ref a1), (6, .int v6), (7, .int v7), (9, .ref a9), (11, .ref a11), (12, .int v12), (13, .int v13), (14, .int v14), (15, .int v15), (16, .int v16), (17, .ref a17), (18, .int v18), (19, .int v19), (20, .int v20), (21, .int v21)]) (by decide) rfl dL_law_915 ?_
    exact fs_sub [3, 4, 5, 6, 7, 8, 9, 10, 11, 12, 13, 14, 15, 16, 17, 2, 1, 0] rfl hW
set_option maxHeartbeats 4000000 in
set_option maxRecDepth 100000 in
theorem q_L_law_855 {g : GG} {b L : Nat} {xs : Nat → Int32} {σ : Hs} (kM nM : Nat) (a1 : Nat) (v6 : Int32) (v7 : Int32) (a9 : Nat) (a11 : Nat) (v12 : Int32) (v13 : Int32) (v14 : Int32) (v15 : Int32) (v16 : Int32) (a17 : Nat) (v18 : Int32) (v20 : Int32) (v21 : Int32) (t0 : Int32) (t1 : Int32) (hL : L ≤ 260) (hW : (¬ ((v18 >>> (v21 &&& 31)) &&& 1) = 1 → J_L_law_819 g b L xs kM nM σ a1 v6 v7 a9 a11 v12 v13 v14 v15 v16 a17 v18 ((t1 + t0)) ((v20 + 0)) ((v21 + 1)) ) ∧ (((v18 >>> (v21 &&& 31)) &&& 1) = 1 → ((kM) ≤ 600000 ∧ (nM) ≤ 7302250) ∧ Rc σ a1 11 ∧ Do g M_X11_about 0 0 [.ref a1, .int v21, .int 3] σ (kI (fun i152 s151 => J_L_law_819 g b L xs kM nM s151 a1 v6 v7 a9 a11 v12 v13 v14 v15 v16 a17 v18 ((t1 + t0)) ((v20 + i152)) ((v21 + 1)) )))) : J_L_law_855 g b L xs kM nM σ a1 v6 v7 a9 a11 v12 v13 v14 v15 v16 a17 v18 v20 v21 t0 t1 := by
  show Fs g (SL b L xs g) (600000, 7302250, kM, nM) [(1, .ref a1), (6, .int v6), (7, .int v7), (9, .ref a9), (11, .ref a11), (12, .int v12), (13, .int v13), (14, .int v14), (15, .int v15), (16, .int v16), (17, .ref a17), (18, .int v18), (20, .int v20), (21, .int v21)] [.int t0, .int t1] 855 σ
  refine fs_iadd (pc := 855) dL_law_855 ?_
  refine fs_istore (pc := 856) (lv' := [(19, .int (t1 + t0)), (1, .ref a1), (6, .int v6), (7, .int v7), (9, .ref a9), (11, .ref a11), (12, .int v12), (13, .int v13), (14, .int v14), (15, .int v15), (16, .int v16), (17, .ref a17), (18, .int v18), (20, .int v20), (21, .int v21)]) (by decide) rfl dL_law_856 ?_
  refine fs_iload (pc := 858) 13 rfl dL_law_858 ?_
  refine fs_iload (pc := 860) 12 rfl dL_law_860 ?_
  refine fs_iload (pc := 862) 14 rfl dL_law_862 ?_
  refine fs_ishr (pc := 864) dL_law_864 ?_
  refine fs_iconst (pc := 865) 1 (by decide) dL_law_865 ?_
  refine fs_iand (pc := 866) dL_law_866 ?_
  refine fs_iconst (pc := 867) 1 (by decide) dL_law_867 ?_
  refine fs_icmp_ne (pc := 868) (tgt := 881) (by decide) dL_law_868 hW (fun hW => ?_) (fun hW => ?_)
  · refine fs_iconst (pc := 881) 0 (by decide) dL_law_881 ?_
    refine fs_iadd (pc := 882) dL_law_882 ?_
    refine fs_istore (pc := 883) (lv' := [(20, .int (v20 + 0)), (19, .int (t1 + t0)), (1, .ref a1), (6, .int v6), (7, .int v7), (9, .ref a9), (11, .ref a11), (12, .int v12), (13, .int v13), (14, .int v14), (15, .int v15), (16, .int v16), (17, .ref a17), (18, .int v18), (21, .int v21)]) (by decide) rfl dL_law_883 ?_
    refine fs_iinc (pc := 885) (lv' := [(21, .int (v21 + 1)), (20, .int (v20 + 0)), (19, .int (t1 + t0)), (1, .ref a1), (6, .int v6), (7, .int v7), (9, .ref a9), (11, .ref a11), (12, .int v12), (13, .int v13), (14, .int v14), (15, .int v15), (16, .int v16), (17, .ref a17), (18, .int v18)]) (v21 + 1) 14 rfl (congrArg (fun z => v21 + z) (by decide)) (by decide) rfl dL_law_885 ?_
    refine fs_goto (pc := 888) (tgt := 819) (by decide) dL_law_888 ?_
    exact fs_sub [3, 4, 5, 6, 7, 8, 9, 10, 11, 12, 13, 14, 2, 1, 0] rfl hW
  · refine fs_aload_n (pc := 871) 1 rfl rfl dL_law_871 ?_
    refine fs_iload (pc := 872) 14 rfl dL_law_872 ?_
    refine fs_iconst (pc := 874) 3 (by decide) dL_law_874 ?_
    obtain ⟨hz, hrc, hW⟩ := hW
    refine fs_callV_I (pc := 875) (As := [.int v21, .int 3]) (st := [.int v20]) wd_X11_about w_763 ok_X11_about (by decide) rfl (Nat.le_of_ble_eq_true rfl) dL_law_875 hz kc_X11 hrc hW (fun i152 s151 hW => ?_)
    refine fs_goto (pc := 878) (tgt := 882) (by decide) dL_law_878 ?_
    refine fs_iadd (pc := 882) dL_law_882 ?_
    refine fs_istore (pc := 883) (lv' := [(20, .int (v20 + i152)), (19, .int (t1 + t0)), (1, .ref a1), (6, .int v6), (7, .int v7), (9, .ref a9), (11, .ref a11), (12, .int v12), (13, .int v13), (14, .int v14), (15, .int v15), (16, .int v16), (17, .ref a17), (18, .int v18), (21, .int v21)]) (by decide) rfl dL_law_883 ?_
    refine fs_iinc (pc := 885) (lv' := [(21, .int (v21 + 1)), (20, .int (v20 + i152)), (19, .int (t1 + t0)), (1, .ref a1), (6, .int v6), (7, .int v7), (9, .ref a9), (11, .ref a11), (12, .int v12), (13, .int v13), (14, .int v14), (15, .int v15), (16, .int v16), (17, .ref a17), (18, .int v18)]) (v21 + 1) 14 rfl (congrArg (fun z => v21 + z) (by decide)) (by decide) rfl dL_law_885 ?_
    refine fs_goto (pc := 888) (tgt := 819) (by decide) dL_law_888 ?_
    exact fs_sub [3, 4, 5, 6, 7, 8, 9, 10, 11, 12, 13, 14, 2, 1, 0] rfl hW
set_option maxHeartbeats 4000000 in
set_option maxRecDepth 100000 in
theorem q_L_law_670 {g : GG} {b L : Nat} {xs : Nat → Int32} {σ : Hs} (kM nM : Nat) (a1 : Nat) (v2 : Int32) (v6 : Int32) (v7 : Int32) (a8 : Nat) (a9 : Nat) (a10 : Nat) (a11 : Nat) (v12 : Int32) (v13 : Int32) (v14 : Int32) (t0 : Int32) (hL : L ≤ 260) (hW : (t0 < 0 → J_L_law_629 g b L xs kM nM σ a1 v2 v6 v7 a8 a9 a10 a11 v12 v13 ((v14 + 1)) ) ∧ (¬ t0 < 0 → AI g σ a10 0 v12 (fun i155 => ∃ mc160 ms161 : Nat, ((kM) + mc160 ≤ 600000 ∧ (nM) + ms161 ≤ 7302250) ∧ Do g M_L_looks mc160 ms161 [.ref a1, .ref a8, .int v12, .int t0, .int v2, .int i155] σ (kI (fun i157 s156 => SI g s156 a11 0 ((((16 * v12) + (4 * (v13 + 1))) + v14) + 1) i157 (fun s162 => ((kM + mc160) ≤ 600000 ∧ (nM + ms161) ≤ 7302250) ∧ Rc s162 a1 11 ∧ Do g M_X11_looks 0 0 [.ref a1, .int v12, .int t0] s162 (kI (fun i164 s163 => (i164 = i157 → J_L_law_629 g b L xs (kM + mc160) (nM + ms161) s163 a1 v2 v6 v7 a8 a9 a10 a11 v12 v13 ((v14 + 1)) ) ∧ (¬ i164 = i157 → False))))))))) : J_L_law_670 g b L xs kM nM σ a1 v2 v6 v7 a8 a9 a10 a11 v12 v13 v14 t0 := by
  show Fs g (SL b L xs g) (600000, 7302250, kM, nM) [(0, .ref b), (1, .ref a1), (2, .int v2), (6, .int v6), (7, .int v7), (8, .ref a8), (9, .ref a9), (10, .ref a10), (11, .ref a11), (12, .int v12), (13, .int v13), (14, .int v14)] [.int t0] 670 σ
  refine fs_istore (pc := 670) (lv' := [(15, .int t0), (0, .ref b), (1, .ref a1), (2, .int v2), (6, .int v6), (7, .int v7), (8, .ref a8), (9, .ref a9), (10, .ref a10), (11, .ref a11), (12, .int v12), (13, .int v13), (14, .int v14)]) (by decide) rfl dL_law_670 ?_
  refine fs_iload (pc := 672) 0 rfl dL_law_672 ?_
  refine fs_if_lt (pc := 674) (tgt := 732) (by decide) dL_law_674 hW (fun hW => ?_) (fun hW => ?_)
  · refine fs_iinc (pc := 732) (lv' := [(14, .int (v14 + 1)), (15, .int t0), (0, .ref b), (1, .ref a1), (2, .int v2), (6, .int v6), (7, .int v7), (8, .ref a8), (9, .ref a9), (10, .ref a10), (11, .ref a11), (12, .int v12), (13, .int v13)]) (v14 + 1) 12 rfl (congrArg (fun z => v14 + z) (by decide)) (by decide) rfl dL_law_732 ?_
    refine fs_goto (pc := 735) (tgt := 629) (by decide) dL_law_735 ?_
    exact fs_sub [2, 3, 4, 5, 6, 7, 8, 9, 10, 11, 12, 0] rfl hW
  · refine fs_aload_n (pc := 677) 2 rfl rfl dL_law_677 ?_
    refine fs_aload (pc := 678) 6 rfl dL_law_678 ?_
    refine fs_iload (pc := 680) 10 rfl dL_law_680 ?_
    refine fs_iload (pc := 682) 0 rfl dL_law_682 ?_
    refine fs_iload_n (pc := 684) 3 rfl rfl dL_law_684 ?_
    refine fs_aload (pc := 685) 8 rfl dL_law_685 ?_
    refine fs_iload (pc := 687) 10 rfl dL_law_687 ?_
    refine fs_iald (pc := 689) dL_law_689 hW (fun i155 hW => ?_)
    obtain ⟨mc160, ms161, hz, hW⟩ := hW
    refine fs_callS_Ia (pc := 690) (As := [.ref a1, .ref a8, .int v12, .int t0, .int v2, .int i155]) (st := []) wd_L_looks w_851 ok_L_looks (by decide) rfl (Nat.le_of_ble_eq_true rfl) dL_law_690 hz (Z' := (600000, 7302250, kM + mc160, nM + ms161)) rfl hW (fun i157 s156 hW => ?_)
    refine fs_istore (pc := 693) (lv' := [(16, .int i157), (15, .int t0), (0, .ref b), (1, .ref a1), (2, .int v2), (6, .int v6), (7, .int v7), (8, .ref a8), (9, .ref a9), (10, .ref a10), (11, .ref a11), (12, .int v12), (13, .int v13), (14, .int v14)]) (by decide) rfl dL_law_693 ?_
    refine fs_aload (pc := 695) 10 rfl dL_law_695 ?_
    refine fs_bipush (pc := 697) 16 (by decide) dL_law_697 ?_
    refine fs_iload (pc := 699) 11 rfl dL_law_699 ?_
    refine fs_imul (pc := 701) dL_law_701 ?_
    refine fs_iconst (pc := 702) 4 (by decide) dL_law_702 ?_
    refine fs_iload (pc := 703) 12 rfl dL_law_703 ?_
    refine fs_iconst (pc := 705) 1 (by decide) dL_law_705 ?_
    refine fs_iadd (pc := 706) dL_law_706 ?_
    refine fs_imul (pc := 707) dL_law_707 ?_
    refine fs_iadd (pc := 708) dL_law_708 ?_
    refine fs_iload (pc := 709) 13 rfl dL_law_709 ?_
    refine fs_iadd (pc := 711) dL_law_711 ?_
    refine fs_iconst (pc := 712) 1 (by decide) dL_law_712 ?_
    refine fs_iadd (pc := 713) dL_law_713 ?_
    refine fs_iload (pc := 714) 0 rfl dL_law_714 ?_
    refine fs_iast (pc := 716) dL_law_716 hW (fun s162 hW => ?_)
    refine fs_aload_n (pc := 717) 3 rfl rfl dL_law_717 ?_
    refine fs_iload (pc := 718) 11 rfl dL_law_718 ?_
    refine fs_iload (pc := 720) 1 rfl dL_law_720 ?_
    obtain ⟨hz, hrc, hW⟩ := hW
    refine fs_callV_I (pc := 722) (As := [.int v12, .int t0]) (st := []) wd_X11_looks w_852 ok_X11_looks (by decide) rfl (Nat.le_of_ble_eq_true rfl) dL_law_722 hz kc_X11 hrc hW (fun i164 s163 hW => ?_)
    refine fs_iload (pc := 725) 0 rfl dL_law_725 ?_
    refine fs_icmp_eq (pc := 727) (tgt := 732) (by decide) dL_law_727 hW (fun hW => ?_) (fun hW => ?_)
    · refine fs_iinc (pc := 732) (lv' := [(14, .int (v14 + 1)), (16, .int i157), (15, .int t0), (0, .ref b), (1, .ref a1), (2, .int v2), (6, .int v6), (7, .int v7), (8, .ref a8), (9, .ref a9), (10, .ref a10), (11, .ref a11), (12, .int v12), (13, .int v13)]) (v14 + 1) 13 rfl (congrArg (fun z => v14 + z) (by decide)) (by decide) rfl dL_law_732 ?_
      refine fs_goto (pc := 735) (tgt := 629) (by decide) dL_law_735 ?_
      exact fs_sub [3, 4, 5, 6, 7, 8, 9, 10, 11, 12, 13, 0] rfl hW
    · refine fs_iconst (pc := 730) 0 (by decide) dL_law_730 ?_
      exact hW.elim
set_option maxHeartbeats 4000000 in
set_option maxRecDepth 100000 in
theorem q_L_law_511 {g : GG} {b L : Nat} {xs : Nat → Int32} {σ : Hs} (kM nM : Nat) (a1 : Nat) (v2 : Int32) (v6 : Int32) (v7 : Int32) (a8 : Nat) (a9 : Nat) (a10 : Nat) (v11 : Int32) (v12 : Int32) (v13 : Int32) (v14 : Int32) (t0 : Int32) (hL : L ≤ 260) (hW : (v14 = 0 → J_L_law_346 g b L xs kM nM σ a1 v2 v6 v7 a8 a9 a10 v11 v12 ((v13 + 1)) ) ∧ (¬ v14 = 0 → (t0 = 0 → J_L_law_346 g b L xs kM nM σ a1 v2 v6 v7 a8 a9 a10 v11 v12 ((v13 + 1)) ) ∧ (¬ t0 = 0 → AI g σ a10 0 v11 (fun i167 => ((kM) ≤ 600000 ∧ (nM) ≤ 7302250) ∧ Rc σ a1 11 ∧ Do g M_X11_answer 0 0 [.ref a1, .int v11, .int i167] σ (kI (fun i169 s168 => (i169 = v13 → AI g s168 a10 0 v11 (fun i172 => SI g s168 a10 0 v11 (i172 + 1) (fun s173 => J_L_law_346 g b L xs kM nM s173 a1 v2 v6 v7 a8 a9 a10 v11 v12 ((v13 + 1)) ))) ∧ (¬ i169 = v13 → False))))))) : J_L_law_511 g b L xs kM nM σ a1 v2 v6 v7 a8 a9 a10 v11 v12 v13 v14 t0 := by
  show Fs g (SL b L xs g) (600000, 7302250, kM, nM) [(0, .ref b), (1, .ref a1), (2, .int v2), (6, .int v6), (7, .int v7), (8, .ref a8), (9, .ref a9), (10, .ref a10), (11, .int v11), (12, .int v12), (13, .int v13), (14, .int v14)] [.int t0] 511 σ
  refine fs_istore (pc := 511) (lv' := [(15, .int t0), (0, .ref b), (1, .ref a1), (2, .int v2), (6, .int v6), (7, .int v7), (8, .ref a8), (9, .ref a9), (10, .ref a10), (11, .int v11), (12, .int v12), (13, .int v13), (14, .int v14)]) (by decide) rfl dL_law_511 ?_
  refine fs_iload (pc := 513) 12 rfl dL_law_513 ?_
  refine fs_if_eq (pc := 515) (tgt := 550) (by decide) dL_law_515 hW (fun hW => ?_) (fun hW => ?_)
  · refine fs_iinc (pc := 550) (lv' := [(13, .int (v13 + 1)), (15, .int t0), (0, .ref b), (1, .ref a1), (2, .int v2), (6, .int v6), (7, .int v7), (8, .ref a8), (9, .ref a9), (10, .ref a10), (11, .int v11), (12, .int v12), (14, .int v14)]) (v13 + 1) 11 rfl (congrArg (fun z => v13 + z) (by decide)) (by decide) rfl dL_law_550 ?_
    refine fs_goto (pc := 553) (tgt := 346) (by decide) dL_law_553 ?_
    exact fs_sub [2, 3, 4, 5, 6, 7, 8, 9, 10, 11, 0] rfl hW
  · refine fs_iload (pc := 518) 0 rfl dL_law_518 ?_
    refine fs_if_eq (pc := 520) (tgt := 550) (by decide) dL_law_520 hW (fun hW => ?_) (fun hW => ?_)
    · refine fs_iinc (pc := 550) (lv' := [(13, .int (v13 + 1)), (15, .int t0), (0, .ref b), (1, .ref a1), (2, .int v2), (6, .int v6), (7, .int v7), (8, .ref a8), (9, .ref a9), (10, .ref a10), (11, .int v11), (12, .int v12), (14, .int v14)]) (v13 + 1) 11 rfl (congrArg (fun z => v13 + z) (by decide)) (by decide) rfl dL_law_550 ?_
      refine fs_goto (pc := 553) (tgt := 346) (by decide) dL_law_553 ?_
      exact fs_sub [2, 3, 4, 5, 6, 7, 8, 9, 10, 11, 0] rfl hW
    · refine fs_aload_n (pc := 523) 2 rfl rfl dL_law_523 ?_
      refine fs_iload (pc := 524) 9 rfl dL_law_524 ?_
      refine fs_aload (pc := 526) 8 rfl dL_law_526 ?_
      refine fs_iload (pc := 528) 9 rfl dL_law_528 ?_
      refine fs_iald (pc := 530) dL_law_530 hW (fun i167 hW => ?_)
      obtain ⟨hz, hrc, hW⟩ := hW
      refine fs_callV_I (pc := 531) (As := [.int v11, .int i167]) (st := []) wd_X11_answer w_849 ok_X11_answer (by decide) rfl (Nat.le_of_ble_eq_true rfl) dL_law_531 hz kc_X11 hrc hW (fun i169 s168 hW => ?_)
      refine fs_iload (pc := 534) 11 rfl dL_law_534 ?_
      refine fs_icmp_eq (pc := 536) (tgt := 541) (by decide) dL_law_536 hW (fun hW => ?_) (fun hW => ?_)
      · refine fs_aload (pc := 541) 8 rfl dL_law_541 ?_
        refine fs_iload (pc := 543) 9 rfl dL_law_543 ?_
        refine fs_dup2 (pc := 545) rfl rfl dL_law_545 ?_
        refine fs_iald (pc := 546) dL_law_546 hW (fun i172 hW => ?_)
        refine fs_iconst (pc := 547) 1 (by decide) dL_law_547 ?_
        refine fs_iadd (pc := 548) dL_law_548 ?_
        refine fs_iast (pc := 549) dL_law_549 hW (fun s173 hW => ?_)
        refine fs_iinc (pc := 550) (lv' := [(13, .int (v13 + 1)), (15, .int t0), (0, .ref b), (1, .ref a1), (2, .int v2), (6, .int v6), (7, .int v7), (8, .ref a8), (9, .ref a9), (10, .ref a10), (11, .int v11), (12, .int v12), (14, .int v14)]) (v13 + 1) 11 rfl (congrArg (fun z => v13 + z) (by decide)) (by decide) rfl dL_law_550 ?_
        refine fs_goto (pc := 553) (tgt := 346) (by decide) dL_law_553 ?_
        exact fs_sub [2, 3, 4, 5, 6, 7, 8, 9, 10, 11, 0] rfl hW
      · refine fs_iconst (pc := 539) 0 (by decide) dL_law_539 ?_
        exact hW.elim
set_option maxHeartbeats 4000000 in
set_option maxRecDepth 100000 in
theorem q_L_law_404 {g : GG} {b L : Nat} {xs : Nat → Int32} {σ : Hs} (kM nM : Nat) (a1 : Nat) (v2 : Int32) (v6 : Int32) (v7 : Int32) (a8 : Nat) (a9 : Nat) (a10 : Nat) (v11 : Int32) (v12 : Int32) (v13 : Int32) (v15 : Int32) (t0 : Int32) (hL : L ≤ 260) (hW : ((kM) ≤ 600000 ∧ (nM) ≤ 7302250) ∧ Rc σ a1 11 ∧ Do g M_X11_bound 0 0 [.ref a1, .int v11, .int v15, .int 0] σ (kI (fun i175 s174 => AI g s174 a8 0 ((8 * v11) + v15) (fun i178 => (¬ i175 = i178 → False) ∧ (i175 = i178 → ((kM) ≤ 600000 ∧ (nM) ≤ 7302250) ∧ Rc s174 a1 11 ∧ Do g M_X11_bound 0 0 [.ref a1, .int v11, .int v15, .int 1] s174 (kI (fun i180 s179 => AI g s179 a8 0 (((8 * v11) + 4) + v15) (fun i183 => (i180 = i183 → J_L_law_373 g b L xs kM nM s179 a1 v2 v6 v7 a8 a9 a10 v11 v12 v13 t0 ((v15 + 1)) ) ∧ (¬ i180 = i183 → False))))))))) : J_L_law_404 g b L xs kM nM σ a1 v2 v6 v7 a8 a9 a10 v11 v12 v13 v15 t0 := by
  show Fs g (SL b L xs g) (600000, 7302250, kM, nM) [(0, .ref b), (1, .ref a1), (2, .int v2), (6, .int v6), (7, .int v7), (8, .ref a8), (9, .ref a9), (10, .ref a10), (11, .int v11), (12, .int v12), (13, .int v13), (15, .int v15)] [.int t0] 404 σ
  refine fs_istore (pc := 404) (lv' := [(14, .int t0), (0, .ref b), (1, .ref a1), (2, .int v2), (6, .int v6), (7, .int v7), (8, .ref a8), (9, .ref a9), (10, .ref a10), (11, .int v11), (12, .int v12), (13, .int v13), (15, .int v15)]) (by decide) rfl dL_law_404 ?_
  refine fs_aload_n (pc := 406) 2 rfl rfl dL_law_406 ?_
  refine fs_iload (pc := 407) 9 rfl dL_law_407 ?_
  refine fs_iload (pc := 409) 12 rfl dL_law_409 ?_
  refine fs_iconst (pc := 411) 0 (by decide) dL_law_411 ?_
  obtain ⟨hz, hrc, hW⟩ := hW
  refine fs_callV_I (pc := 412) (As := [.int v11, .int v15, .int 0]) (st := []) wd_X11_bound w_848 ok_X11_bound (by decide) rfl (Nat.le_of_ble_eq_true rfl) dL_law_412 hz kc_X11 hrc hW (fun i175 s174 hW => ?_)
  refine fs_aload (pc := 415) 6 rfl dL_law_415 ?_
  refine fs_bipush (pc := 417) 8 (by decide) dL_law_417 ?_
  refine fs_iload (pc := 419) 9 rfl dL_law_419 ?_
  refine fs_imul (pc := 421) dL_law_421 ?_
  refine fs_iload (pc := 422) 12 rfl dL_law_422 ?_
  refine fs_iadd (pc := 424) dL_law_424 ?_
  refine fs_iald (pc := 425) dL_law_425 hW (fun i178 hW => ?_)
  refine fs_icmp_ne (pc := 426) (tgt := 454) (by decide) dL_law_426 hW (fun hW => ?_) (fun hW => ?_)
  · refine fs_iconst (pc := 454) 0 (by decide) dL_law_454 ?_
    exact hW.elim
  · refine fs_aload_n (pc := 429) 2 rfl rfl dL_law_429 ?_
    refine fs_iload (pc := 430) 9 rfl dL_law_430 ?_
    refine fs_iload (pc := 432) 12 rfl dL_law_432 ?_
    refine fs_iconst (pc := 434) 1 (by decide) dL_law_434 ?_
    obtain ⟨hz, hrc, hW⟩ := hW
    refine fs_callV_I (pc := 435) (As := [.int v11, .int v15, .int 1]) (st := []) wd_X11_bound w_848 ok_X11_bound (by decide) rfl (Nat.le_of_ble_eq_true rfl) dL_law_435 hz kc_X11 hrc hW (fun i180 s179 hW => ?_)
    refine fs_aload (pc := 438) 6 rfl dL_law_438 ?_
    refine fs_bipush (pc := 440) 8 (by decide) dL_law_440 ?_
    refine fs_iload (pc := 442) 9 rfl dL_law_442 ?_
    refine fs_imul (pc := 444) dL_law_444 ?_
    refine fs_iconst (pc := 445) 4 (by decide) dL_law_445 ?_
    refine fs_iadd (pc := 446) dL_law_446 ?_
    refine fs_iload (pc := 447) 12 rfl dL_law_447 ?_
    refine fs_iadd (pc := 449) dL_law_449 ?_
    refine fs_iald (pc := 450) dL_law_450 hW (fun i183 hW => ?_)
    refine fs_icmp_eq (pc := 451) (tgt := 456) (by decide) dL_law_451 hW (fun hW => ?_) (fun hW => ?_)
    · refine fs_iinc (pc := 456) (lv' := [(15, .int (v15 + 1)), (14, .int t0), (0, .ref b), (1, .ref a1), (2, .int v2), (6, .int v6), (7, .int v7), (8, .ref a8), (9, .ref a9), (10, .ref a10), (11, .int v11), (12, .int v12), (13, .int v13)]) (v15 + 1) 12 rfl (congrArg (fun z => v15 + z) (by decide)) (by decide) rfl dL_law_456 ?_
      refine fs_goto (pc := 459) (tgt := 373) (by decide) dL_law_459 ?_
      exact fs_sub [2, 3, 4, 5, 6, 7, 8, 9, 10, 11, 12, 1, 0] rfl hW
    · refine fs_iconst (pc := 454) 0 (by decide) dL_law_454 ?_
      exact hW.elim
set_option maxHeartbeats 4000000 in
set_option maxRecDepth 100000 in
theorem q_L_law_1352 {g : GG} {b L : Nat} {xs : Nat → Int32} {σ : Hs} (kM nM : Nat) (a1 : Nat) (v6 : Int32) (v7 : Int32) (v13 : Int32) (v15 : Int32) (a17 : Nat) (v18 : Int32) (v19 : Int32) (v21 : Int32) (v22 : Int32) (t0 : Int32) (hL : L ≤ 260) (hW : (t0 = 0 → J_L_law_1221 g b L xs kM nM σ a1 v6 v7 v13 v15 a17 v18 v19 t0 ) ∧ (¬ t0 = 0 → ((kM) ≤ 600000 ∧ (nM) ≤ 7302250) ∧ Rc σ a1 11 ∧ Do g M_X11_steps 0 0 [.ref a1, .int v13, .int (10 + v19)] σ (kI (fun i185 s184 => (¬ i185 = v21 → False) ∧ (i185 = v21 → ((kM) ≤ 600000 ∧ (nM) ≤ 7302250) ∧ Rc s184 a1 11 ∧ Do g M_X11_worth 0 0 [.ref a1, .int (v18 ||| ((1 : Int32) <<< (v21 &&& 31))), .int v21] s184 (kI (fun i189 s188 => AI g s188 a17 0 v18 (fun i192 => (i189 = (i192 - v22) → J_L_law_1221 g b L xs kM nM s188 a1 v6 v7 v13 v15 a17 ((v18 ||| ((1 : Int32) <<< (v21 &&& 31)))) ((v19 + 1)) t0 ) ∧ (¬ i189 = (i192 - v22) → False))))))))) : J_L_law_1352 g b L xs kM nM σ a1 v6 v7 v13 v15 a17 v18 v19 v21 v22 t0 := by
  show Fs g (SL b L xs g) (600000, 7302250, kM, nM) [(1, .ref a1), (6, .int v6), (7, .int v7), (13, .int v13), (15, .int v15), (17, .ref a17), (18, .int v18), (19, .int v19), (21, .int v21), (22, .int v22)] [.int t0] 1352 σ
  refine fs_istore (pc := 1352) (lv' := [(20, .int t0), (1, .ref a1), (6, .int v6), (7, .int v7), (13, .int v13), (15, .int v15), (17, .ref a17), (18, .int v18), (19, .int v19), (21, .int v21), (22, .int v22)]) (by decide) rfl dL_law_1352 ?_
  refine fs_iload (pc := 1354) 0 rfl dL_law_1354 ?_
  refine fs_if_eq (pc := 1356) (tgt := 1413) (by decide) dL_law_1356 hW (fun hW => ?_) (fun hW => ?_)
  · refine fs_goto (pc := 1413) (tgt := 1221) (by decide) dL_law_1413 ?_
    exact fs_sub [1, 2, 3, 4, 5, 6, 7, 8, 0] rfl hW
  · refine fs_aload_n (pc := 1359) 1 rfl rfl dL_law_1359 ?_
    refine fs_iload (pc := 1360) 4 rfl dL_law_1360 ?_
    refine fs_bipush (pc := 1362) 10 (by decide) dL_law_1362 ?_
    refine fs_iload (pc := 1364) 8 rfl dL_law_1364 ?_
    refine fs_iadd (pc := 1366) dL_law_1366 ?_
    obtain ⟨hz, hrc, hW⟩ := hW
    refine fs_callV_I (pc := 1367) (As := [.int v13, .int (10 + v19)]) (st := []) wd_X11_steps w_857 ok_X11_steps (by decide) rfl (Nat.le_of_ble_eq_true rfl) dL_law_1367 hz kc_X11 hrc hW (fun i185 s184 hW => ?_)
    refine fs_iload (pc := 1370) 9 rfl dL_law_1370 ?_
    refine fs_icmp_ne (pc := 1372) (tgt := 1399) (by decide) dL_law_1372 hW (fun hW => ?_) (fun hW => ?_)
    · refine fs_iconst (pc := 1399) 0 (by decide) dL_law_1399 ?_
      exact hW.elim
    · refine fs_aload_n (pc := 1375) 1 rfl rfl dL_law_1375 ?_
      refine fs_iload (pc := 1376) 7 rfl dL_law_1376 ?_
      refine fs_iconst (pc := 1378) 1 (by decide) dL_law_1378 ?_
      refine fs_iload (pc := 1379) 9 rfl dL_law_1379 ?_
      refine fs_ishl (pc := 1381) dL_law_1381 ?_
      refine fs_ior (pc := 1382) dL_law_1382 ?_
      refine fs_iload (pc := 1383) 9 rfl dL_law_1383 ?_
      obtain ⟨hz, hrc, hW⟩ := hW
      refine fs_callV_I (pc := 1385) (As := [.int (v18 ||| ((1 : Int32) <<< (v21 &&& 31))), .int v21]) (st := []) wd_X11_worth w_858 ok_X11_worth (by decide) rfl (Nat.le_of_ble_eq_true rfl) dL_law_1385 hz kc_X11 hrc hW (fun i189 s188 hW => ?_)
      refine fs_aload (pc := 1388) 6 rfl dL_law_1388 ?_
      refine fs_iload (pc := 1390) 7 rfl dL_law_1390 ?_
      refine fs_iald (pc := 1392) dL_law_1392 hW (fun i192 hW => ?_)
      refine fs_iload (pc := 1393) 10 rfl dL_law_1393 ?_
      refine fs_isub (pc := 1395) dL_law_1395 ?_
      refine fs_icmp_eq (pc := 1396) (tgt := 1401) (by decide) dL_law_1396 hW (fun hW => ?_) (fun hW => ?_)
      · refine fs_iload (pc := 1401) 7 rfl dL_law_1401 ?_
        refine fs_iconst (pc := 1403) 1 (by decide) dL_law_1403 ?_
        refine fs_iload (pc := 1404) 9 rfl dL_law_1404 ?_
        refine fs_ishl (pc := 1406) dL_law_1406 ?_
        refine fs_ior (pc := 1407) dL_law_1407 ?_
        refine fs_istore (pc := 1408) (lv' := [(18, .int (v18 ||| ((1 : Int32) <<< (v21 &&& 31)))), (20, .int t0), (1, .ref a1), (6, .int v6), (7, .int v7), (13, .int v13), (15, .int v15), (17, .ref a17), (19, .int v19), (21, .int v21), (22, .int v22)]) (by decide) rfl dL_law_1408 ?_
        refine fs_iinc (pc := 1410) (lv' := [(19, .int (v19 + 1)), (18, .int (v18 ||| ((1 : Int32) <<< (v21 &&& 31)))), (20, .int t0), (1, .ref a1), (6, .int v6), (7, .int v7), (13, .int v13), (15, .int v15), (17, .ref a17), (21, .int v21), (22, .int v22)]) (v19 + 1) 8 rfl (congrArg (fun z => v19 + z) (by decide)) (by decide) rfl dL_law_1410 ?_
        refine fs_goto (pc := 1413) (tgt := 1221) (by decide) dL_law_1413 ?_
        exact fs_sub [3, 4, 5, 6, 7, 8, 1, 0, 2] rfl hW
      · refine fs_iconst (pc := 1399) 0 (by decide) dL_law_1399 ?_
        exact hW.elim
set_option maxHeartbeats 4000000 in
set_option maxRecDepth 100000 in
theorem q_L_law_1261 {g : GG} {b L : Nat} {xs : Nat → Int32} {σ : Hs} (kM nM : Nat) (a1 : Nat) (v6 : Int32) (v7 : Int32) (v13 : Int32) (v15 : Int32) (a17 : Nat) (v18 : Int32) (v19 : Int32) (v21 : Int32) (v22 : Int32) (v23 : Int32) (v24 : Int32) (v25 : Int32) (v26 : Int32) (hL : L ≤ 260) (hW : (v6 ≤ v26 → (v24 = v18 → J_L_law_1239 g b L xs kM nM σ a1 v6 v7 v13 v15 a17 v18 v19 v21 v22 ((v23 + 1)) ) ∧ (¬ v24 = v18 → (v13 < v25 → J_L_law_1239 g b L xs kM nM σ a1 v6 v7 v13 v15 a17 v18 v19 v21 v22 ((v23 + 1)) ) ∧ (¬ v13 < v25 → AI g σ a17 0 v24 (fun i193 => (v22 ≤ i193 → J_L_law_1239 g b L xs kM nM σ a1 v6 v7 v13 v15 a17 v18 v19 v21 v22 ((v23 + 1)) ) ∧ (¬ v22 ≤ i193 → AI g σ a17 0 v24 (fun i194 => J_L_law_1239 g b L xs kM nM σ a1 v6 v7 v13 v15 a17 v18 v19 v23 i194 ((v23 + 1)) )))))) ∧ (¬ v6 ≤ v26 → (¬ ((v24 >>> (v26 &&& 31)) &&& 1) = 1 → J_L_law_1261 g b L xs kM nM σ a1 v6 v7 v13 v15 a17 v18 v19 v21 v22 v23 v24 ((v25 + 0)) ((v26 + 1)) ) ∧ (((v24 >>> (v26 &&& 31)) &&& 1) = 1 → ((kM) ≤ 600000 ∧ (nM) ≤ 7302250) ∧ Rc σ a1 11 ∧ Do g M_X11_about 0 0 [.ref a1, .int v26, .int 3] σ (kI (fun i196 s195 => J_L_law_1261 g b L xs kM nM s195 a1 v6 v7 v13 v15 a17 v18 v19 v21 v22 v23 v24 ((v25 + i196)) ((v26 + 1)) ))))) : J_L_law_1261 g b L xs kM nM σ a1 v6 v7 v13 v15 a17 v18 v19 v21 v22 v23 v24 v25 v26 := by
  show Fs g (SL b L xs g) (600000, 7302250, kM, nM) [(1, .ref a1), (6, .int v6), (7, .int v7), (13, .int v13), (15, .int v15), (17, .ref a17), (18, .int v18), (19, .int v19), (21, .int v21), (22, .int v22), (23, .int v23), (24, .int v24), (25, .int v25), (26, .int v26)] [] 1261 σ
  refine fs_iload (pc := 1261) 13 rfl dL_law_1261 ?_
  refine fs_iload (pc := 1263) 1 rfl dL_law_1263 ?_
  refine fs_icmp_ge (pc := 1265) (tgt := 1301) (by decide) dL_law_1265 hW (fun hW => ?_) (fun hW => ?_)
  · refine fs_iload (pc := 1301) 11 rfl dL_law_1301 ?_
    refine fs_iload (pc := 1303) 6 rfl dL_law_1303 ?_
    refine fs_icmp_eq (pc := 1305) (tgt := 1336) (by decide) dL_law_1305 hW (fun hW => ?_) (fun hW => ?_)
    · refine fs_iinc (pc := 1336) (lv' := [(23, .int (v23 + 1)), (1, .ref a1), (6, .int v6), (7, .int v7), (13, .int v13), (15, .int v15), (17, .ref a17), (18, .int v18), (19, .int v19), (21, .int v21), (22, .int v22), (24, .int v24), (25, .int v25), (26, .int v26)]) (v23 + 1) 10 rfl (congrArg (fun z => v23 + z) (by decide)) (by decide) rfl dL_law_1336 ?_
      refine fs_goto (pc := 1339) (tgt := 1239) (by decide) dL_law_1339 ?_
      exact fs_sub [1, 2, 3, 4, 5, 6, 7, 8, 9, 10, 0] rfl hW
    · refine fs_iload (pc := 1308) 12 rfl dL_law_1308 ?_
      refine fs_iload (pc := 1310) 3 rfl dL_law_1310 ?_
      refine fs_icmp_gt (pc := 1312) (tgt := 1336) (by decide) dL_law_1312 hW (fun hW => ?_) (fun hW => ?_)
      · refine fs_iinc (pc := 1336) (lv' := [(23, .int (v23 + 1)), (1, .ref a1), (6, .int v6), (7, .int v7), (13, .int v13), (15, .int v15), (17, .ref a17), (18, .int v18), (19, .int v19), (21, .int v21), (22, .int v22), (24, .int v24), (25, .int v25), (26, .int v26)]) (v23 + 1) 10 rfl (congrArg (fun z => v23 + z) (by decide)) (by decide) rfl dL_law_1336 ?_
        refine fs_goto (pc := 1339) (tgt := 1239) (by decide) dL_law_1339 ?_
        exact fs_sub [1, 2, 3, 4, 5, 6, 7, 8, 9, 10, 0] rfl hW
      · refine fs_aload (pc := 1315) 5 rfl dL_law_1315 ?_
        refine fs_iload (pc := 1317) 11 rfl dL_law_1317 ?_
        refine fs_iald (pc := 1319) dL_law_1319 hW (fun i193 hW => ?_)
        refine fs_iload (pc := 1320) 9 rfl dL_law_1320 ?_
        refine fs_icmp_ge (pc := 1322) (tgt := 1336) (by decide) dL_law_1322 hW (fun hW => ?_) (fun hW => ?_)
        · refine fs_iinc (pc := 1336) (lv' := [(23, .int (v23 + 1)), (1, .ref a1), (6, .int v6), (7, .int v7), (13, .int v13), (15, .int v15), (17, .ref a17), (18, .int v18), (19, .int v19), (21, .int v21), (22, .int v22), (24, .int v24), (25, .int v25), (26, .int v26)]) (v23 + 1) 10 rfl (congrArg (fun z => v23 + z) (by decide)) (by decide) rfl dL_law_1336 ?_
          refine fs_goto (pc := 1339) (tgt := 1239) (by decide) dL_law_1339 ?_
          exact fs_sub [1, 2, 3, 4, 5, 6, 7, 8, 9, 10, 0] rfl hW
        · refine fs_iload (pc := 1325) 10 rfl dL_law_1325 ?_
          refine fs_istore (pc := 1327) (lv' := [(21, .int v23), (1, .ref a1), (6, .int v6), (7, .int v7), (13, .int v13), (15, .int v15), (17, .ref a17), (18, .int v18), (19, .int v19), (22, .int v22), (23, .int v23), (24, .int v24), (25, .int v25), (26, .int v26)]) (by decide) rfl dL_law_1327 ?_
          refine fs_aload (pc := 1329) 6 rfl dL_law_1329 ?_
          refine fs_iload (pc := 1331) 11 rfl dL_law_1331 ?_
          refine fs_iald (pc := 1333) dL_law_1333 hW (fun i194 hW => ?_)
          refine fs_istore (pc := 1334) (lv' := [(22, .int i194), (21, .int v23), (1, .ref a1), (6, .int v6), (7, .int v7), (13, .int v13), (15, .int v15), (17, .ref a17), (18, .int v18), (19, .int v19), (23, .int v23), (24, .int v24), (25, .int v25), (26, .int v26)]) (by decide) rfl dL_law_1334 ?_
          refine fs_iinc (pc := 1336) (lv' := [(23, .int (v23 + 1)), (22, .int i194), (21, .int v23), (1, .ref a1), (6, .int v6), (7, .int v7), (13, .int v13), (15, .int v15), (17, .ref a17), (18, .int v18), (19, .int v19), (24, .int v24), (25, .int v25), (26, .int v26)]) (v23 + 1) 10 rfl (congrArg (fun z => v23 + z) (by decide)) (by decide) rfl dL_law_1336 ?_
          refine fs_goto (pc := 1339) (tgt := 1239) (by decide) dL_law_1339 ?_
          exact fs_sub [3, 4, 5, 6, 7, 8, 9, 10, 2, 1, 0] rfl hW
  · refine fs_iload (pc := 1268) 12 rfl dL_law_1268 ?_
    refine fs_iload (pc := 1270) 11 rfl dL_law_1270 ?_
    refine fs_iload (pc := 1272) 13 rfl dL_law_1272 ?_
    refine fs_ishr (pc := 1274) dL_law_1274 ?_
    refine fs_iconst (pc := 1275) 1 (by decide) dL_law_1275 ?_
    refine fs_iand (pc := 1276) dL_law_1276 ?_
    refine fs_iconst (pc := 1277) 1 (by decide) dL_law_1277 ?_
    refine fs_icmp_ne (pc := 1278) (tgt := 1291) (by decide) dL_law_1278 hW (fun hW => ?_) (fun hW => ?_)
    · refine fs_iconst (pc := 1291) 0 (by decide) dL_law_1291 ?_
      refine fs_iadd (pc := 1292) dL_law_1292 ?_
      refine fs_istore (pc := 1293) (lv' := [(25, .int (v25 + 0)), (1, .ref a1), (6, .int v6), (7, .int v7), (13, .int v13), (15, .int v15), (17, .ref a17), (18, .int v18), (19, .int v19), (21, .int v21), (22, .int v22), (23, .int v23), (24, .int v24), (26, .int v26)]) (by decide) rfl dL_law_1293 ?_
      refine fs_iinc (pc := 1295) (lv' := [(26, .int (v26 + 1)), (25, .int (v25 + 0)), (1, .ref a1), (6, .int v6), (7, .int v7), (13, .int v13), (15, .int v15), (17, .ref a17), (18, .int v18), (19, .int v19), (21, .int v21), (22, .int v22), (23, .int v23), (24, .int v24)]) (v26 + 1) 13 rfl (congrArg (fun z => v26 + z) (by decide)) (by decide) rfl dL_law_1295 ?_
      refine fs_goto (pc := 1298) (tgt := 1261) (by decide) dL_law_1298 ?_
      exact fs_sub [2, 3, 4, 5, 6, 7, 8, 9, 10, 11, 12, 13, 1, 0] rfl hW
    · refine fs_aload_n (pc := 1281) 0 rfl rfl dL_law_1281 ?_
      refine fs_iload (pc := 1282) 13 rfl dL_law_1282 ?_
      refine fs_iconst (pc := 1284) 3 (by decide) dL_law_1284 ?_
      obtain ⟨hz, hrc, hW⟩ := hW
      refine fs_callV_I (pc := 1285) (As := [.int v26, .int 3]) (st := [.int v25]) wd_X11_about w_763 ok_X11_about (by decide) rfl (Nat.le_of_ble_eq_true rfl) dL_law_1285 hz kc_X11 hrc hW (fun i196 s195 hW => ?_)
      refine fs_goto (pc := 1288) (tgt := 1292) (by decide) dL_law_1288 ?_
      refine fs_iadd (pc := 1292) dL_law_1292 ?_
      refine fs_istore (pc := 1293) (lv' := [(25, .int (v25 + i196)), (1, .ref a1), (6, .int v6), (7, .int v7), (13, .int v13), (15, .int v15), (17, .ref a17), (18, .int v18), (19, .int v19), (21, .int v21), (22, .int v22), (23, .int v23), (24, .int v24), (26, .int v26)]) (by decide) rfl dL_law_1293 ?_
      refine fs_iinc (pc := 1295) (lv' := [(26, .int (v26 + 1)), (25, .int (v25 + i196)), (1, .ref a1), (6, .int v6), (7, .int v7), (13, .int v13), (15, .int v15), (17, .ref a17), (18, .int v18), (19, .int v19), (21, .int v21), (22, .int v22), (23, .int v23), (24, .int v24)]) (v26 + 1) 13 rfl (congrArg (fun z => v26 + z) (by decide)) (by decide) rfl dL_law_1295 ?_
      refine fs_goto (pc := 1298) (tgt := 1261) (by decide) dL_law_1298 ?_
      exact fs_sub [2, 3, 4, 5, 6, 7, 8, 9, 10, 11, 12, 13, 1, 0] rfl hW
set_option maxHeartbeats 4000000 in
set_option maxRecDepth 100000 in
theorem q_L_law_917 {g : GG} {b L : Nat} {xs : Nat → Int32} {σ : Hs} (kM nM : Nat) (a1 : Nat) (v6 : Int32) (v7 : Int32) (a9 : Nat) (a11 : Nat) (v12 : Int32) (v13 : Int32) (v14 : Int32) (v15 : Int32) (v16 : Int32) (a17 : Nat) (v18 : Int32) (v19 : Int32) (v20 : Int32) (v21 : Int32) (v22 : Int32) (v23 : Int32) (v24 : Int32) (hL : L ≤ 260) (hW : (2 ≤ v24 → AI g σ a9 0 v21 (fun i199 => ((kM) ≤ 600000 ∧ (nM) ≤ 7302250) ∧ Rc σ a1 11 ∧ Do g M_X11_best 0 0 [.ref a1, .int v21, .int v18] σ (kI (fun i201 s200 => (i201 = v22 → J_L_law_894 g b L xs kM nM s200 a1 v6 v7 a9 a11 v12 v13 v14 v15 v16 a17 v18 ((v19 + (i199 * v23))) v20 ((v21 + 1)) ) ∧ (¬ i201 = v22 → False))))) ∧ (¬ 2 ≤ v24 → J_L_law_926 g b L xs kM nM σ a1 v6 v7 a9 a11 v12 v13 v14 v15 v16 a17 v18 v19 v20 v21 v22 v23 v24 0 )) : J_L_law_917 g b L xs kM nM σ a1 v6 v7 a9 a11 v12 v13 v14 v15 v16 a17 v18 v19 v20 v21 v22 v23 v24 := by
  show Fs g (SL b L xs g) (600000, 7302250, kM, nM) [(1, .ref a1), (6, .int v6), (7, .int v7), (9, .ref a9), (11, .ref a11), (12, .int v12), (13, .int v13), (14, .int v14), (15, .int v15), (16, .int v16), (17, .ref a17), (18, .int v18), (19, .int v19), (20, .int v20), (21, .int v21), (22, .int v22), (23, .int v23), (24, .int v24)] [] 917 σ
  refine fs_iload (pc := 917) 17 rfl dL_law_917 ?_
  refine fs_iconst (pc := 919) 2 (by decide) dL_law_919 ?_
  refine fs_icmp_ge (pc := 920) (tgt := 1069) (by decide) dL_law_920 hW (fun hW => ?_) (fun hW => ?_)
  · refine fs_iload (pc := 1069) 12 rfl dL_law_1069 ?_
    refine fs_aload (pc := 1071) 3 rfl dL_law_1071 ?_
    refine fs_iload (pc := 1073) 14 rfl dL_law_1073 ?_
    refine fs_iald (pc := 1075) dL_law_1075 hW (fun i199 hW => ?_)
    refine fs_iload (pc := 1076) 16 rfl dL_law_1076 ?_
    refine fs_imul (pc := 1078) dL_law_1078 ?_
    refine fs_iadd (pc := 1079) dL_law_1079 ?_
    refine fs_istore (pc := 1080) (lv' := [(19, .int (v19 + (i199 * v23))), (1, .ref a1), (6, .int v6), (7, .int v7), (9, .ref a9), (11, .ref a11), (12, .int v12), (13, .int v13), (14, .int v14), (15, .int v15), (16, .int v16), (17, .ref a17), (18, .int v18), (20, .int v20), (21, .int v21), (22, .int v22), (23, .int v23), (24, .int v24)]) (by decide) rfl dL_law_1080 ?_
    refine fs_aload_n (pc := 1082) 1 rfl rfl dL_law_1082 ?_
    refine fs_iload (pc := 1083) 14 rfl dL_law_1083 ?_
    refine fs_iload (pc := 1085) 12 rfl dL_law_1085 ?_
    obtain ⟨hz, hrc, hW⟩ := hW
    refine fs_callV_I (pc := 1087) (As := [.int v21, .int v18]) (st := []) wd_X11_best w_854 ok_X11_best (by decide) rfl (Nat.le_of_ble_eq_true rfl) dL_law_1087 hz kc_X11 hrc hW (fun i201 s200 hW => ?_)
    refine fs_iload (pc := 1090) 15 rfl dL_law_1090 ?_
    refine fs_icmp_eq (pc := 1092) (tgt := 1097) (by decide) dL_law_1092 hW (fun hW => ?_) (fun hW => ?_)
    · refine fs_iinc (pc := 1097) (lv' := [(21, .int (v21 + 1)), (19, .int (v19 + (i199 * v23))), (1, .ref a1), (6, .int v6), (7, .int v7), (9, .ref a9), (11, .ref a11), (12, .int v12), (13, .int v13), (14, .int v14), (15, .int v15), (16, .int v16), (17, .ref a17), (18, .int v18), (20, .int v20), (22, .int v22), (23, .int v23), (24, .int v24)]) (v21 + 1) 14 rfl (congrArg (fun z => v21 + z) (by decide)) (by decide) rfl dL_law_1097 ?_
      refine fs_goto (pc := 1100) (tgt := 894) (by decide) dL_law_1100 ?_
      exact fs_sub [2, 3, 4, 5, 6, 7, 8, 9, 10, 11, 12, 13, 1, 14, 0] rfl hW
    · refine fs_iconst (pc := 1095) 0 (by decide) dL_law_1095 ?_
      exact hW.elim
  · refine fs_iconst (pc := 923) 0 (by decide) dL_law_923 ?_
    refine fs_istore (pc := 924) (lv' := [(25, .int 0), (1, .ref a1), (6, .int v6), (7, .int v7), (9, .ref a9), (11, .ref a11), (12, .int v12), (13, .int v13), (14, .int v14), (15, .int v15), (16, .int v16), (17, .ref a17), (18, .int v18), (19, .int v19), (20, .int v20), (21, .int v21), (22, .int v22), (23, .int v23), (24, .int v24)]) (by decide) rfl dL_law_924 ?_
    exact fs_sub [1, 2, 3, 4, 5, 6, 7, 8, 9, 10, 11, 12, 13, 14, 15, 16, 17, 18, 0] rfl hW
set_option maxHeartbeats 4000000 in
set_option maxRecDepth 100000 in
theorem q_L_law_926 {g : GG} {b L : Nat} {xs : Nat → Int32} {σ : Hs} (kM nM : Nat) (a1 : Nat) (v6 : Int32) (v7 : Int32) (a9 : Nat) (a11 : Nat) (v12 : Int32) (v13 : Int32) (v14 : Int32) (v15 : Int32) (v16 : Int32) (a17 : Nat) (v18 : Int32) (v19 : Int32) (v20 : Int32) (v21 : Int32) (v22 : Int32) (v23 : Int32) (v24 : Int32) (v25 : Int32) (hL : L ≤ 260) (hW : (v6 ≤ v25 → J_L_law_917 g b L xs kM nM σ a1 v6 v7 a9 a11 v12 v13 v14 v15 v16 a17 v18 v19 v20 v21 v22 v23 ((v24 + 1)) ) ∧ (¬ v6 ≤ v25 → J_L_law_937 g b L xs kM nM σ a1 v6 v7 a9 a11 v12 v13 v14 v15 v16 a17 v18 v19 v20 v21 v22 v23 v24 v25 v25 )) : J_L_law_926 g b L xs kM nM σ a1 v6 v7 a9 a11 v12 v13 v14 v15 v16 a17 v18 v19 v20 v21 v22 v23 v24 v25 := by
  show Fs g (SL b L xs g) (600000, 7302250, kM, nM) [(1, .ref a1), (6, .int v6), (7, .int v7), (9, .ref a9), (11, .ref a11), (12, .int v12), (13, .int v13), (14, .int v14), (15, .int v15), (16, .int v16), (17, .ref a17), (18, .int v18), (19, .int v19), (20, .int v20), (21, .int v21), (22, .int v22), (23, .int v23), (24, .int v24), (25, .int v25)] [] 926 σ
  refine fs_iload (pc := 926) 18 rfl dL_law_926 ?_
  refine fs_iload (pc := 928) 1 rfl dL_law_928 ?_
  refine fs_icmp_ge (pc := 930) (tgt := 1063) (by decide) dL_law_930 hW (fun hW => ?_) (fun hW => ?_)
  · refine fs_iinc (pc := 1063) (lv' := [(24, .int (v24 + 1)), (1, .ref a1), (6, .int v6), (7, .int v7), (9, .ref a9), (11, .ref a11), (12, .int v12), (13, .int v13), (14, .int v14), (15, .int v15), (16, .int v16), (17, .ref a17), (18, .int v18), (19, .int v19), (20, .int v20), (21, .int v21), (22, .int v22), (23, .int v23), (25, .int v25)]) (v24 + 1) 17 rfl (congrArg (fun z => v24 + z) (by decide)) (by decide) rfl dL_law_1063 ?_
    refine fs_goto (pc := 1066) (tgt := 917) (by decide) dL_law_1066 ?_
    exact fs_sub [1, 2, 3, 4, 5, 6, 7, 8, 9, 10, 11, 12, 13, 14, 15, 16, 17, 0] rfl hW
  · refine fs_iload (pc := 933) 18 rfl dL_law_933 ?_
    refine fs_istore (pc := 935) (lv' := [(26, .int v25), (1, .ref a1), (6, .int v6), (7, .int v7), (9, .ref a9), (11, .ref a11), (12, .int v12), (13, .int v13), (14, .int v14), (15, .int v15), (16, .int v16), (17, .ref a17), (18, .int v18), (19, .int v19), (20, .int v20), (21, .int v21), (22, .int v22), (23, .int v23), (24, .int v24), (25, .int v25)]) (by decide) rfl dL_law_935 ?_
    exact fs_sub [1, 2, 3, 4, 5, 6, 7, 8, 9, 10, 11, 12, 13, 14, 15, 16, 17, 18, 19, 0] rfl hW
set_option maxHeartbeats 4000000 in
set_option maxRecDepth 100000 in
theorem q_L_law_937 {g : GG} {b L : Nat} {xs : Nat → Int32} {σ : Hs} (kM nM : Nat) (a1 : Nat) (v6 : Int32) (v7 : Int32) (a9 : Nat) (a11 : Nat) (v12 : Int32) (v13 : Int32) (v14 : Int32) (v15 : Int32) (v16 : Int32) (a17 : Nat) (v18 : Int32) (v19 : Int32) (v20 : Int32) (v21 : Int32) (v22 : Int32) (v23 : Int32) (v24 : Int32) (v25 : Int32) (v26 : Int32) (hL : L ≤ 260) (hW : (v6 ≤ v26 → J_L_law_926 g b L xs kM nM σ a1 v6 v7 a9 a11 v12 v13 v14 v15 v16 a17 v18 v19 v20 v21 v22 v23 v24 ((v25 + 1)) ) ∧ (¬ v6 ≤ v26 → AI g σ a11 0 ((((16 * v21) + (4 * (v25 + 1))) + v26) + 1) (fun i204 => (¬ ((v18 >>> (v25 &&& 31)) &&& 1) = 1 → J_L_law_937 g b L xs kM nM σ a1 v6 v7 a9 a11 v12 v13 v14 v15 v16 a17 v18 v19 v20 v21 v22 v23 v24 v25 ((v26 + 1)) ) ∧ (((v18 >>> (v25 &&& 31)) &&& 1) = 1 → (¬ ((v18 >>> (v26 &&& 31)) &&& 1) = 1 → J_L_law_937 g b L xs kM nM σ a1 v6 v7 a9 a11 v12 v13 v14 v15 v16 a17 v18 v19 v20 v21 v22 v23 v24 v25 ((v26 + 1)) ) ∧ (((v18 >>> (v26 &&& 31)) &&& 1) = 1 → (¬ v25 = v26 → (¬ v24 = 0 → J_L_law_1010 g b L xs kM nM σ a1 v6 v7 a9 a11 v12 v13 v14 v15 v16 a17 v18 v19 v20 v21 v22 v23 v24 v25 v26 i204 0 0) ∧ (v24 = 0 → J_L_law_1010 g b L xs kM nM σ a1 v6 v7 a9 a11 v12 v13 v14 v15 v16 a17 v18 v19 v20 v21 v22 v23 v24 v25 v26 i204 1 0)) ∧ (v25 = v26 → (¬ v24 = 0 → J_L_law_1010 g b L xs kM nM σ a1 v6 v7 a9 a11 v12 v13 v14 v15 v16 a17 v18 v19 v20 v21 v22 v23 v24 v25 v26 i204 0 1) ∧ (v24 = 0 → J_L_law_1010 g b L xs kM nM σ a1 v6 v7 a9 a11 v12 v13 v14 v15 v16 a17 v18 v19 v20 v21 v22 v23 v24 v25 v26 i204 1 1))))))) : J_L_law_937 g b L xs kM nM σ a1 v6 v7 a9 a11 v12 v13 v14 v15 v16 a17 v18 v19 v20 v21 v22 v23 v24 v25 v26 := by
  show Fs g (SL b L xs g) (600000, 7302250, kM, nM) [(1, .ref a1), (6, .int v6), (7, .int v7), (9, .ref a9), (11, .ref a11), (12, .int v12), (13, .int v13), (14, .int v14), (15, .int v15), (16, .int v16), (17, .ref a17), (18, .int v18), (19, .int v19), (20, .int v20), (21, .int v21), (22, .int v22), (23, .int v23), (24, .int v24), (25, .int v25), (26, .int v26)] [] 937 σ
  refine fs_iload (pc := 937) 19 rfl dL_law_937 ?_
  refine fs_iload (pc := 939) 1 rfl dL_law_939 ?_
  refine fs_icmp_ge (pc := 941) (tgt := 1057) (by decide) dL_law_941 hW (fun hW => ?_) (fun hW => ?_)
  · refine fs_iinc (pc := 1057) (lv' := [(25, .int (v25 + 1)), (1, .ref a1), (6, .int v6), (7, .int v7), (9, .ref a9), (11, .ref a11), (12, .int v12), (13, .int v13), (14, .int v14), (15, .int v15), (16, .int v16), (17, .ref a17), (18, .int v18), (19, .int v19), (20, .int v20), (21, .int v21), (22, .int v22), (23, .int v23), (24, .int v24), (26, .int v26)]) (v25 + 1) 18 rfl (congrArg (fun z => v25 + z) (by decide)) (by decide) rfl dL_law_1057 ?_
    refine fs_goto (pc := 1060) (tgt := 926) (by decide) dL_law_1060 ?_
    exact fs_sub [1, 2, 3, 4, 5, 6, 7, 8, 9, 10, 11, 12, 13, 14, 15, 16, 17, 18, 0] rfl hW
  · refine fs_aload (pc := 944) 4 rfl dL_law_944 ?_
    refine fs_bipush (pc := 946) 16 (by decide) dL_law_946 ?_
    refine fs_iload (pc := 948) 14 rfl dL_law_948 ?_
    refine fs_imul (pc := 950) dL_law_950 ?_
    refine fs_iconst (pc := 951) 4 (by decide) dL_law_951 ?_
    refine fs_iload (pc := 952) 18 rfl dL_law_952 ?_
    refine fs_iconst (pc := 954) 1 (by decide) dL_law_954 ?_
    refine fs_iadd (pc := 955) dL_law_955 ?_
    refine fs_imul (pc := 956) dL_law_956 ?_
    refine fs_iadd (pc := 957) dL_law_957 ?_
    refine fs_iload (pc := 958) 19 rfl dL_law_958 ?_
    refine fs_iadd (pc := 960) dL_law_960 ?_
    refine fs_iconst (pc := 961) 1 (by decide) dL_law_961 ?_
    refine fs_iadd (pc := 962) dL_law_962 ?_
    refine fs_iald (pc := 963) dL_law_963 hW (fun i204 hW => ?_)
    refine fs_istore (pc := 964) (lv' := [(27, .int i204), (1, .ref a1), (6, .int v6), (7, .int v7), (9, .ref a9), (11, .ref a11), (12, .int v12), (13, .int v13), (14, .int v14), (15, .int v15), (16, .int v16), (17, .ref a17), (18, .int v18), (19, .int v19), (20, .int v20), (21, .int v21), (22, .int v22), (23, .int v23), (24, .int v24), (25, .int v25), (26, .int v26)]) (by decide) rfl dL_law_964 ?_
    refine fs_iload (pc := 966) 12 rfl dL_law_966 ?_
    refine fs_iload (pc := 968) 19 rfl dL_law_968 ?_
    refine fs_ishr (pc := 970) dL_law_970 ?_
    refine fs_iconst (pc := 971) 1 (by decide) dL_law_971 ?_
    refine fs_iand (pc := 972) dL_law_972 ?_
    refine fs_iconst (pc := 973) 1 (by decide) dL_law_973 ?_
    refine fs_icmp_ne (pc := 974) (tgt := 1051) (by decide) dL_law_974 hW (fun hW => ?_) (fun hW => ?_)
    · refine fs_iinc (pc := 1051) (lv' := [(26, .int (v26 + 1)), (27, .int i204), (1, .ref a1), (6, .int v6), (7, .int v7), (9, .ref a9), (11, .ref a11), (12, .int v12), (13, .int v13), (14, .int v14), (15, .int v15), (16, .int v16), (17, .ref a17), (18, .int v18), (19, .int v19), (20, .int v20), (21, .int v21), (22, .int v22), (23, .int v23), (24, .int v24), (25, .int v25)]) (v26 + 1) 20 rfl (congrArg (fun z => v26 + z) (by decide)) (by decide) rfl dL_law_1051 ?_
      refine fs_goto (pc := 1054) (tgt := 937) (by decide) dL_law_1054 ?_
      exact fs_sub [2, 3, 4, 5, 6, 7, 8, 9, 10, 11, 12, 13, 14, 15, 16, 17, 18, 19, 20, 0] rfl hW
    · refine fs_iload (pc := 977) 12 rfl dL_law_977 ?_
      refine fs_iload (pc := 979) 20 rfl dL_law_979 ?_
      refine fs_ishr (pc := 981) dL_law_981 ?_
      refine fs_iconst (pc := 982) 1 (by decide) dL_law_982 ?_
      refine fs_iand (pc := 983) dL_law_983 ?_
      refine fs_iconst (pc := 984) 1 (by decide) dL_law_984 ?_
      refine fs_icmp_ne (pc := 985) (tgt := 1051) (by decide) dL_law_985 hW (fun hW => ?_) (fun hW => ?_)
      · refine fs_iinc (pc := 1051) (lv' := [(26, .int (v26 + 1)), (27, .int i204), (1, .ref a1), (6, .int v6), (7, .int v7), (9, .ref a9), (11, .ref a11), (12, .int v12), (13, .int v13), (14, .int v14), (15, .int v15), (16, .int v16), (17, .ref a17), (18, .int v18), (19, .int v19), (20, .int v20), (21, .int v21), (22, .int v22), (23, .int v23), (24, .int v24), (25, .int v25)]) (v26 + 1) 20 rfl (congrArg (fun z => v26 + z) (by decide)) (by decide) rfl dL_law_1051 ?_
        refine fs_goto (pc := 1054) (tgt := 937) (by decide) dL_law_1054 ?_
        exact fs_sub [2, 3, 4, 5, 6, 7, 8, 9, 10, 11, 12, 13, 14, 15, 16, 17, 18, 19, 20, 0] rfl hW
      · refine fs_iload (pc := 988) 19 rfl dL_law_988 ?_
        refine fs_iload (pc := 990) 20 rfl dL_law_990 ?_
        refine fs_icmp_ne (pc := 992) (tgt := 999) (by decide) dL_law_992 hW (fun hW => ?_) (fun hW => ?_)
        · refine fs_iconst (pc := 999) 0 (by decide) dL_law_999 ?_
          refine fs_iload (pc := 1000) 18 rfl dL_law_1000 ?_
          refine fs_if_ne (pc := 1002) (tgt := 1009) (by decide) dL_law_1002 hW (fun hW => ?_) (fun hW => ?_)
          · refine fs_iconst (pc := 1009) 0 (by decide) dL_law_1009 ?_
            exact fs_sub [1, 2, 3, 4, 5, 6, 7, 8, 9, 10, 11, 12, 13, 14, 15, 16, 17, 18, 19, 20, 0] rfl hW
          · refine fs_iconst (pc := 1005) 1 (by decide) dL_law_1005 ?_
            refine fs_goto (pc := 1006) (tgt := 1010) (by decide) dL_law_1006 ?_
            exact fs_sub [1, 2, 3, 4, 5, 6, 7, 8, 9, 10, 11, 12, 13, 14, 15, 16, 17, 18, 19, 20, 0] rfl hW
        · refine fs_iconst (pc := 995) 1 (by decide) dL_law_995 ?_
          refine fs_goto (pc := 996) (tgt := 1000) (by decide) dL_law_996 ?_
          refine fs_iload (pc := 1000) 18 rfl dL_law_1000 ?_
          refine fs_if_ne (pc := 1002) (tgt := 1009) (by decide) dL_law_1002 hW (fun hW => ?_) (fun hW => ?_)
          · refine fs_iconst (pc := 1009) 0 (by decide) dL_law_1009 ?_
            exact fs_sub [1, 2, 3, 4, 5, 6, 7, 8, 9, 10, 11, 12, 13, 14, 15, 16, 17, 18, 19, 20, 0] rfl hW
          · refine fs_iconst (pc := 1005) 1 (by decide) dL_law_1005 ?_
            refine fs_goto (pc := 1006) (tgt := 1010) (by decide) dL_law_1006 ?_
            exact fs_sub [1, 2, 3, 4, 5, 6, 7, 8, 9, 10, 11, 12, 13, 14, 15, 16, 17, 18, 19, 20, 0] rfl hW
set_option maxHeartbeats 4000000 in
set_option maxRecDepth 100000 in
theorem q_L_law_1010 {g : GG} {b L : Nat} {xs : Nat → Int32} {σ : Hs} (kM nM : Nat) (a1 : Nat) (v6 : Int32) (v7 : Int32) (a9 : Nat) (a11 : Nat) (v12 : Int32) (v13 : Int32) (v14 : Int32) (v15 : Int32) (v16 : Int32) (a17 : Nat) (v18 : Int32) (v19 : Int32) (v20 : Int32) (v21 : Int32) (v22 : Int32) (v23 : Int32) (v24 : Int32) (v25 : Int32) (v26 : Int32) (v27 : Int32) (t0 : Int32) (t1 : Int32) (hL : L ≤ 260) (hW : (¬ t1 = t0 → J_L_law_937 g b L xs kM nM σ a1 v6 v7 a9 a11 v12 v13 v14 v15 v16 a17 v18 v19 v20 v21 v22 v23 v24 v25 ((v26 + 1)) ) ∧ (t1 = t0 → (v23 ≤ v27 → J_L_law_937 g b L xs kM nM σ a1 v6 v7 a9 a11 v12 v13 v14 v15 v16 a17 v18 v19 v20 v21 v22 v23 v24 v25 ((v26 + 1)) ) ∧ (¬ v23 ≤ v27 → (¬ v25 = v26 → J_L_law_937 g b L xs kM nM σ a1 v6 v7 a9 a11 v12 v13 v14 v15 v16 a17 v18 v19 v20 v21 (((100 + (10 * v25)) + v26)) v27 v24 v25 ((v26 + 1)) ) ∧ (v25 = v26 → J_L_law_937 g b L xs kM nM σ a1 v6 v7 a9 a11 v12 v13 v14 v15 v16 a17 v18 v19 v20 v21 ((v25 + 1)) v27 v24 v25 ((v26 + 1)) )))) : J_L_law_1010 g b L xs kM nM σ a1 v6 v7 a9 a11 v12 v13 v14 v15 v16 a17 v18 v19 v20 v21 v22 v23 v24 v25 v26 v27 t0 t1 := by
  show Fs g (SL b L xs g) (600000, 7302250, kM, nM) [(1, .ref a1), (6, .int v6), (7, .int v7), (9, .ref a9), (11, .ref a11), (12, .int v12), (13, .int v13), (14, .int v14), (15, .int v15), (16, .int v16), (17, .ref a17), (18, .int v18), (19, .int v19), (20, .int v20), (21, .int v21), (22, .int v22), (23, .int v23), (24, .int v24), (25, .int v25), (26, .int v26), (27, .int v27)] [.int t0, .int t1] 1010 σ
  refine fs_icmp_ne (pc := 1010) (tgt := 1051) (by decide) dL_law_1010 hW (fun hW => ?_) (fun hW => ?_)
  · refine fs_iinc (pc := 1051) (lv' := [(26, .int (v26 + 1)), (1, .ref a1), (6, .int v6), (7, .int v7), (9, .ref a9), (11, .ref a11), (12, .int v12), (13, .int v13), (14, .int v14), (15, .int v15), (16, .int v16), (17, .ref a17), (18, .int v18), (19, .int v19), (20, .int v20), (21, .int v21), (22, .int v22), (23, .int v23), (24, .int v24), (25, .int v25), (27, .int v27)]) (v26 + 1) 19 rfl (congrArg (fun z => v26 + z) (by decide)) (by decide) rfl dL_law_1051 ?_
    refine fs_goto (pc := 1054) (tgt := 937) (by decide) dL_law_1054 ?_
    exact fs_sub [1, 2, 3, 4, 5, 6, 7, 8, 9, 10, 11, 12, 13, 14, 15, 16, 17, 18, 19, 0] rfl hW
  · refine fs_iload (pc := 1013) 20 rfl dL_law_1013 ?_
    refine fs_iload (pc := 1015) 16 rfl dL_law_1015 ?_
    refine fs_icmp_ge (pc := 1017) (tgt := 1051) (by decide) dL_law_1017 hW (fun hW => ?_) (fun hW => ?_)
    · refine fs_iinc (pc := 1051) (lv' := [(26, .int (v26 + 1)), (1, .ref a1), (6, .int v6), (7, .int v7), (9, .ref a9), (11, .ref a11), (12, .int v12), (13, .int v13), (14, .int v14), (15, .int v15), (16, .int v16), (17, .ref a17), (18, .int v18), (19, .int v19), (20, .int v20), (21, .int v21), (22, .int v22), (23, .int v23), (24, .int v24), (25, .int v25), (27, .int v27)]) (v26 + 1) 19 rfl (congrArg (fun z => v26 + z) (by decide)) (by decide) rfl dL_law_1051 ?_
      refine fs_goto (pc := 1054) (tgt := 937) (by decide) dL_law_1054 ?_
      exact fs_sub [1, 2, 3, 4, 5, 6, 7, 8, 9, 10, 11, 12, 13, 14, 15, 16, 17, 18, 19, 0] rfl hW
    · refine fs_iload (pc := 1020) 20 rfl dL_law_1020 ?_
      refine fs_istore (pc := 1022) (lv' := [(23, .int v27), (1, .ref a1), (6, .int v6), (7, .int v7), (9, .ref a9), (11, .ref a11), (12, .int v12), (13, .int v13), (14, .int v14), (15, .int v15), (16, .int v16), (17, .ref a17), (18, .int v18), (19, .int v19), (20, .int v20), (21, .int v21), (22, .int v22), (24, .int v24), (25, .int v25), (26, .int v26), (27, .int v27)]) (by decide) rfl dL_law_1022 ?_
      refine fs_iload (pc := 1024) 18 rfl dL_law_1024 ?_
      refine fs_iload (pc := 1026) 19 rfl dL_law_1026 ?_
      refine fs_icmp_ne (pc := 1028) (tgt := 1038) (by decide) dL_law_1028 hW (fun hW => ?_) (fun hW => ?_)
      · refine fs_bipush (pc := 1038) 100 (by decide) dL_law_1038 ?_
        refine fs_bipush (pc := 1040) 10 (by decide) dL_law_1040 ?_
        refine fs_iload (pc := 1042) 18 rfl dL_law_1042 ?_
        refine fs_imul (pc := 1044) dL_law_1044 ?_
        refine fs_iadd (pc := 1045) dL_law_1045 ?_
        refine fs_iload (pc := 1046) 19 rfl dL_law_1046 ?_
        refine fs_iadd (pc := 1048) dL_law_1048 ?_
        refine fs_istore (pc := 1049) (lv' := [(22, .int ((100 + (10 * v25)) + v26)), (23, .int v27), (1, .ref a1), (6, .int v6), (7, .int v7), (9, .ref a9), (11, .ref a11), (12, .int v12), (13, .int v13), (14, .int v14), (15, .int v15), (16, .int v16), (17, .ref a17), (18, .int v18), (19, .int v19), (20, .int v20), (21, .int v21), (24, .int v24), (25, .int v25), (26, .int v26), (27, .int v27)]) (by decide) rfl dL_law_1049 ?_
        refine fs_iinc (pc := 1051) (lv' := [(26, .int (v26 + 1)), (22, .int ((100 + (10 * v25)) + v26)), (23, .int v27), (1, .ref a1), (6, .int v6), (7, .int v7), (9, .ref a9), (11, .ref a11), (12, .int v12), (13, .int v13), (14, .int v14), (15, .int v15), (16, .int v16), (17, .ref a17), (18, .int v18), (19, .int v19), (20, .int v20), (21, .int v21), (24, .int v24), (25, .int v25), (27, .int v27)]) (v26 + 1) 19 rfl (congrArg (fun z => v26 + z) (by decide)) (by decide) rfl dL_law_1051 ?_
        refine fs_goto (pc := 1054) (tgt := 937) (by decide) dL_law_1054 ?_
        exact fs_sub [3, 4, 5, 6, 7, 8, 9, 10, 11, 12, 13, 14, 15, 16, 17, 1, 2, 18, 19, 0] rfl hW
      · refine fs_iload (pc := 1031) 18 rfl dL_law_1031 ?_
        refine fs_iconst (pc := 1033) 1 (by decide) dL_law_1033 ?_
        refine fs_iadd (pc := 1034) dL_law_1034 ?_
        refine fs_goto (pc := 1035) (tgt := 1049) (by decide) dL_law_1035 ?_
        refine fs_istore (pc := 1049) (lv' := [(22, .int (v25 + 1)), (23, .int v27), (1, .ref a1), (6, .int v6), (7, .int v7), (9, .ref a9), (11, .ref a11), (12, .int v12), (13, .int v13), (14, .int v14), (15, .int v15), (16, .int v16), (17, .ref a17), (18, .int v18), (19, .int v19), (20, .int v20), (21, .int v21), (24, .int v24), (25, .int v25), (26, .int v26), (27, .int v27)]) (by decide) rfl dL_law_1049 ?_
        refine fs_iinc (pc := 1051) (lv' := [(26, .int (v26 + 1)), (22, .int (v25 + 1)), (23, .int v27), (1, .ref a1), (6, .int v6), (7, .int v7), (9, .ref a9), (11, .ref a11), (12, .int v12), (13, .int v13), (14, .int v14), (15, .int v15), (16, .int v16), (17, .ref a17), (18, .int v18), (19, .int v19), (20, .int v20), (21, .int v21), (24, .int v24), (25, .int v25), (27, .int v27)]) (v26 + 1) 19 rfl (congrArg (fun z => v26 + z) (by decide)) (by decide) rfl dL_law_1051 ?_
        refine fs_goto (pc := 1054) (tgt := 937) (by decide) dL_law_1054 ?_
        exact fs_sub [3, 4, 5, 6, 7, 8, 9, 10, 11, 12, 13, 14, 15, 16, 17, 1, 2, 18, 19, 0] rfl hW
