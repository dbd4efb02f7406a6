/-! The script's cells. -/
def Pcl (g : GG) (σ : Hs) (b L : Nat) (xs : Nat → Int32) (U : State) : Prop := Pg g σ U ∧ va_X b L xs U U.heap ∧ b < U.heap.size ∧ b < g.2.2.2
theorem Pcl.blind (g : GG) (as : List Value) (σ : Hs) (b L : Nat) (xs : Nat → Int32) : FrameBlind (va_Pc as (Pcl g σ b L xs)) := fun a U f mk q => ⟨q.1, ⟨q.2.1.1, q.2.1.2.1, q.2.1.2.2.calling⟩, va_X.moved (u := U) (U := U.calling f mk _) (Vm.Alike.refl U.vm) q.2.2.1, q.2.2.2.1, q.2.2.2.2⟩
set_option maxRecDepth 100000 in
set_option maxHeartbeats 4000000 in
theorem do_cell {g : GG} {σ : Hs} {b L : Nat} {xs : Nat → Int32} {k : Int32} (hL : L ≤ 260) (hk : ¬ k < 0) : Met g.1 M_L_cell.1 (wsM M_L_cell) (rmM M_L_cell 0 0) (va_Pc [.ref b, .int k] (Pcl g σ b L xs)) (Qg g (kI fun x σ' => σ' = σ ∧ x = cel L xs k)) 0 0 (gA g) := by
  refine Met.ofW (cc := M_L_cell.2.1) (maxL := M_L_cell.2.2.1) (ret := M_L_cell.2.2.2.1) (by decide +kernel) rfl ?_
  intro p e s m args below meth c s₁ B hml hv
  obtain ⟨rfl, ⟨hsz, hR, hK⟩, hX, hbl, hbb⟩ := hv
  have hl := lv_entry ([.ref b, .int k]) (n := M_L_cell.2.2.1) (Nat.le_of_ble_eq_true rfl)
  rw [lg_entry_eq]
  generalize (lg_sl ([.ref b, .int k]) ++ List.replicate (M_L_cell.2.2.1 - (lg_sl ([.ref b, .int k])).length) Slot.unset).toArray = ls at hl ⊢
  have hl : lv_has ls 2 [(0, .ref b), (1, .int k)] := hl
  have hx := B.exec
  have hb := B.bytes
  have hr := B.returns
  have hown := findClass_of_methodNamed B.named
  have hts := atoms_spec (ws := wsM M_L_cell) B.pre
  have hS : va_S (gA g) s.heap s.heap [] := va_S.rf
  have hbA : ¬ gA g b := fun z => absurd hbb (Nat.not_lt.mpr z)
  have fin : ∀ v : Int32, v &&& 2147483647 = cel L xs k → W p g.1 e (rmM M_L_cell 0 0) s m _ below meth c s.heap [] 0 0 (MQ below (Qg g (kI fun x σ' => σ' = σ ∧ x = cel L xs k)) _ s 0 0 (gA g)) (F0 m 20 ls [.int v]) := fun v hv => by
    refine lv_ldc hx hb hown (hts _ (List.mem_cons_of_mem _ w_593)) dL_cell_20 (lv_iand hx hb dL_cell_22 ?_)
    exact W.widen (Nat.le_refl 0) (Nat.le_refl 0) (W.iret hx hb hr (fun t ht hW => ⟨⟨some (.int _), σ, rfl, ⟨_, rfl, rfl, hv⟩, by rw [ht]; exact hR⟩, hS.F ht⟩) hS.2.2 dL_cell_23)
  refine lv_iload_n hx hb dL_cell_0 rfl (lv_at hl 1 rfl) (lv_aload_n hx hb dL_cell_1 rfl (lv_at hl 0 rfl) (va_slen hx hb hX hbl hbA hS dL_cell_2 ?_))
  refine lv_icmp_ge (pc := 3) (tgt := 12) hx hb dL_cell_3 (by decide) (fun z => ?_) (fun z => ?_)
  · refine lv_sipush (v := 7919) hx hb dL_cell_12 (by decide) (lv_iload_n hx hb dL_cell_15 rfl (lv_at hl 1 rfl) (lv_imul hx hb dL_cell_16 (lv_bipush (v := 13) hx hb dL_cell_17 (by decide) (lv_iadd hx hb dL_cell_19 (fin _ ?_)))))
    unfold cel
    rw [if_neg fun y => by have y := I_lt.mp y; have z := I_le.mp z; omega]
  · have z2 : k < Int32.ofNat L := I_lt.mpr (by have z : ¬ (Int32.ofNat L).toInt ≤ k.toInt := fun y => z (I_le.mpr y); omega)
    have hin : vp_in k L := by
      have h0 : (0 : Int) ≤ k.toInt := nlt_n (n := 0) (by decide) hk
      have h1 := I_lt.mp z2
      rw [show (Int32.ofNat L).toInt = (L : Int) from I_n (by omega)] at h1
      obtain ⟨j, hj, rfl⟩ := I_of (x := k) (n := L) h0 h1 (by omega)
      exact vp_in_nI hj (by omega)
    refine lv_aload_n hx hb dL_cell_6 rfl (lv_at hl 0 rfl) (lv_iload_n hx hb dL_cell_7 rfl (lv_at hl 1 rfl) (va_sld hx hb hX hbl hbA hS hin dL_cell_8 (lv_goto (pc := 9) (tgt := 20) hx hb dL_cell_9 (by decide) (fin _ ?_))))
    unfold cel
    rw [if_pos z2]
theorem lk_80 : Cond.methodLink ML.1.cls 80 yL_cell ∈ wsL_law := w_839
theorem fs_cell {g : GG} {b L : Nat} {xs : Nat → Int32} {Z : ZZ} {lv : LV} {st : List Value} {pc : Nat} {σ : Hs} {k : Int32} (hL : L ≤ 260) (hk : ¬ k < 0) (hz : Z.2.2.1 ≤ 600000 ∧ Z.2.2.2 ≤ 7302250) (hst : (st.map fun v => v.category).sum ≤ 8) (hd : decode ML.2.1 pc = .ok (.invokestatic 80, 3)) (kk : Fs g (SL b L xs g) Z lv (.int (cel L xs k) :: st) (pc + 3) σ) : Fs g (SL b L xs g) Z lv (.int k :: .ref b :: st) pc σ := by
  intro p e s m args below meth c H locs ls ⟨hx, hb, hr, hlk, hml, hown, hnm, hts, hK, hR, hS, hl, hbs⟩ hs
  have hs0 := hs
  obtain ⟨hs1, hs2, hs3, hs4⟩ := hs
  have hcode := wd_L_cell.2.2
  have hHb : H[b]? = s.heap[b]? := hS.2.1 b hs3 (fun z => absurd (Nat.le_trans hs4 z) (Nat.not_le.mpr hs3))
  refine fs_back (mc := 0) (ms := 0) (P := kI fun x σ' => σ' = σ ∧ x = cel L xs k) ⟨hx, hb, hr, hlk, hml, hown, hnm, hts, hK, hR, hS, hl, hbs⟩ hs0 (va_runS (As := [.ref b, .int k]) (rest := st) ⟨hx, hb, hml, hown, hts⟩ (do_cell (σ := σ) (b := b) (L := L) (xs := xs) hL hk) ⟨callB_of 2 hts (good_M hcode) rfl rfl rfl (hts _ (List.mem_cons_of_mem _ wd_L_cell.2.1)) (hts _ (List.mem_cons_of_mem _ lk_80)) (okM_s ok_L_cell).1 (okRL ok_L_cell (by decide)), (hts _ (List.mem_cons_of_mem _ wd_L_cell.1))⟩ ⟨Pcl.blind g _ σ b L xs, (fun U hU hW1 => ⟨rfl, ⟨by rw [hU]; exact Nat.le_trans hbs hS.1, by rw [hU]; exact hR, hK.moved hW1⟩, (va_X.moved hW1.alike hs2).kept (by rw [hU]; exact hHb), by rw [hU]; exact Nat.lt_of_lt_of_le hs3 hS.1, Nat.lt_of_lt_of_le hs3 hs4⟩)⟩ rfl rfl hl.1 rfl (lv_room hst) hd hz) ?_
  rintro v σ' ⟨r, rfl, rfl, rfl⟩
  exact kk
