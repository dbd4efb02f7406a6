/-! The claim. -/
theorem tl_1 {w : Cond} (h : w ∈ tables_1_1) : w ∈ lw_tbl := List.mem_append_right _ (List.mem_append_left _ (h))
theorem tl_2 {w : Cond} (h : w ∈ tables_1_2) : w ∈ lw_tbl := List.mem_append_right _ (List.mem_append_right _ (List.mem_append_left _ (h)))
theorem tl_3 {w : Cond} (h : w ∈ tables_1_3) : w ∈ lw_tbl := List.mem_append_right _ (List.mem_append_right _ (List.mem_append_right _ (List.mem_append_left _ (h))))
theorem tl_4 {w : Cond} (h : w ∈ tables_1_4) : w ∈ lw_tbl := List.mem_append_right _ (List.mem_append_right _ (List.mem_append_right _ (List.mem_append_right _ (List.mem_append_left _ (h)))))
theorem tl_5 {w : Cond} (h : w ∈ tables_1_5) : w ∈ lw_tbl := List.mem_append_right _ (List.mem_append_right _ (List.mem_append_right _ (List.mem_append_right _ (List.mem_append_right _ (h)))))
theorem nw_0 : Cond.methodLinkNest RX11 9 yX7_init RX11 ∈ lw_tbl := tl_1 (List.mem_of_getElem? (i := 26) (by decide +kernel))
theorem nw_1 : Cond.methodLinkNest RX7 22 yX6_init RX11 ∈ lw_tbl := tl_1 (List.mem_of_getElem? (i := 43) (by decide +kernel))
theorem nw_2 : Cond.methodLinkNest RX0 17 yX8_init RX11 ∈ lw_tbl := tl_1 (List.mem_of_getElem? (i := 102) (by decide +kernel))
theorem nw_3 : Cond.methodLinkNest RX11 25 yX8_init RX11 ∈ lw_tbl := tl_1 (List.mem_of_getElem? (i := 126) (by decide +kernel))
theorem nw_4 : Cond.methodLinkNest RX5 34 yX4_init RX11 ∈ lw_tbl := tl_1 (List.mem_of_getElem? (i := 228) (by decide +kernel))
theorem nw_5 : Cond.methodLinkNest RX8 32 yX11_hasSlot RX11 ∈ lw_tbl := tl_2 (List.mem_of_getElem? (i := 60) (by decide +kernel))
theorem nw_6 : Cond.methodLinkNest RX2 72 yX11_roundedUp RX11 ∈ lw_tbl := tl_2 (List.mem_of_getElem? (i := 136) (by decide +kernel))
theorem nw_7 : Cond.methodLinkNest RX8 24 yX11_isSlot RX11 ∈ lw_tbl := tl_2 (List.mem_of_getElem? (i := 150) (by decide +kernel))
theorem nw_8 : Cond.methodLinkNest RX2 51 yX11_has RX11 ∈ lw_tbl := tl_2 (List.mem_of_getElem? (i := 223) (by decide +kernel))
theorem nw_9 : Cond.methodLinkNest RX2 44 yX11_with RX11 ∈ lw_tbl := tl_2 (List.mem_of_getElem? (i := 226) (by decide +kernel))
theorem nw_10 : Cond.methodLinkNest RX6 62 yX11_has RX11 ∈ lw_tbl := tl_3 (List.mem_of_getElem? (i := 130) (by decide +kernel))
theorem nw_11 : Cond.methodLinkNest RX6 89 yX11_hasSlot RX11 ∈ lw_tbl := tl_3 (List.mem_of_getElem? (i := 145) (by decide +kernel))
theorem nw_12 : Cond.methodLinkNest RX2 136 yX11_hasSlot RX11 ∈ lw_tbl := tl_3 (List.mem_of_getElem? (i := 213) (by decide +kernel))
theorem nw_13 : Cond.methodLinkNest RX6 56 yX11_with RX11 ∈ lw_tbl := tl_3 (List.mem_of_getElem? (i := 222) (by decide +kernel))
theorem nw_14 : Cond.methodLinkNest RX9 110 yX11_with RX11 ∈ lw_tbl := tl_3 (List.mem_of_getElem? (i := 224) (by decide +kernel))
theorem nw_15 : Cond.methodLinkNest RX3 54 yX11_has RX11 ∈ lw_tbl := tl_4 (List.mem_of_getElem? (i := 38) (by decide +kernel))
theorem nw_16 : Cond.methodLinkNest RX9 133 yX11_without RX11 ∈ lw_tbl := tl_4 (List.mem_of_getElem? (i := 78) (by decide +kernel))
theorem nw_17 : Cond.methodLinkNest RX3 50 yX11_with RX11 ∈ lw_tbl := tl_4 (List.mem_of_getElem? (i := 87) (by decide +kernel))
theorem nw_18 : Cond.methodLinkNest RX10 97 yX11_with RX11 ∈ lw_tbl := tl_4 (List.mem_of_getElem? (i := 114) (by decide +kernel))
theorem nw_19 : Cond.methodLinkNest RX6 59 yX11_without RX11 ∈ lw_tbl := tl_4 (List.mem_of_getElem? (i := 216) (by decide +kernel))
theorem no_0 : Cond.arrayOver (.object RX8) ∈ lw_tbl := tl_1 (List.mem_of_getElem? (i := 100) (by decide +kernel))
theorem no_1 : Cond.arrayOver (.object RX2) ∈ lw_tbl := tl_1 (List.mem_of_getElem? (i := 134) (by decide +kernel))
theorem no_2 : Cond.arrayOver (.object RX6) ∈ lw_tbl := tl_1 (List.mem_of_getElem? (i := 186) (by decide +kernel))
theorem no_3 : Cond.arrayOver (.object RX4) ∈ lw_tbl := tl_1 (List.mem_of_getElem? (i := 224) (by decide +kernel))
theorem nwM_in : ∀ q ∈ nwM, Cond.methodLinkNest q.1 q.2.1 q.2.2.1 q.2.2.2 ∈ lw_tbl := List.forall_mem_cons.mpr ⟨nw_0, List.forall_mem_cons.mpr ⟨nw_1, List.forall_mem_cons.mpr ⟨nw_2, List.forall_mem_cons.mpr ⟨nw_3, List.forall_mem_cons.mpr ⟨nw_4, List.forall_mem_cons.mpr ⟨nw_5, List.forall_mem_cons.mpr ⟨nw_6, List.forall_mem_cons.mpr ⟨nw_7, List.forall_mem_cons.mpr ⟨nw_8, List.forall_mem_cons.mpr ⟨nw_9, List.forall_mem_cons.mpr ⟨nw_10, List.forall_mem_cons.mpr ⟨nw_11, List.forall_mem_cons.mpr ⟨nw_12, List.forall_mem_cons.mpr ⟨nw_13, List.forall_mem_cons.mpr ⟨nw_14, List.forall_mem_cons.mpr ⟨nw_15, List.forall_mem_cons.mpr ⟨nw_16, List.forall_mem_cons.mpr ⟨nw_17, List.forall_mem_cons.mpr ⟨nw_18, List.forall_mem_cons.mpr ⟨nw_19, fun _ h => absurd h List.not_mem_nil⟩⟩⟩⟩⟩⟩⟩⟩⟩⟩⟩⟩⟩⟩⟩⟩⟩⟩⟩⟩
theorem nwO_in : ∀ C ∈ nwO, Cond.arrayOver (.object C) ∈ lw_tbl := List.forall_mem_cons.mpr ⟨no_0, List.forall_mem_cons.mpr ⟨no_1, List.forall_mem_cons.mpr ⟨no_2, List.forall_mem_cons.mpr ⟨no_3, fun _ h => absurd h List.not_mem_nil⟩⟩⟩⟩
theorem ti_0 : Cond.instantiable RX0 2 ∈ lw_tbl := tl_1 (List.mem_of_getElem? (i := 94) (by decide +kernel))
theorem ti_1 : Cond.instantiable RX1 1 ∈ lw_tbl := tl_1 (List.mem_of_getElem? (i := 31) (by decide +kernel))
theorem ti_2 : Cond.instantiable RX2 12 ∈ lw_tbl := tl_2 (List.mem_of_getElem? (i := 98) (by decide +kernel))
theorem ti_3 : Cond.instantiable RX3 3 ∈ lw_tbl := tl_1 (List.mem_of_getElem? (i := 128) (by decide +kernel))
theorem ti_4 : Cond.instantiable RX4 4 ∈ lw_tbl := tl_1 (List.mem_of_getElem? (i := 227) (by decide +kernel))
theorem ti_5 : Cond.instantiable RX5 5 ∈ lw_tbl := tl_1 (List.mem_of_getElem? (i := 218) (by decide +kernel))
theorem ti_6 : Cond.instantiable RX6 7 ∈ lw_tbl := tl_1 (List.mem_of_getElem? (i := 42) (by decide +kernel))
theorem ti_7 : Cond.instantiable RX7 7 ∈ lw_tbl := tl_1 (List.mem_of_getElem? (i := 25) (by decide +kernel))
theorem ti_8 : Cond.instantiable RX8 3 ∈ lw_tbl := tl_1 (List.mem_of_getElem? (i := 101) (by decide +kernel))
theorem ti_9 : Cond.instantiable RX9 8 ∈ lw_tbl := tl_1 (List.mem_of_getElem? (i := 146) (by decide +kernel))
theorem ti_10 : Cond.instantiable RX10 9 ∈ lw_tbl := tl_1 (List.mem_of_getElem? (i := 180) (by decide +kernel))
theorem ti_11 : Cond.instantiable RX11 9 ∈ lw_tbl := tl_1 (List.mem_of_getElem? (i := 17) (by decide +kernel))
theorem ta_int : Cond.arrayClass .int ∈ lw_tbl := tl_1 (List.mem_of_getElem? (i := 40) (by decide +kernel))
theorem ta_long : Cond.arrayClass .long ∈ lw_tbl := tl_1 (List.mem_of_getElem? (i := 178) (by decide +kernel))
theorem va_AO_of {C : String} {A : Array Value} {U : State} (h : (Cond.arrayOver (.object C)).before A U = true) : va_AO C U := h
theorem arr_prim {ty : FieldType} {args : Array Value} {s : State} (h : (Cond.arrayClass ty).before args s = true) : ∃ cA, ArrOfT s cA ty ∧ s.vm.findClass ("[" ++ ty.toString) = some cA := by
  obtain ⟨cA, kA, comp, h1, h2, h3⟩ := Cond.arrayClass_spec h
  exact ⟨cA, fun n z => ⟨fun k h => (by cases h), kA, h2, comp, h3⟩, h1⟩
theorem arr_obj {C : String} {args : Array Value} {s : State} (h : (Cond.arrayOver (.object C)).before args s = true) : ∃ cA, ArrOfT s cA (.object C) ∧ va_RA s cA (.object C) := by
  obtain ⟨comp, cA, kA, h1, -, h2, h3, h4⟩ := Cond.arrayOver_spec h
  exact ⟨cA, fun n z => ⟨fun k h => (by cases h), kA, h2, comp, h3⟩, kA, comp, h2, h3, h1, h4⟩
/-- what holds at the law's entry -/
def lw_At (p : Program) (s : State) (m : MethodId) (meth : Method) (c : Code) (b L : Nat) (xs : Nat → Int32) : Prop :=
  p.tables.exec = Jvm.exec ∧ c.code = code ∧ meth.sig.returnType = ret ∧ meth.locks = false ∧ c.maxLocals = 28 ∧ s.vm.findClass R_law = some m.cls ∧ meth.name = x.name ∧ (∀ w ∈ wsM ML, w.before #[Value.ref b] s = true) ∧ (∀ w ∈ lw_tbl, w.before #[Value.ref b] s = true) ∧ va_X b L xs s s.heap ∧ b < s.heap.size
theorem whole_start {p : Program} {e : Env} {s : State} {m : MethodId} {below : List Frame} {meth : Method} {c : Code} (l : Launch) {b L : Nat} {xs : Nat → Int32} (hL : L ≤ 260) (C0 : lw_At p s m meth c b L xs) : W p l e room_1 s m #[Value.ref b] below meth c s.heap [] 0 0 (lw_Z below #[Value.ref b] s) (entryFrame m ([Value.ref b] : List Value).toArray 28) := by
  obtain ⟨hx, hb, hr, hlk, hml, hown, hnm, htM, hts, hX, hbl⟩ := C0
  have htw : ∀ w ∈ wsL_law, w.before #[Value.ref b] s = true := fun w hw => hts w (wsL_law_in w hw)
  obtain ⟨c0, i0, u0⟩ := u_known (C := RX0) (T := TX0) (N := 2) (n := 2) htw kc_X0.2.1 (hts _ ti_0)
  obtain ⟨c1, i1, u1⟩ := u_known (C := RX1) (T := TX1) (N := 1) (n := 1) htw kc_X1.2.1 (hts _ ti_1)
  obtain ⟨c2, i2, u2⟩ := u_known (C := RX2) (T := TX2) (N := 12) (n := 12) htw kc_X2.2.1 (hts _ ti_2)
  obtain ⟨c3, i3, u3⟩ := u_known (C := RX3) (T := TX3) (N := 3) (n := 3) htw kc_X3.2.1 (hts _ ti_3)
  obtain ⟨c4, i4, u4⟩ := u_known (C := RX4) (T := TX4) (N := 4) (n := 4) htw kc_X4.2.1 (hts _ ti_4)
  obtain ⟨c5, i5, u5⟩ := u_known (C := RX5) (T := TX5) (N := 5) (n := 5) htw kc_X5.2.1 (hts _ ti_5)
  obtain ⟨c6, i6, u6⟩ := u_known (C := RX6) (T := TX6) (N := 7) (n := 7) htw kc_X6.2.1 (hts _ ti_6)
  obtain ⟨c7, i7, u7⟩ := u_known (C := RX7) (T := TX7) (N := 7) (n := 7) htw kc_X7.2.1 (hts _ ti_7)
  obtain ⟨c8, i8, u8⟩ := u_known (C := RX8) (T := TX8) (N := 3) (n := 3) htw kc_X8.2.1 (hts _ ti_8)
  obtain ⟨c9, i9, u9⟩ := u_known (C := RX9) (T := TX9) (N := 8) (n := 8) htw kc_X9.2.1 (hts _ ti_9)
  obtain ⟨c10, i10, u10⟩ := u_known (C := RX10) (T := TX10) (N := 9) (n := 9) htw kc_X10.2.1 (hts _ ti_10)
  obtain ⟨c11, i11, u11⟩ := u_known (C := RX11) (T := TX11) (N := 9) (n := 9) htw kc_X11.2.1 (hts _ ti_11)
  obtain ⟨k0, a0, f0⟩ := arr_prim (hts _ ta_int)
  obtain ⟨k1, a1, f1⟩ := arr_prim (hts _ ta_int)
  obtain ⟨k2, a2, f2⟩ := arr_prim (hts _ ta_int)
  obtain ⟨k3, a3, f3⟩ := arr_prim (hts _ ta_long)
  obtain ⟨k4, a4, f4⟩ := arr_obj (hts _ no_1)
  obtain ⟨k5, a5, f5⟩ := arr_obj (hts _ no_3)
  obtain ⟨k6, a6, f6⟩ := arr_obj (hts _ no_2)
  obtain ⟨k7, a7, f7⟩ := arr_obj (hts _ no_0)
  have hK : ∃ (D : va_G) (K : Nat → ClassId), va_K D vwCl (TT K) s := by
    refine ⟨(fun k => [c0, c1, c2, c3, c4, c5, c6, c7, c8, c9, c10, c11].getD k c0, fun k => [i0, i1, i2, i3, i4, i5, i6, i7, i8, i9, i10, i11].getD k i0), fun k => [k0, k1, k2, k3, k4, k5, k6, k7].getD k k0, fun k q hq => ?_, fun k q hq => ?_⟩
    · match k, hq with
      | 0, hq => cases hq; exact u0
      | 1, hq => cases hq; exact u1
      | 2, hq => cases hq; exact u2
      | 3, hq => cases hq; exact u3
      | 4, hq => cases hq; exact u4
      | 5, hq => cases hq; exact u5
      | 6, hq => cases hq; exact u6
      | 7, hq => cases hq; exact u7
      | 8, hq => cases hq; exact u8
      | 9, hq => cases hq; exact u9
      | 10, hq => cases hq; exact u10
      | 11, hq => cases hq; exact u11
      | k + 12, hq => simp [vwCl] at hq
    · match k, hq with
      | 0, hq => cases hq; exact ⟨a0, f0⟩
      | 1, hq => cases hq; exact ⟨a1, f1⟩
      | 2, hq => cases hq; exact ⟨a2, f2⟩
      | 3, hq => cases hq; exact ⟨a3, f3⟩
      | 4, hq => cases hq; exact ⟨a4, f4⟩
      | 5, hq => cases hq; exact ⟨a5, f5⟩
      | 6, hq => cases hq; exact ⟨a6, f6⟩
      | 7, hq => cases hq; exact ⟨a7, f7⟩
      | k + 8, hq => simp [TT] at hq
  obtain ⟨D, K, hK⟩ := hK
  have hl := lv_entry ([.ref b]) (n := 28) (Nat.le_of_ble_eq_true rfl)
  rw [lg_entry_eq]
  generalize (lg_sl ([.ref b]) ++ List.replicate (28 - (lg_sl ([.ref b])).length) Slot.unset).toArray = ls at hl ⊢
  have hl : lv_has ls 28 [(0, .ref b)] := hl
  have hR : Hr (l, D, K, s.heap.size) s00 s.heap := ⟨fun k q h => by simp [s00, va_pl] at h, fun i j p q h => by simp [s00, va_pl] at h, fun k q h => by simp [s00, va_pl] at h⟩
  have hk : Hk (l, D, K, s.heap.size) s := ⟨hK, fun q hq => va_Nw.of rfl (hts _ (nwM_in q hq)), fun C hC => va_AO_of (hts _ (nwO_in C hC))⟩
  exact law_begin (g := (l, D, K, s.heap.size)) (b := b) (L := L) (xs := xs) hL p e s m #[Value.ref b] below meth c s.heap [] ls ⟨hx, hb, hr, hlk, hml, hown, hnm, htM, hk, hR, va_S.rf, hl, Nat.le_refl _⟩ ⟨rfl, hX, hbl, Nat.le_refl _⟩
set_option maxHeartbeats 4000000 in
theorem lw_walk (l : Launch) (hflags : l.flags = flags0) (b : Addr) (xs : List Int32) : MetFree l x (headSpec (Jvm.Cond.code x code maxLocals ret :: tables_1) room_1) (lw_P b xs) (fun _ _ _ _ _ => True) lw_Q := by
  refine MetFree.of_bodyS (code := code) (maxLocals := maxLocals) (ret := ret) (by decide) ?_ ?_
  · intro args s m h hn
    obtain ⟨meth, c, h1, h2, h3, h4, h5, h6, -, -⟩ := Cond.code_spec hn (atoms_spec (ws := Jvm.Cond.code x code maxLocals ret :: tables_1) h _ List.mem_cons_self)
    exact ⟨meth, c, h1, h2, h3, h4, h5, h6⟩
  · intro p e s m args below meth c s₁ B hml0 hP _
    obtain ⟨rfl, hx, hbd, hgv⟩ := hP
    obtain ⟨scr, harrAt, hlist, hof, hsmall⟩ := hx
    obtain ⟨hcb, hkn, -, -⟩ := State.arrayAt?_spec harrAt
    have hown : s.vm.findClass R_law = some m.cls := findClass_of_methodNamed B.named
    have hts0 : ∀ c ∈ (Jvm.Cond.code x code maxLocals ret :: tables_1), c.before #[Value.ref b] s = true := atoms_spec (ws := Jvm.Cond.code x code maxLocals ret :: tables_1) B.pre
    have hts : ∀ w ∈ lw_tbl, w.before #[Value.ref b] s = true := k2_hts_sels lw_privs (fun w hw => hts0 w (List.mem_cons_of_mem _ hw)) lw_privs_ok
    have hml : c.maxLocals = 28 := B.maxLocals_eq (hts0 _ List.mem_cons_self)
    have htM : ∀ w ∈ wsM ML, w.before #[Value.ref b] s = true := fun w hw => (List.mem_cons.mp hw).elim (fun e => by rw [e]; exact hts0 _ List.mem_cons_self) (fun h => hts w (wsL_law_in w h))
    have X₀ : Stand p l e room_1 s m #[Value.ref b] below meth c s₁ [] 0 0 := Stand.of_body B
    have hh0 : s₁.heap = s.heap := by rw [B.state]; rfl
    have hsz : scr.slots.size = xs.length := by rw [← Array.length_toList, hlist, List.length_map]
    have hval : ∀ j : Nat, j < xs.length → scr.slots[j]? = some (.int (xs.getD j 0)) := fun j hj => by
      rw [← Array.getElem?_toList, hlist]
      simp [hj]
    have hbl : b < s.heap.size := (Array.getElem?_eq_some_iff.mp hcb).1
    have hX : va_X b xs.length (fun j => xs.getD j 0) s s.heap := ⟨scr, hcb, hof, hkn, hsz, hval⟩
    have K : W p l e room_1 s m #[Value.ref b] below meth c s₁.heap [] 0 0 (lw_Z below #[Value.ref b] s) (entryFrame m ([Value.ref b] : List Value).toArray 28) := by
      rw [hh0]
      exact whole_start l hbd ⟨B.exec, B.bytes, B.returns, B.notSynchronized, hml, hown, (name_of_methodNamed B.named B.method).1, htM, hts, hX, hbl⟩
    obtain ⟨t, a1, o, b1, b2, b3⟩ := K s₁ rfl X₀
    exact ⟨t, o, a1, b1, b2, b3⟩
theorem lw_pre_spec {args : Array Value} {s : State} (h : (Jvm.Cond.and given_1 narrow_1).before args s = true) (hr : rest_1_c.before args s = true) : ∃ (b : Addr) (xs : List Int32), lw_P b xs args s := by
  have hs := flat_of_before _ h
  have hq := flat_of_before _ hr
  have hc : (Cond.count 1).before args s = true := hs _ (by decide +kernel)
  have harr : (Cond.arrayOf (.arg 0) .int).before args s = true := hs _ (by decide +kernel)
  have hle : (Cond.le (.length (.arg 0)) (.int 260)).before args s = true := hs _ (by decide +kernel)
  have hlen : (Cond.isInt (.length (.arg 0))).before args s = true := hq _ (by decide +kernel)
  have hall : (Cond.all (.arg 0) (.isInt (.elem (.arg 0) (.index 0)))).before args s = true := hq _ (by decide +kernel)
  obtain ⟨b, xs, hb, hx⟩ := State.ints_of_pre rfl harr hlen hall
  have hsm : xs.length < 2 ^ 31 := hx.choose_spec.2.2.2
  have hev : (Term.length (.arg 0)).eval args s none [] s = some (.int xs.length.toInt32) := hx.length_eval hb
  have hv := Cond.le_ints hev (show (Term.int 260).eval args s none [] s = some (.int 260) from rfl)
  have hd : xs.length.toInt32 ≤ 260 := by
    simpa [Cond.before, Cond.holds, hv] using hle
  have hN : xs.length ≤ 260 := (Int32.ofNat_le_ofNat hsm (by decide)).mp (show Int32.ofNat xs.length ≤ Int32.ofNat 260 from hd)
  exact ⟨b, xs, Cond.one_arg hc (show args[0]? = some (.ref b) from hb), hx, hN, h⟩
theorem lw_comes (l : Launch) (hflags : l.flags = flags0) : Comes l x (Jvm.Cond.code x code maxLocals ret :: tables_1) room_1 (fun tb e args s => Calls_1 tb e args s ∧ rest_1 tb e args s ∧ Pre_1 tb e args s)
    (fun _ _ args s o t => lw_Q args s o t) := by
  intro p e ha hc hk s m args below hf hfit hheap happ hpre
  obtain ⟨b, xs, hP⟩ := lw_pre_spec hpre.2.2 hpre.2.1
  obtain ⟨k, o, h1, h2, h3, hQ⟩ := lw_walk l hflags b xs p e ha hc hk s m args below hf ((Spec.applies_iff_loose hf).mp happ).1 hP trivial
  exact ⟨k, o, h1, h2, h3, hQ⟩
theorem lw_frame {s t : State} {o : Outcome} {args : Array Value} (h : Framed s o t [] 600000 7302250) :
    Framed s o t (fieldLocs frame_1_writes args s ++ arrayLocs frame_1_arrays args s ++ staticLocs frame_1_statics s) 600000 7302250 := h
theorem lw_limb (L : Cond) (hL : ∀ (args : Array Value) (s t : State), L.after args s (.returned (some (.int 1))) t = true) :
    ArmFor flags0 classFile x code maxLocals ret World_1 tables_1 room_1 Calls_1 rest_1 Pre_1
      (fun tb e a s o t => postC L tb e a s o t ∧ Framed s o t (fieldLocs frame_1_writes a s ++ arrayLocs frame_1_arrays a s ++ staticLocs frame_1_statics s) 600000 7302250) := by
  intro l hflags _ _ p e ha hc hk s m args below hf hfit hheap happ hpre
  obtain ⟨k, o, h1, h2, h3, rfl, hF⟩ := lw_comes l hflags p e ha hc hk s m args below hf hfit hheap happ hpre
  exact ⟨k, _, h1, h2, h3, hL args s _, lw_frame hF⟩
theorem i_vc : Claimed_1_1 ∧ Claimed_1_2 := ⟨lw_limb limb_1_1 (fun args s t => by simp [limb_1_1, Cond.after, Cond.holds, Cond.value]), lw_limb limb_1_2 (fun args s t => Cond.after_iff.mpr (by
  first | (rw [show limb_1_2 = Cond.eq .result (.int 1) from rfl, Cond.eq_ints (x := 1) (y := 1) rfl rfl]; simp; done) | (simp [limb_1_2, Cond.value, Term.eval]; done)))⟩
