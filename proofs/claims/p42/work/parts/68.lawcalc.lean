/-! The law: its calculus. The rows of part 03 once more, over the law's own room and end, and a script that stands still. -/
def R_law : String := "KeptOrdersLaw"
def lw_P (b : Addr) (xs : List Int32) (args : Array Value) (s : State) : Prop := args = #[.ref b] ∧ s.IntsAt b xs ∧ xs.length ≤ 260 ∧ (Jvm.Cond.and given_1 narrow_1).before args s = true
def lw_Q (_ : Array Value) (s : State) (o : Outcome) (t : State) : Prop := o = .returned (some (.int 1)) ∧ Framed s o t [] 600000 7302250
def lw_Z (below : List Frame) (a : Array Value) (s : State) : State → Prop := fun t => ∃ o, t.status = .running ∧ Ended t below o ∧ lw_Q a s o t
/-- the law's own end, with 1 on the stack, nothing written that was there before, its room as the claim has it -/
theorem lw_ret {p : Program} {l : Launch} {e : Env} {s : State} {m : MethodId} {below : List Frame} {meth : Method} {c : Code} {b : Nat} (hx : p.tables.exec = Jvm.exec) (hb : c.code = code) (hr : meth.sig.returnType = ret) (hlocks : meth.locks = false) {pc : Nat} {H : Heap} {ls : Array Slot} (hdg : decode code pc = .ok (.ireturn, 1)) : W p l e room_1 s m #[Value.ref b] below meth c H [] 600000 7302250 (lw_Z below #[Value.ref b] s) (F0 m pc ls [.int 1]) := by
  intro T hT X
  obtain ⟨fs, hret, hrun, hended, hW, hframe⟩ := X.leave (v := some (.int 1)) (hlocks := hlocks) (fun h => by rw [hr] at h; cases h)
  have hmeth' : T.vm.method? m = some meth := X.method'
  refine ⟨T.setFrames fs, ?_, .returned (some (.int 1)), hrun, hended, rfl, ⟨_, rfl⟩, hW, hframe⟩
  jvm_step X.here [X.here.top, hx, hb, hdg, hmeth', hr, ret, narrow_b1]
  (try refine ⟨rfl, ?_⟩); (try refine ⟨rfl, ?_⟩)
  first | (intro acts; rw [hret _ acts rfl rfl rfl]) | rw [hret _ _ rfl rfl rfl]
  exact Steps.refl _
abbrev ML : MI := (x, code, 28, ret, 10)
/-- the script of L ints xs lies at b, ahead of all that is made -/
def SL (b L : Nat) (xs : Nat → Int32) (g : GG) (args : Array Value) (s : State) : Prop := args = #[Value.ref b] ∧ va_X b L xs s s.heap ∧ b < s.heap.size ∧ s.heap.size ≤ g.2.2.2
def Fs (g : GG) (S : Array Value → State → Prop) (Z : ZZ) (lv : LV) (st : List Value) (pc : Nat) (σ : Hs) : Prop :=
  ∀ (p : Program) (e : Env) (s : State) (m : MethodId) (args : Array Value) (below : List Frame) (meth : Method) (c : Code) (H : Heap) (locs : List Loc) (ls : Array Slot), Cx g ML p s m args meth c H locs σ ls lv → S args s → W p g.1 e room_1 s m args below meth c H locs Z.2.2.1 Z.2.2.2 (lw_Z below args s) (F0 m pc ls st)
theorem okRL {M' : MI} {n mc ms : Nat} (h : okM M' n = true) (hd : M'.2.2.2.2 + 1 ≤ 10) : (rmM M' mc ms).frames + 1 ≤ room_1.frames ∧ 8 + (M'.2.2.1 + 11) + (rmM M' mc ms).locals ≤ room_1.locals := by
  have h1 := (okM_s h).2
  refine ⟨hd, ?_⟩
  show 8 + (M'.2.2.1 + 11) + 39 * M'.2.2.2.2 ≤ 392
  omega
theorem fs_sub {g : GG} {S : Array Value → State → Prop} {Z : ZZ} {lv lv' : LV} {st : List Value} {pc : Nat} {σ : Hs} (ks : List Nat) (hl : lv_pick lv ks = lv') (kk : Fs g S Z lv' st pc σ) : Fs g S Z lv st pc σ := by
  intro p e s m args below meth c H locs ls ⟨hx, hb, hr, hlk, hml, hown, hnm, hts, hK, hR, hS, hl1, hbs⟩ hs
  exact kk p e s m args below meth c H locs ls ⟨hx, hb, hr, hlk, hml, hown, hnm, hts, hK, hR, hS, lv_sub hl1 ks hl, hbs⟩ hs
theorem fs_iconst {g : GG} {S : Array Value → State → Prop} {Z : ZZ} {lv : LV} {st : List Value} {pc : Nat} {σ : Hs} {n : Int} (v : Int32) (hv : Int32.ofInt n = v) (hd : decode ML.2.1 pc = .ok (.iconst n, 1)) (kk : Fs g S Z lv (.int v :: st) (pc + 1) σ) : Fs g S Z lv (st) pc σ := by
  intro p e s m args below meth c H locs ls ⟨hx, hb, hr, hlk, hml, hown, hnm, hts, hK, hR, hS, hl, hbs⟩ hs
  exact lv_iconst hx hb hd hv (kk p e s m args below meth c H locs ls ⟨hx, hb, hr, hlk, hml, hown, hnm, hts, hK, hR, hS, hl, hbs⟩ hs)
theorem fs_bipush {g : GG} {S : Array Value → State → Prop} {Z : ZZ} {lv : LV} {st : List Value} {pc : Nat} {σ : Hs} {n : Int} (v : Int32) (hv : (Int8.ofInt n).toInt32 = v) (hd : decode ML.2.1 pc = .ok (.bipush n, 2)) (kk : Fs g S Z lv (.int v :: st) (pc + 2) σ) : Fs g S Z lv (st) pc σ := by
  intro p e s m args below meth c H locs ls ⟨hx, hb, hr, hlk, hml, hown, hnm, hts, hK, hR, hS, hl, hbs⟩ hs
  exact lv_bipush hx hb hd hv (kk p e s m args below meth c H locs ls ⟨hx, hb, hr, hlk, hml, hown, hnm, hts, hK, hR, hS, hl, hbs⟩ hs)
theorem fs_sipush {g : GG} {S : Array Value → State → Prop} {Z : ZZ} {lv : LV} {st : List Value} {pc : Nat} {σ : Hs} {n : Int} (v : Int32) (hv : (Int16.ofInt n).toInt32 = v) (hd : decode ML.2.1 pc = .ok (.sipush n, 3)) (kk : Fs g S Z lv (.int v :: st) (pc + 3) σ) : Fs g S Z lv (st) pc σ := by
  intro p e s m args below meth c H locs ls ⟨hx, hb, hr, hlk, hml, hown, hnm, hts, hK, hR, hS, hl, hbs⟩ hs
  exact lv_sipush hx hb hd hv (kk p e s m args below meth c H locs ls ⟨hx, hb, hr, hlk, hml, hown, hnm, hts, hK, hR, hS, hl, hbs⟩ hs)
theorem fs_iload_n {g : GG} {S : Array Value → State → Prop} {Z : ZZ} {lv : LV} {st : List Value} {pc : Nat} {σ : Hs} {j : Fin 4} {i : Nat} {x : Int32} (k : Nat) (hk : lv[k]? = some (i, .int x)) (hi : (j : Nat) = i) (hd : decode ML.2.1 pc = .ok (.iload_n j, 1)) (kk : Fs g S Z lv (.int x :: st) (pc + 1) σ) : Fs g S Z lv (st) pc σ := by
  intro p e s m args below meth c H locs ls ⟨hx, hb, hr, hlk, hml, hown, hnm, hts, hK, hR, hS, hl, hbs⟩ hs
  exact lv_iload_n hx hb hd hi (lv_at hl k hk) (kk p e s m args below meth c H locs ls ⟨hx, hb, hr, hlk, hml, hown, hnm, hts, hK, hR, hS, hl, hbs⟩ hs)
theorem fs_iload {g : GG} {S : Array Value → State → Prop} {Z : ZZ} {lv : LV} {st : List Value} {pc : Nat} {σ : Hs} {i : Nat} {x : Int32} (k : Nat) (hk : lv[k]? = some (i, .int x)) (hd : decode ML.2.1 pc = .ok (.iload i, 2)) (kk : Fs g S Z lv (.int x :: st) (pc + 2) σ) : Fs g S Z lv (st) pc σ := by
  intro p e s m args below meth c H locs ls ⟨hx, hb, hr, hlk, hml, hown, hnm, hts, hK, hR, hS, hl, hbs⟩ hs
  exact lv_iload hx hb hd (lv_at hl k hk) (kk p e s m args below meth c H locs ls ⟨hx, hb, hr, hlk, hml, hown, hnm, hts, hK, hR, hS, hl, hbs⟩ hs)
theorem fs_aload_n {g : GG} {S : Array Value → State → Prop} {Z : ZZ} {lv : LV} {st : List Value} {pc : Nat} {σ : Hs} {j : Fin 4} {i : Nat} {x : Nat} (k : Nat) (hk : lv[k]? = some (i, .ref x)) (hi : (j : Nat) = i) (hd : decode ML.2.1 pc = .ok (.aload_n j, 1)) (kk : Fs g S Z lv (.ref x :: st) (pc + 1) σ) : Fs g S Z lv (st) pc σ := by
  intro p e s m args below meth c H locs ls ⟨hx, hb, hr, hlk, hml, hown, hnm, hts, hK, hR, hS, hl, hbs⟩ hs
  exact lv_aload_n hx hb hd hi (lv_at hl k hk) (kk p e s m args below meth c H locs ls ⟨hx, hb, hr, hlk, hml, hown, hnm, hts, hK, hR, hS, hl, hbs⟩ hs)
theorem fs_aload {g : GG} {S : Array Value → State → Prop} {Z : ZZ} {lv : LV} {st : List Value} {pc : Nat} {σ : Hs} {i : Nat} {x : Nat} (k : Nat) (hk : lv[k]? = some (i, .ref x)) (hd : decode ML.2.1 pc = .ok (.aload i, 2)) (kk : Fs g S Z lv (.ref x :: st) (pc + 2) σ) : Fs g S Z lv (st) pc σ := by
  intro p e s m args below meth c H locs ls ⟨hx, hb, hr, hlk, hml, hown, hnm, hts, hK, hR, hS, hl, hbs⟩ hs
  exact lv_aload hx hb hd (lv_at hl k hk) (kk p e s m args below meth c H locs ls ⟨hx, hb, hr, hlk, hml, hown, hnm, hts, hK, hR, hS, hl, hbs⟩ hs)
theorem fs_istore_n {g : GG} {S : Array Value → State → Prop} {Z : ZZ} {lv : LV} {st : List Value} {pc : Nat} {σ : Hs} {lv' : LV} {i : Nat} {x : Int32} {j : Fin 4} (hi : (j : Nat) = i) (hn : i < ML.2.2.1) (hl' : (i, Value.int x) :: lv.filter (fun q => !(q.1 == i) && !(q.1 + 1 == i && q.2.category == 2)) = lv') (hd : decode ML.2.1 pc = .ok (.istore_n j, 1)) (kk : Fs g S Z lv' st (pc + 1) σ) : Fs g S Z lv (.int x :: st) pc σ := by
  intro p e s m args below meth c H locs ls ⟨hx, hb, hr, hlk, hml, hown, hnm, hts, hK, hR, hS, hl, hbs⟩ hs
  exact lv_istore_n hx hb hd hi hl hn hl' (fun ls' h' => kk p e s m args below meth c H locs ls' ⟨hx, hb, hr, hlk, hml, hown, hnm, hts, hK, hR, hS, h', hbs⟩ hs)
theorem fs_istore {g : GG} {S : Array Value → State → Prop} {Z : ZZ} {lv : LV} {st : List Value} {pc : Nat} {σ : Hs} {lv' : LV} {i : Nat} {x : Int32}  (hn : i < ML.2.2.1) (hl' : (i, Value.int x) :: lv.filter (fun q => !(q.1 == i) && !(q.1 + 1 == i && q.2.category == 2)) = lv') (hd : decode ML.2.1 pc = .ok (.istore i, 2)) (kk : Fs g S Z lv' st (pc + 2) σ) : Fs g S Z lv (.int x :: st) pc σ := by
  intro p e s m args below meth c H locs ls ⟨hx, hb, hr, hlk, hml, hown, hnm, hts, hK, hR, hS, hl, hbs⟩ hs
  exact lv_istore hx hb hd hl hn hl' (fun ls' h' => kk p e s m args below meth c H locs ls' ⟨hx, hb, hr, hlk, hml, hown, hnm, hts, hK, hR, hS, h', hbs⟩ hs)
theorem fs_astore_n {g : GG} {S : Array Value → State → Prop} {Z : ZZ} {lv : LV} {st : List Value} {pc : Nat} {σ : Hs} {lv' : LV} {i : Nat} {x : Nat} {j : Fin 4} (hi : (j : Nat) = i) (hn : i < ML.2.2.1) (hl' : (i, Value.ref x) :: lv.filter (fun q => !(q.1 == i) && !(q.1 + 1 == i && q.2.category == 2)) = lv') (hd : decode ML.2.1 pc = .ok (.astore_n j, 1)) (kk : Fs g S Z lv' st (pc + 1) σ) : Fs g S Z lv (.ref x :: st) pc σ := by
  intro p e s m args below meth c H locs ls ⟨hx, hb, hr, hlk, hml, hown, hnm, hts, hK, hR, hS, hl, hbs⟩ hs
  exact lv_astore_n hx hb hd hi hl hn hl' (fun ls' h' => kk p e s m args below meth c H locs ls' ⟨hx, hb, hr, hlk, hml, hown, hnm, hts, hK, hR, hS, h', hbs⟩ hs)
theorem fs_astore {g : GG} {S : Array Value → State → Prop} {Z : ZZ} {lv : LV} {st : List Value} {pc : Nat} {σ : Hs} {lv' : LV} {i : Nat} {x : Nat}  (hn : i < ML.2.2.1) (hl' : (i, Value.ref x) :: lv.filter (fun q => !(q.1 == i) && !(q.1 + 1 == i && q.2.category == 2)) = lv') (hd : decode ML.2.1 pc = .ok (.astore i, 2)) (kk : Fs g S Z lv' st (pc + 2) σ) : Fs g S Z lv (.ref x :: st) pc σ := by
  intro p e s m args below meth c H locs ls ⟨hx, hb, hr, hlk, hml, hown, hnm, hts, hK, hR, hS, hl, hbs⟩ hs
  exact lv_astore hx hb hd hl hn hl' (fun ls' h' => kk p e s m args below meth c H locs ls' ⟨hx, hb, hr, hlk, hml, hown, hnm, hts, hK, hR, hS, h', hbs⟩ hs)
theorem fs_iinc {g : GG} {S : Array Value → State → Prop} {Z : ZZ} {lv : LV} {st : List Value} {pc : Nat} {σ : Hs} {lv' : LV} {i : Nat} {n : Int} {x : Int32} (v : Int32) (k : Nat) (hk : lv[k]? = some (i, .int x)) (hv : x + Int32.ofInt n = v) (hn : i < ML.2.2.1) (hl' : (i, Value.int v) :: lv.filter (fun q => !(q.1 == i) && !(q.1 + 1 == i && q.2.category == 2)) = lv') (hd : decode ML.2.1 pc = .ok (.iinc i n, 3)) (kk : Fs g S Z lv' st (pc + 3) σ) : Fs g S Z lv st pc σ := by
  intro p e s m args below meth c H locs ls ⟨hx, hb, hr, hlk, hml, hown, hnm, hts, hK, hR, hS, hl, hbs⟩ hs
  exact lv_iinc hx hb hd hl hk hv hn hl' (fun ls' h' => kk p e s m args below meth c H locs ls' ⟨hx, hb, hr, hlk, hml, hown, hnm, hts, hK, hR, hS, h', hbs⟩ hs)
theorem fs_iadd {g : GG} {S : Array Value → State → Prop} {Z : ZZ} {lv : LV} {st : List Value} {pc : Nat} {σ : Hs} {x y : Int32} (hd : decode ML.2.1 pc = .ok (.iadd, 1)) (kk : Fs g S Z lv (.int (x + y) :: st) (pc + 1) σ) : Fs g S Z lv (.int y :: .int x :: st) pc σ := by
  intro p e s m args below meth c H locs ls ⟨hx, hb, hr, hlk, hml, hown, hnm, hts, hK, hR, hS, hl, hbs⟩ hs
  exact lv_iadd hx hb hd (kk p e s m args below meth c H locs ls ⟨hx, hb, hr, hlk, hml, hown, hnm, hts, hK, hR, hS, hl, hbs⟩ hs)
theorem fs_isub {g : GG} {S : Array Value → State → Prop} {Z : ZZ} {lv : LV} {st : List Value} {pc : Nat} {σ : Hs} {x y : Int32} (hd : decode ML.2.1 pc = .ok (.isub, 1)) (kk : Fs g S Z lv (.int (x - y) :: st) (pc + 1) σ) : Fs g S Z lv (.int y :: .int x :: st) pc σ := by
  intro p e s m args below meth c H locs ls ⟨hx, hb, hr, hlk, hml, hown, hnm, hts, hK, hR, hS, hl, hbs⟩ hs
  exact lv_isub hx hb hd (kk p e s m args below meth c H locs ls ⟨hx, hb, hr, hlk, hml, hown, hnm, hts, hK, hR, hS, hl, hbs⟩ hs)
theorem fs_imul {g : GG} {S : Array Value → State → Prop} {Z : ZZ} {lv : LV} {st : List Value} {pc : Nat} {σ : Hs} {x y : Int32} (hd : decode ML.2.1 pc = .ok (.imul, 1)) (kk : Fs g S Z lv (.int (x * y) :: st) (pc + 1) σ) : Fs g S Z lv (.int y :: .int x :: st) pc σ := by
  intro p e s m args below meth c H locs ls ⟨hx, hb, hr, hlk, hml, hown, hnm, hts, hK, hR, hS, hl, hbs⟩ hs
  exact lv_imul hx hb hd (kk p e s m args below meth c H locs ls ⟨hx, hb, hr, hlk, hml, hown, hnm, hts, hK, hR, hS, hl, hbs⟩ hs)
theorem fs_iand {g : GG} {S : Array Value → State → Prop} {Z : ZZ} {lv : LV} {st : List Value} {pc : Nat} {σ : Hs} {x y : Int32} (hd : decode ML.2.1 pc = .ok (.iand, 1)) (kk : Fs g S Z lv (.int (x &&& y) :: st) (pc + 1) σ) : Fs g S Z lv (.int y :: .int x :: st) pc σ := by
  intro p e s m args below meth c H locs ls ⟨hx, hb, hr, hlk, hml, hown, hnm, hts, hK, hR, hS, hl, hbs⟩ hs
  exact lv_iand hx hb hd (kk p e s m args below meth c H locs ls ⟨hx, hb, hr, hlk, hml, hown, hnm, hts, hK, hR, hS, hl, hbs⟩ hs)
theorem fs_ior {g : GG} {S : Array Value → State → Prop} {Z : ZZ} {lv : LV} {st : List Value} {pc : Nat} {σ : Hs} {x y : Int32} (hd : decode ML.2.1 pc = .ok (.ior, 1)) (kk : Fs g S Z lv (.int (x ||| y) :: st) (pc + 1) σ) : Fs g S Z lv (.int y :: .int x :: st) pc σ := by
  intro p e s m args below meth c H locs ls ⟨hx, hb, hr, hlk, hml, hown, hnm, hts, hK, hR, hS, hl, hbs⟩ hs
  exact lv_ior hx hb hd (kk p e s m args below meth c H locs ls ⟨hx, hb, hr, hlk, hml, hown, hnm, hts, hK, hR, hS, hl, hbs⟩ hs)
theorem fs_ishl {g : GG} {S : Array Value → State → Prop} {Z : ZZ} {lv : LV} {st : List Value} {pc : Nat} {σ : Hs} {x y : Int32} (hd : decode ML.2.1 pc = .ok (.ishl, 1)) (kk : Fs g S Z lv (.int (x <<< (y &&& 31)) :: st) (pc + 1) σ) : Fs g S Z lv (.int y :: .int x :: st) pc σ := by
  intro p e s m args below meth c H locs ls ⟨hx, hb, hr, hlk, hml, hown, hnm, hts, hK, hR, hS, hl, hbs⟩ hs
  exact lv_ishl hx hb hd (kk p e s m args below meth c H locs ls ⟨hx, hb, hr, hlk, hml, hown, hnm, hts, hK, hR, hS, hl, hbs⟩ hs)
theorem fs_ishr {g : GG} {S : Array Value → State → Prop} {Z : ZZ} {lv : LV} {st : List Value} {pc : Nat} {σ : Hs} {x y : Int32} (hd : decode ML.2.1 pc = .ok (.ishr, 1)) (kk : Fs g S Z lv (.int (x >>> (y &&& 31)) :: st) (pc + 1) σ) : Fs g S Z lv (.int y :: .int x :: st) pc σ := by
  intro p e s m args below meth c H locs ls ⟨hx, hb, hr, hlk, hml, hown, hnm, hts, hK, hR, hS, hl, hbs⟩ hs
  exact lv_ishr hx hb hd (kk p e s m args below meth c H locs ls ⟨hx, hb, hr, hlk, hml, hown, hnm, hts, hK, hR, hS, hl, hbs⟩ hs)
theorem fs_idiv {g : GG} {S : Array Value → State → Prop} {Z : ZZ} {lv : LV} {st : List Value} {pc : Nat} {σ : Hs} {x y : Int32} (hne : ¬ y = 0) (hd : decode ML.2.1 pc = .ok (.idiv, 1)) (kk : Fs g S Z lv (.int (x / y) :: st) (pc + 1) σ) : Fs g S Z lv (.int y :: .int x :: st) pc σ := by
  intro p e s m args below meth c H locs ls ⟨hx, hb, hr, hlk, hml, hown, hnm, hts, hK, hR, hS, hl, hbs⟩ hs
  exact lv_idiv hx hb hd hne (kk p e s m args below meth c H locs ls ⟨hx, hb, hr, hlk, hml, hown, hnm, hts, hK, hR, hS, hl, hbs⟩ hs)
theorem fs_dup {g : GG} {S : Array Value → State → Prop} {Z : ZZ} {lv : LV} {st : List Value} {pc : Nat} {σ : Hs} {v : Value} (hv : v.category = 1) (hd : decode ML.2.1 pc = .ok (.dup, 1)) (kk : Fs g S Z lv (v :: v :: st) (pc + 1) σ) : Fs g S Z lv (v :: st) pc σ := by
  intro p e s m args below meth c H locs ls ⟨hx, hb, hr, hlk, hml, hown, hnm, hts, hK, hR, hS, hl, hbs⟩ hs
  exact lv_dup hx hb hd hv (kk p e s m args below meth c H locs ls ⟨hx, hb, hr, hlk, hml, hown, hnm, hts, hK, hR, hS, hl, hbs⟩ hs)
theorem fs_dup2 {g : GG} {S : Array Value → State → Prop} {Z : ZZ} {lv : LV} {st : List Value} {pc : Nat} {σ : Hs} {v u : Value} (hv : v.category = 1) (hu : u.category = 1) (hd : decode ML.2.1 pc = .ok (.dup2, 1)) (kk : Fs g S Z lv (v :: u :: v :: u :: st) (pc + 1) σ) : Fs g S Z lv (v :: u :: st) pc σ := by
  intro p e s m args below meth c H locs ls ⟨hx, hb, hr, hlk, hml, hown, hnm, hts, hK, hR, hS, hl, hbs⟩ hs
  exact lv_dup2_11 hx hb hd hv hu (kk p e s m args below meth c H locs ls ⟨hx, hb, hr, hlk, hml, hown, hnm, hts, hK, hR, hS, hl, hbs⟩ hs)
theorem fs_irem {g : GG} {S : Array Value → State → Prop} {Z : ZZ} {lv : LV} {st : List Value} {pc : Nat} {σ : Hs} {x y : Int32} (hne : ¬ y = 0) (hd : decode ML.2.1 pc = .ok (.irem, 1)) (kk : Fs g S Z lv (.int (x - x / y * y) :: st) (pc + 1) σ) : Fs g S Z lv (.int y :: .int x :: st) pc σ := by
  intro p e s m args below meth c H locs ls ⟨hx, hb, hr, hlk, hml, hown, hnm, hts, hK, hR, hS, hl, hbs⟩ hs
  exact lv_irem hx hb hd hne (kk p e s m args below meth c H locs ls ⟨hx, hb, hr, hlk, hml, hown, hnm, hts, hK, hR, hS, hl, hbs⟩ hs)
theorem fs_if_eq {g : GG} {S : Array Value → State → Prop} {Z : ZZ} {lv : LV} {st : List Value} {pc : Nat} {σ : Hs} {x : Int32} {off : Int} {tgt : Nat} {φ ψ : Prop} (ht : (pc : Int) + off = (tgt : Int)) (hd : decode ML.2.1 pc = .ok (.ifCond .eq off, 3)) (hW : (x = 0 → φ) ∧ (¬ x = 0 → ψ)) (kt : φ → Fs g S Z lv st tgt σ) (kf : ψ → Fs g S Z lv st (pc + 3) σ) : Fs g S Z lv (.int x :: st) pc σ := by
  intro p e s m args below meth c H locs ls ⟨hx, hb, hr, hlk, hml, hown, hnm, hts, hK, hR, hS, hl, hbs⟩ hs
  exact lv_if_eq hx hb hd ht (fun h => kt (hW.1 h) p e s m args below meth c H locs ls ⟨hx, hb, hr, hlk, hml, hown, hnm, hts, hK, hR, hS, hl, hbs⟩ hs) (fun h => kf (hW.2 h) p e s m args below meth c H locs ls ⟨hx, hb, hr, hlk, hml, hown, hnm, hts, hK, hR, hS, hl, hbs⟩ hs)
theorem fs_icmp_eq {g : GG} {S : Array Value → State → Prop} {Z : ZZ} {lv : LV} {st : List Value} {pc : Nat} {σ : Hs} {x y : Int32} {off : Int} {tgt : Nat} {φ ψ : Prop} (ht : (pc : Int) + off = (tgt : Int)) (hd : decode ML.2.1 pc = .ok (.if_icmp .eq off, 3)) (hW : (x = y → φ) ∧ (¬ x = y → ψ)) (kt : φ → Fs g S Z lv st tgt σ) (kf : ψ → Fs g S Z lv st (pc + 3) σ) : Fs g S Z lv (.int y :: .int x :: st) pc σ := by
  intro p e s m args below meth c H locs ls ⟨hx, hb, hr, hlk, hml, hown, hnm, hts, hK, hR, hS, hl, hbs⟩ hs
  exact lv_icmp_eq hx hb hd ht (fun h => kt (hW.1 h) p e s m args below meth c H locs ls ⟨hx, hb, hr, hlk, hml, hown, hnm, hts, hK, hR, hS, hl, hbs⟩ hs) (fun h => kf (hW.2 h) p e s m args below meth c H locs ls ⟨hx, hb, hr, hlk, hml, hown, hnm, hts, hK, hR, hS, hl, hbs⟩ hs)
theorem fs_if_ne {g : GG} {S : Array Value → State → Prop} {Z : ZZ} {lv : LV} {st : List Value} {pc : Nat} {σ : Hs} {x : Int32} {off : Int} {tgt : Nat} {φ ψ : Prop} (ht : (pc : Int) + off = (tgt : Int)) (hd : decode ML.2.1 pc = .ok (.ifCond .ne off, 3)) (hW : (¬ x = 0 → φ) ∧ (x = 0 → ψ)) (kt : φ → Fs g S Z lv st tgt σ) (kf : ψ → Fs g S Z lv st (pc + 3) σ) : Fs g S Z lv (.int x :: st) pc σ := by
  intro p e s m args below meth c H locs ls ⟨hx, hb, hr, hlk, hml, hown, hnm, hts, hK, hR, hS, hl, hbs⟩ hs
  exact lv_if_ne hx hb hd ht (fun h => kt (hW.1 h) p e s m args below meth c H locs ls ⟨hx, hb, hr, hlk, hml, hown, hnm, hts, hK, hR, hS, hl, hbs⟩ hs) (fun h => kf (hW.2 h) p e s m args below meth c H locs ls ⟨hx, hb, hr, hlk, hml, hown, hnm, hts, hK, hR, hS, hl, hbs⟩ hs)
theorem fs_icmp_ne {g : GG} {S : Array Value → State → Prop} {Z : ZZ} {lv : LV} {st : List Value} {pc : Nat} {σ : Hs} {x y : Int32} {off : Int} {tgt : Nat} {φ ψ : Prop} (ht : (pc : Int) + off = (tgt : Int)) (hd : decode ML.2.1 pc = .ok (.if_icmp .ne off, 3)) (hW : (¬ x = y → φ) ∧ (x = y → ψ)) (kt : φ → Fs g S Z lv st tgt σ) (kf : ψ → Fs g S Z lv st (pc + 3) σ) : Fs g S Z lv (.int y :: .int x :: st) pc σ := by
  intro p e s m args below meth c H locs ls ⟨hx, hb, hr, hlk, hml, hown, hnm, hts, hK, hR, hS, hl, hbs⟩ hs
  exact lv_icmp_ne hx hb hd ht (fun h => kt (hW.1 h) p e s m args below meth c H locs ls ⟨hx, hb, hr, hlk, hml, hown, hnm, hts, hK, hR, hS, hl, hbs⟩ hs) (fun h => kf (hW.2 h) p e s m args below meth c H locs ls ⟨hx, hb, hr, hlk, hml, hown, hnm, hts, hK, hR, hS, hl, hbs⟩ hs)
theorem fs_if_lt {g : GG} {S : Array Value → State → Prop} {Z : ZZ} {lv : LV} {st : List Value} {pc : Nat} {σ : Hs} {x : Int32} {off : Int} {tgt : Nat} {φ ψ : Prop} (ht : (pc : Int) + off = (tgt : Int)) (hd : decode ML.2.1 pc = .ok (.ifCond .lt off, 3)) (hW : (x < 0 → φ) ∧ (¬ x < 0 → ψ)) (kt : φ → Fs g S Z lv st tgt σ) (kf : ψ → Fs g S Z lv st (pc + 3) σ) : Fs g S Z lv (.int x :: st) pc σ := by
  intro p e s m args below meth c H locs ls ⟨hx, hb, hr, hlk, hml, hown, hnm, hts, hK, hR, hS, hl, hbs⟩ hs
  exact lv_if_lt hx hb hd ht (fun h => kt (hW.1 h) p e s m args below meth c H locs ls ⟨hx, hb, hr, hlk, hml, hown, hnm, hts, hK, hR, hS, hl, hbs⟩ hs) (fun h => kf (hW.2 h) p e s m args below meth c H locs ls ⟨hx, hb, hr, hlk, hml, hown, hnm, hts, hK, hR, hS, hl, hbs⟩ hs)
theorem fs_icmp_lt {g : GG} {S : Array Value → State → Prop} {Z : ZZ} {lv : LV} {st : List Value} {pc : Nat} {σ : Hs} {x y : Int32} {off : Int} {tgt : Nat} {φ ψ : Prop} (ht : (pc : Int) + off = (tgt : Int)) (hd : decode ML.2.1 pc = .ok (.if_icmp .lt off, 3)) (hW : (x < y → φ) ∧ (¬ x < y → ψ)) (kt : φ → Fs g S Z lv st tgt σ) (kf : ψ → Fs g S Z lv st (pc + 3) σ) : Fs g S Z lv (.int y :: .int x :: st) pc σ := by
  intro p e s m args below meth c H locs ls ⟨hx, hb, hr, hlk, hml, hown, hnm, hts, hK, hR, hS, hl, hbs⟩ hs
  exact lv_icmp_lt hx hb hd ht (fun h => kt (hW.1 h) p e s m args below meth c H locs ls ⟨hx, hb, hr, hlk, hml, hown, hnm, hts, hK, hR, hS, hl, hbs⟩ hs) (fun h => kf (hW.2 h) p e s m args below meth c H locs ls ⟨hx, hb, hr, hlk, hml, hown, hnm, hts, hK, hR, hS, hl, hbs⟩ hs)
theorem fs_if_ge {g : GG} {S : Array Value → State → Prop} {Z : ZZ} {lv : LV} {st : List Value} {pc : Nat} {σ : Hs} {x : Int32} {off : Int} {tgt : Nat} {φ ψ : Prop} (ht : (pc : Int) + off = (tgt : Int)) (hd : decode ML.2.1 pc = .ok (.ifCond .ge off, 3)) (hW : (0 ≤ x → φ) ∧ (¬ 0 ≤ x → ψ)) (kt : φ → Fs g S Z lv st tgt σ) (kf : ψ → Fs g S Z lv st (pc + 3) σ) : Fs g S Z lv (.int x :: st) pc σ := by
  intro p e s m args below meth c H locs ls ⟨hx, hb, hr, hlk, hml, hown, hnm, hts, hK, hR, hS, hl, hbs⟩ hs
  exact lv_if_ge hx hb hd ht (fun h => kt (hW.1 h) p e s m args below meth c H locs ls ⟨hx, hb, hr, hlk, hml, hown, hnm, hts, hK, hR, hS, hl, hbs⟩ hs) (fun h => kf (hW.2 h) p e s m args below meth c H locs ls ⟨hx, hb, hr, hlk, hml, hown, hnm, hts, hK, hR, hS, hl, hbs⟩ hs)
theorem fs_icmp_ge {g : GG} {S : Array Value → State → Prop} {Z : ZZ} {lv : LV} {st : List Value} {pc : Nat} {σ : Hs} {x y : Int32} {off : Int} {tgt : Nat} {φ ψ : Prop} (ht : (pc : Int) + off = (tgt : Int)) (hd : decode ML.2.1 pc = .ok (.if_icmp .ge off, 3)) (hW : (y ≤ x → φ) ∧ (¬ y ≤ x → ψ)) (kt : φ → Fs g S Z lv st tgt σ) (kf : ψ → Fs g S Z lv st (pc + 3) σ) : Fs g S Z lv (.int y :: .int x :: st) pc σ := by
  intro p e s m args below meth c H locs ls ⟨hx, hb, hr, hlk, hml, hown, hnm, hts, hK, hR, hS, hl, hbs⟩ hs
  exact lv_icmp_ge hx hb hd ht (fun h => kt (hW.1 h) p e s m args below meth c H locs ls ⟨hx, hb, hr, hlk, hml, hown, hnm, hts, hK, hR, hS, hl, hbs⟩ hs) (fun h => kf (hW.2 h) p e s m args below meth c H locs ls ⟨hx, hb, hr, hlk, hml, hown, hnm, hts, hK, hR, hS, hl, hbs⟩ hs)
theorem fs_icmp_gt {g : GG} {S : Array Value → State → Prop} {Z : ZZ} {lv : LV} {st : List Value} {pc : Nat} {σ : Hs} {x y : Int32} {off : Int} {tgt : Nat} {φ ψ : Prop} (ht : (pc : Int) + off = (tgt : Int)) (hd : decode ML.2.1 pc = .ok (.if_icmp .gt off, 3)) (hW : (y < x → φ) ∧ (¬ y < x → ψ)) (kt : φ → Fs g S Z lv st tgt σ) (kf : ψ → Fs g S Z lv st (pc + 3) σ) : Fs g S Z lv (.int y :: .int x :: st) pc σ := by
  intro p e s m args below meth c H locs ls ⟨hx, hb, hr, hlk, hml, hown, hnm, hts, hK, hR, hS, hl, hbs⟩ hs
  exact lv_icmp_gt hx hb hd ht (fun h => kt (hW.1 h) p e s m args below meth c H locs ls ⟨hx, hb, hr, hlk, hml, hown, hnm, hts, hK, hR, hS, hl, hbs⟩ hs) (fun h => kf (hW.2 h) p e s m args below meth c H locs ls ⟨hx, hb, hr, hlk, hml, hown, hnm, hts, hK, hR, hS, hl, hbs⟩ hs)
theorem fs_goto {g : GG} {S : Array Value → State → Prop} {Z : ZZ} {lv : LV} {st : List Value} {pc : Nat} {σ : Hs} {off : Int} {tgt : Nat} (ht : (pc : Int) + off = (tgt : Int)) (hd : decode ML.2.1 pc = .ok (.goto off, 3)) (kk : Fs g S Z lv st tgt σ) : Fs g S Z lv st pc σ := by
  intro p e s m args below meth c H locs ls ⟨hx, hb, hr, hlk, hml, hown, hnm, hts, hK, hR, hS, hl, hbs⟩ hs
  exact lv_goto hx hb hd ht (kk p e s m args below meth c H locs ls ⟨hx, hb, hr, hlk, hml, hown, hnm, hts, hK, hR, hS, hl, hbs⟩ hs)
theorem fs_ldc {g : GG} {S : Array Value → State → Prop} {Z : ZZ} {lv : LV} {st : List Value} {pc : Nat} {σ : Hs} {idx : Nat} {v : Int32} (hw : Cond.constant ML.1.cls idx v ∈ wsL_law) (hd : decode ML.2.1 pc = .ok (.ldc idx, 2)) (kk : Fs g S Z lv (.int v :: st) (pc + 2) σ) : Fs g S Z lv st pc σ := by
  intro p e s m args below meth c H locs ls ⟨hx, hb, hr, hlk, hml, hown, hnm, hts, hK, hR, hS, hl, hbs⟩ hs
  exact lv_ldc hx hb hown (hts _ (List.mem_cons_of_mem _ hw)) hd (kk p e s m args below meth c H locs ls ⟨hx, hb, hr, hlk, hml, hown, hnm, hts, hK, hR, hS, hl, hbs⟩ hs)
theorem fs_new {g : GG} {S : Array Value → State → Prop} {Z : ZZ} {lv : LV} {st : List Value} {pc : Nat} {σ : Hs} {ci idx N : Nat} {C : String} {T : u_T} {ty : Nat → FieldType} (fs : List Value) {φ : Nat → Hs → Prop} (hc : Kc ci C T N ty) (hfs : ∀ j, j < N → defaultValue (ty j) = vp_V fs j) (hw : Cond.classLink ML.1.cls idx C ∈ wsL_law ∧ Cond.instantiable C N ∈ wsL_law ∧ Cond.initialized C ∈ wsL_law) (hd : decode ML.2.1 pc = .ok (.new idx, 3)) (hz : Z.2.2.1 + 1 ≤ room_1.cells ∧ Z.2.2.2 + N ≤ room_1.slots) {Z' : ZZ} (hZ' : (Z.1, Z.2.1, Z.2.2.1 + 1, Z.2.2.2 + N) = Z') (hW : NW σ ci fs φ) (kk : ∀ q σ', φ q σ' → Fs g S Z' lv (.ref q :: st) (pc + 3) σ') : Fs g S Z lv st pc σ := by
  subst hZ'
  intro p e s m args below meth c H locs ls ⟨hx, hb, hr, hlk, hml, hown, hnm, hts, hK, hR, hS, hl, hbs⟩ hs
  exact va_new hx hb hts (fun w h => List.mem_cons_of_mem _ (hc.2.1 w h)) ty hc.2.2.1 hown (hts _ (List.mem_cons_of_mem _ hw.1)) (hts _ (List.mem_cons_of_mem _ hw.2.1)) (hts _ (List.mem_cons_of_mem _ hw.2.2)) hK.1 hR.1 hR.2 hS (fun q h => Nat.le_trans hbs h) hc.1 hfs hz.1 hz.2 hd (fun q H1 hP hD hS1 => kk q _ (hW q (Hr.push hP hD).1) p e s m args below meth c H1 locs ls ⟨hx, hb, hr, hlk, hml, hown, hnm, hts, hK, (Hr.push hP hD).2, hS1, hl, hbs⟩ hs)
theorem fs_newI {g : GG} {S : Array Value → State → Prop} {Z : ZZ} {lv : LV} {st : List Value} {pc : Nat} {σ : Hs} {n : Int32} {φ : Nat → Hs → Prop} (t : Nat) (atype : ArrayType) (ht : (t = 0 ∧ atype = .int) ∨ (t = 3 ∧ atype = .long)) (hw : Cond.arrayClass (newarray.typeOf atype) ∈ wsL_law) (hd : decode ML.2.1 pc = .ok (.newarray atype, 2)) (hn : ¬ n < 0) (hsz : n.toNatClampNeg ≤ 60000000) (hz : Z.2.2.1 + 1 ≤ room_1.cells ∧ Z.2.2.2 + n.toNatClampNeg ≤ room_1.slots) {Z' : ZZ} (hZ' : (Z.1, Z.2.1, Z.2.2.1 + 1, Z.2.2.2 + n.toNatClampNeg) = Z') (hW : NA g σ t n ndef φ) (kk : ∀ q σ', φ q σ' → Fs g S Z' lv (.ref q :: st) (pc + 2) σ') : Fs g S Z lv (.int n :: st) pc σ := by
  subst hZ'
  intro p e s m args below meth c H locs ls ⟨hx, hb, hr, hlk, hml, hown, hnm, hts, hK, hR, hS, hl, hbs⟩ hs
  have key : ∀ (ty : FieldType) (a0 : vp_A), newarray.typeOf atype = ty → (∀ cA : ClassId, vp_cell cA a0 = arrV cA n.toNatClampNeg (fun _ => defaultValue ty)) → n.toNatClampNeg * componentBytes ty ≤ 536870912 → a0 = (n.toNatClampNeg, ndef t) → (∀ K, (TT K)[t]? = some (K t, ty)) → (∀ cA : ClassId, va_RA s cA ty → va_RA s (g.2.2.1 t) ty → cA = g.2.2.1 t) → W p g.1 e (room_1) s m args below meth c H locs Z.2.2.1 Z.2.2.2 (lw_Z below args s) (F0 m pc ls (.int n :: st)) := by
    intro ty a0 h1 h2 h3 h4 h5 h6
    refine va_newa hx hb (hts _ (List.mem_cons_of_mem _ hw)) h1 hK.1 hR.1 hR.2 hS (fun q h => Nat.le_trans hbs h) h2 hn rfl h3 hz.1 hz.2 hd (fun q cA H1 hK1 hP hD hS1 => ?_)
    have e1 : cA = g.2.2.1 t := h6 cA (hK1.2 (TT g.2.2.1).length (cA, ty) (by simp)).2 (hK.1.2 t _ (h5 _)).2
    subst e1
    subst h4
    exact kk q _ (hW q (Hr.push hP hD).1) p e s m args below meth c H1 locs ls ⟨hx, hb, hr, hlk, hml, hown, hnm, hts, hK, (Hr.push hP hD).2, hS1, hl, hbs⟩ hs
  rcases ht with ⟨rfl, rfl⟩ | ⟨rfl, rfl⟩
  · exact key .int (n.toNatClampNeg, .inl (fun _ => 0)) rfl (fun cA => rfl) (by show _ * 4 ≤ _; omega) rfl (fun K => rfl) (fun cA h1 h2 => Option.some.inj (Eq.trans (Eq.symm h1) h2))
  · exact key .long (n.toNatClampNeg, .inr (.inl (fun _ => 0))) rfl (fun cA => rfl) (by show _ * 8 ≤ _; omega) rfl (fun K => rfl) (fun cA h1 h2 => Option.some.inj (Eq.trans (Eq.symm h1) h2))
theorem fs_iald {g : GG} {S : Array Value → State → Prop} {Z : ZZ} {lv : LV} {st : List Value} {pc : Nat} {σ : Hs} {a : Nat} {i : Int32} {φ : Int32 → Prop} (hd : decode ML.2.1 pc = .ok (.iaload, 1)) (hW : AI g σ a 0 i φ) (kk : ∀ x, φ x → Fs g S Z lv (.int x :: st) (pc + 1) σ) : Fs g S Z lv (.int i :: .ref a :: st) pc σ := by
  intro p e s m args below meth c H locs ls ⟨hx, hb, hr, hlk, hml, hown, hnm, hts, hK, hR, hS, hl, hbs⟩ hs
  obtain ⟨n, f, he, hi, h⟩ := hW
  obtain ⟨q0, hq⟩ := hR.at he
  exact va_iald hx hb hK.1 hR.1 q0 0 hq rfl hi hd (kk _ h p e s m args below meth c H locs ls ⟨hx, hb, hr, hlk, hml, hown, hnm, hts, hK, hR, hS, hl, hbs⟩ hs)
theorem fs_iast {g : GG} {S : Array Value → State → Prop} {Z : ZZ} {lv : LV} {st : List Value} {pc : Nat} {σ : Hs} {a : Nat} {i x : Int32} {φ : Hs → Prop} (hd : decode ML.2.1 pc = .ok (.iastore, 1)) (hW : SI g σ a 0 i x φ) (kk : ∀ σ', φ σ' → Fs g S Z lv st (pc + 1) σ') : Fs g S Z lv (.int x :: .int i :: .ref a :: st) pc σ := by
  intro p e s m args below meth c H locs ls ⟨hx, hb, hr, hlk, hml, hown, hnm, hts, hK, hR, hS, hl, hbs⟩ hs
  obtain ⟨n, f, he, hi, h⟩ := hW
  obtain ⟨q0, hq⟩ := hR.at he
  exact va_iast hx hb hK.1 hR.1 hR.2 hS q0 0 hq rfl hi hd (fun H1 locs1 hP hD hS1 => kk _ h p e s m args below meth c H1 locs1 ls ⟨hx, hb, hr, hlk, hml, hown, hnm, hts, hK, hR.up he hq hP hD, hS1, hl, hbs⟩ hs)
theorem fs_back {g : GG} {S : Array Value → State → Prop} {Z : ZZ} {lv : LV} {st st0 : List Value} {pc mc ms : Nat} {P : Option Value → Hs → Prop} {p : Program} {e : Env} {s : State} {m : MethodId} {args a : Array Value} {below : List Frame} {meth : Method} {c : Code} {H : Heap} {locs : List Loc} {ls : Array Slot} {σ : Hs}
    (h : Cx g ML p s m args meth c H locs σ ls lv) (hs : S args s)
    (hrun : va_Run p g.1 e room_1 s m args below meth c H locs Z.2.2.1 Z.2.2.2 mc ms (F0 m pc ls st0) st (Qg g P a) (gA g))
    (kk : ∀ v σ', P v σ' → Fs g S (Z.1, Z.2.1, Z.2.2.1 + mc, Z.2.2.2 + ms) lv (v.toList ++ st) (pc + 3) σ') :
    W p g.1 e room_1 s m args below meth c H locs Z.2.2.1 Z.2.2.2 (lw_Z below args s) (F0 m pc ls st0) := by
  obtain ⟨hx, hb, hr, hlk, hml, hown, hnm, hts, hK, hR, hS, hl, hbs⟩ := h
  intro T hT X
  obtain ⟨v, st₀, t, T', L, e1, X', hL, e2, e3, ⟨⟨v', σ', hv', hp, hR'⟩, hF⟩, go⟩ := hrun T hT X
  cases hv'
  have hS' : va_S (gA g) s.heap T'.heap (locs ++ L) := by
    refine ⟨?_, fun q h1 h2 => ?_, fun q hq => ?_⟩
    · have h3 := hF.1
      rw [e1] at h3
      rw [e2]
      exact Nat.le_trans hS.1 h3
    · rw [e2, hF.2 q (by rw [e1]; exact Nat.lt_of_lt_of_le h1 hS.1) h2, e1]
      exact hS.2.1 q h1 h2
    · rcases List.mem_append.mp hq with h1 | h1
      · exact hS.2.2 q h1
      · exact hL q h1
  obtain ⟨t1, s1, Q1⟩ := kk v σ' hp p e s m args below meth c T'.heap (locs ++ L) ls ⟨hx, hb, hr, hlk, hml, hown, hnm, hts, hK, by rw [e2]; exact hR', hS', hl, hbs⟩ hs T' rfl X'
  exact ⟨t1, go _ s1, Q1⟩
theorem fs_callV {g : GG} {S : Array Value → State → Prop} {Z : ZZ} {lv : LV} {st : List Value} {pc : Nat} {σ : Hs} {M' : MI} {idx n mc ms : Nat} {b ci N : Nat} {T : u_T} {ty : Nat → FieldType} {As : List Value} {P : Option Value → Hs → Prop} (hw : Wv M') (hlk' : Cond.methodLink ML.1.cls idx M'.1 ∈ wsL_law) (hok : okM M' n = true) (hdp : M'.2.2.2.2 + 1 ≤ 10) (hn : As.length = n) (hst : (st.map fun v => v.category).sum ≤ 8) (hd : decode ML.2.1 pc = .ok (.invokevirtual idx, 3)) (hz : Z.2.2.1 + mc ≤ room_1.cells ∧ Z.2.2.2 + ms ≤ room_1.slots) (hc : Kc ci M'.1.cls T N ty) (hrc : Rc σ b ci) (hW : Do g M' mc ms (.ref b :: As) σ P) (kk : ∀ v σ', P v σ' → Fs g S (Z.1, Z.2.1, Z.2.2.1 + mc, Z.2.2.2 + ms) lv (v.toList ++ st) (pc + 3) σ') : Fs g S Z lv (As.reverse ++ .ref b :: st) pc σ := by
  intro p e s m args below meth c H locs ls ⟨hx, hb, hr, hlk, hml, hown, hnm, hts, hK, hR, hS, hl, hbs⟩ hs
  have hcode := hw.2.2.2
  obtain ⟨vs, hv⟩ := hrc
  obtain ⟨q0, hq⟩ := hR.at hv
  refine fs_back ⟨hx, hb, hr, hlk, hml, hown, hnm, hts, hK, hR, hS, hl, hbs⟩ hs (va_runV (As := As) (rest := st) ⟨hx, hb, hml, hown, hts⟩ hW ⟨callB_of n hts (good_M hcode) rfl rfl rfl (hts _ (List.mem_cons_of_mem _ hw.2.2.1)) (hts _ (List.mem_cons_of_mem _ hlk')) (okM_s hok).1 (okRL hok hdp), (hts _ (List.mem_cons_of_mem _ hw.1)), (hts _ (List.mem_cons_of_mem _ hw.2.1))⟩ ⟨Pg.blind g _ σ, va_recv hK.1 hR.1 (ci := ci) (q0 := q0) hc.1 hq, (fun U hU hW1 => ⟨rfl, by rw [hU]; exact Nat.le_trans hbs hS.1, by rw [hU]; exact hR, hK.moved hW1⟩)⟩ rfl hn hl.1 rfl (lv_room hst) hd hz) kk
theorem fs_callS {g : GG} {S : Array Value → State → Prop} {Z : ZZ} {lv : LV} {st : List Value} {pc : Nat} {σ : Hs} {M' : MI} {idx n mc ms : Nat} {As : List Value} {P : Option Value → Hs → Prop} (hw : Ws M') (hlk' : Cond.methodLink ML.1.cls idx M'.1 ∈ wsL_law) (hok : okM M' n = true) (hdp : M'.2.2.2.2 + 1 ≤ 10) (hn : As.length = n) (hst : (st.map fun v => v.category).sum ≤ 8) (hd : decode ML.2.1 pc = .ok (.invokestatic idx, 3)) (hz : Z.2.2.1 + mc ≤ room_1.cells ∧ Z.2.2.2 + ms ≤ room_1.slots) (hW : Do g M' mc ms (As) σ P) (kk : ∀ v σ', P v σ' → Fs g S (Z.1, Z.2.1, Z.2.2.1 + mc, Z.2.2.2 + ms) lv (v.toList ++ st) (pc + 3) σ') : Fs g S Z lv (As.reverse ++ st) pc σ := by
  intro p e s m args below meth c H locs ls ⟨hx, hb, hr, hlk, hml, hown, hnm, hts, hK, hR, hS, hl, hbs⟩ hs
  have hcode := hw.2.2
  refine fs_back ⟨hx, hb, hr, hlk, hml, hown, hnm, hts, hK, hR, hS, hl, hbs⟩ hs (va_runS (As := As) (rest := st) ⟨hx, hb, hml, hown, hts⟩ hW ⟨callB_of n hts (good_M hcode) rfl rfl rfl (hts _ (List.mem_cons_of_mem _ hw.2.1)) (hts _ (List.mem_cons_of_mem _ hlk')) (okM_s hok).1 (okRL hok hdp), (hts _ (List.mem_cons_of_mem _ hw.1))⟩ ⟨Pg.blind g _ σ, (fun U hU hW1 => ⟨rfl, by rw [hU]; exact Nat.le_trans hbs hS.1, by rw [hU]; exact hR, hK.moved hW1⟩)⟩ rfl hn hl.1 rfl (lv_room hst) hd hz) kk
theorem fs_callI {g : GG} {S : Array Value → State → Prop} {Z : ZZ} {lv : LV} {st : List Value} {pc : Nat} {σ : Hs} {M' : MI} {idx n mc ms : Nat} {b : Nat} {As : List Value} {P : Option Value → Hs → Prop} (hw : Wi M') (hlk' : Cond.methodLink ML.1.cls idx M'.1 ∈ wsL_law) (hok : okM M' n = true) (hdp : M'.2.2.2.2 + 1 ≤ 10) (hn : As.length = n) (hst : (st.map fun v => v.category).sum ≤ 8) (hd : decode ML.2.1 pc = .ok (.invokespecial idx, 3)) (hz : Z.2.2.1 + mc ≤ room_1.cells ∧ Z.2.2.2 + ms ≤ room_1.slots) (hr1 : M'.2.2.2.1 = none) (hi1 : M'.1.name = "<init>") (hW : Do g M' mc ms (.ref b :: As) σ P) (kk : ∀ v σ', P v σ' → Fs g S (Z.1, Z.2.1, Z.2.2.1 + mc, Z.2.2.2 + ms) lv (v.toList ++ st) (pc + 3) σ') : Fs g S Z lv (As.reverse ++ .ref b :: st) pc σ := by
  intro p e s m args below meth c H locs ls ⟨hx, hb, hr, hlk, hml, hown, hnm, hts, hK, hR, hS, hl, hbs⟩ hs
  have hcode := hw.2.2
  rw [hr1] at hcode
  have hW' : Met g.1 M'.1 (Cond.code M'.1 M'.2.1 M'.2.2.1 none :: wsL_law) (rmM M' mc ms) (va_Pc (.ref b :: As) (Pg g σ)) (Qg g P) mc ms (gA g) := by
    have h0 := hW
    unfold Do wsM at h0
    rw [hr1] at h0
    exact h0
  have hgd : GoodIn (wsM ML) (Cond.code M'.1 M'.2.1 M'.2.2.1 none :: wsL_law) := by
    have h0 := good_M (M := ML) hw.2.2
    unfold wsM at h0 ⊢
    rw [hr1] at h0
    exact h0
  refine fs_back ⟨hx, hb, hr, hlk, hml, hown, hnm, hts, hK, hR, hS, hl, hbs⟩ hs (va_runI (As := As) (rest := st) ⟨hx, hb, hml, hown, hts⟩ hW' ⟨callB_of n hts hgd rfl rfl rfl (hts _ (List.mem_cons_of_mem _ hw.2.1)) (hts _ (List.mem_cons_of_mem _ hlk')) (okM_s hok).1 (okRL hok hdp), hi1, (hts _ (List.mem_cons_of_mem _ hw.1))⟩ ⟨Pg.blind g _ σ, (fun U hU hW1 => ⟨rfl, by rw [hU]; exact Nat.le_trans hbs hS.1, by rw [hU]; exact hR, hK.moved hW1⟩)⟩ rfl hn hl.1 rfl (lv_room hst) hd hz) kk
theorem fs_callV_I {g : GG} {S : Array Value → State → Prop} {Z : ZZ} {lv : LV} {st : List Value} {pc : Nat} {σ : Hs} {M' : MI} {idx n : Nat} {b ci N : Nat} {T : u_T} {ty : Nat → FieldType} {As : List Value} {φ : Int32 → Hs → Prop} (hw : Wv M') (hlk' : Cond.methodLink ML.1.cls idx M'.1 ∈ wsL_law) (hok : okM M' n = true) (hdp : M'.2.2.2.2 + 1 ≤ 10) (hn : As.length = n) (hst : (st.map fun v => v.category).sum ≤ 8) (hd : decode ML.2.1 pc = .ok (.invokevirtual idx, 3)) (hz : Z.2.2.1 ≤ room_1.cells ∧ Z.2.2.2 ≤ room_1.slots) (hc : Kc ci M'.1.cls T N ty) (hrc : Rc σ b ci) (hW : Do g M' 0 0 (.ref b :: As) σ (kI φ)) (kk : ∀ r σ', φ r σ' → Fs g S Z lv (.int r :: st) (pc + 3) σ') : Fs g S Z lv (As.reverse ++ .ref b :: st) pc σ :=
  fs_callV hw hlk' hok hdp hn hst hd hz hc hrc hW (by rintro _ σ' ⟨r, rfl, h⟩; exact kk r σ' h)
theorem fs_callV_Ia {g : GG} {S : Array Value → State → Prop} {Z : ZZ} {lv : LV} {st : List Value} {pc : Nat} {σ : Hs} {M' : MI} {idx n mc ms : Nat} {b ci N : Nat} {T : u_T} {ty : Nat → FieldType} {As : List Value} {φ : Int32 → Hs → Prop} {Z' : ZZ} (hw : Wv M') (hlk' : Cond.methodLink ML.1.cls idx M'.1 ∈ wsL_law) (hok : okM M' n = true) (hdp : M'.2.2.2.2 + 1 ≤ 10) (hn : As.length = n) (hst : (st.map fun v => v.category).sum ≤ 8) (hd : decode ML.2.1 pc = .ok (.invokevirtual idx, 3)) (hz : Z.2.2.1 + mc ≤ room_1.cells ∧ Z.2.2.2 + ms ≤ room_1.slots) (hZ' : (Z.1, Z.2.1, Z.2.2.1 + mc, Z.2.2.2 + ms) = Z') (hc : Kc ci M'.1.cls T N ty) (hrc : Rc σ b ci) (hW : Do g M' mc ms (.ref b :: As) σ (kI φ)) (kk : ∀ r σ', φ r σ' → Fs g S Z' lv (.int r :: st) (pc + 3) σ') : Fs g S Z lv (As.reverse ++ .ref b :: st) pc σ := by
  subst hZ'
  exact fs_callV hw hlk' hok hdp hn hst hd hz hc hrc hW (by rintro _ σ' ⟨r, rfl, h⟩; exact kk r σ' h)
theorem fs_callS_I {g : GG} {S : Array Value → State → Prop} {Z : ZZ} {lv : LV} {st : List Value} {pc : Nat} {σ : Hs} {M' : MI} {idx n : Nat} {As : List Value} {φ : Int32 → Hs → Prop} (hw : Ws M') (hlk' : Cond.methodLink ML.1.cls idx M'.1 ∈ wsL_law) (hok : okM M' n = true) (hdp : M'.2.2.2.2 + 1 ≤ 10) (hn : As.length = n) (hst : (st.map fun v => v.category).sum ≤ 8) (hd : decode ML.2.1 pc = .ok (.invokestatic idx, 3)) (hz : Z.2.2.1 ≤ room_1.cells ∧ Z.2.2.2 ≤ room_1.slots) (hW : Do g M' 0 0 (As) σ (kI φ)) (kk : ∀ r σ', φ r σ' → Fs g S Z lv (.int r :: st) (pc + 3) σ') : Fs g S Z lv (As.reverse ++ st) pc σ :=
  fs_callS hw hlk' hok hdp hn hst hd hz hW (by rintro _ σ' ⟨r, rfl, h⟩; exact kk r σ' h)
theorem fs_callS_Ia {g : GG} {S : Array Value → State → Prop} {Z : ZZ} {lv : LV} {st : List Value} {pc : Nat} {σ : Hs} {M' : MI} {idx n mc ms : Nat} {As : List Value} {φ : Int32 → Hs → Prop} {Z' : ZZ} (hw : Ws M') (hlk' : Cond.methodLink ML.1.cls idx M'.1 ∈ wsL_law) (hok : okM M' n = true) (hdp : M'.2.2.2.2 + 1 ≤ 10) (hn : As.length = n) (hst : (st.map fun v => v.category).sum ≤ 8) (hd : decode ML.2.1 pc = .ok (.invokestatic idx, 3)) (hz : Z.2.2.1 + mc ≤ room_1.cells ∧ Z.2.2.2 + ms ≤ room_1.slots) (hZ' : (Z.1, Z.2.1, Z.2.2.1 + mc, Z.2.2.2 + ms) = Z') (hW : Do g M' mc ms (As) σ (kI φ)) (kk : ∀ r σ', φ r σ' → Fs g S Z' lv (.int r :: st) (pc + 3) σ') : Fs g S Z lv (As.reverse ++ st) pc σ := by
  subst hZ'
  exact fs_callS hw hlk' hok hdp hn hst hd hz hW (by rintro _ σ' ⟨r, rfl, h⟩; exact kk r σ' h)
theorem fs_callI_Va {g : GG} {S : Array Value → State → Prop} {Z : ZZ} {lv : LV} {st : List Value} {pc : Nat} {σ : Hs} {M' : MI} {idx n mc ms : Nat} {b : Nat} {As : List Value} {φ : Hs → Prop} {Z' : ZZ} (hw : Wi M') (hlk' : Cond.methodLink ML.1.cls idx M'.1 ∈ wsL_law) (hok : okM M' n = true) (hdp : M'.2.2.2.2 + 1 ≤ 10) (hn : As.length = n) (hst : (st.map fun v => v.category).sum ≤ 8) (hd : decode ML.2.1 pc = .ok (.invokespecial idx, 3)) (hz : Z.2.2.1 + mc ≤ room_1.cells ∧ Z.2.2.2 + ms ≤ room_1.slots) (hZ' : (Z.1, Z.2.1, Z.2.2.1 + mc, Z.2.2.2 + ms) = Z') (hr1 : M'.2.2.2.1 = none) (hi1 : M'.1.name = "<init>") (hW : Do g M' mc ms (.ref b :: As) σ (kV φ)) (kk : ∀ σ', φ σ' → Fs g S Z' lv st (pc + 3) σ') : Fs g S Z lv (As.reverse ++ .ref b :: st) pc σ := by
  subst hZ'
  exact fs_callI hw hlk' hok hdp hn hst hd hz hr1 hi1 hW (by rintro _ σ' ⟨rfl, h⟩; exact kk σ' h)
/-- what cell() answers -/
def cel (L : Nat) (xs : Nat → Int32) (k : Int32) : Int32 := (if k < Int32.ofNat L then xs k.toNatClampNeg else 7919 * k + 13) &&& 2147483647
section SCR
variable {g : GG} {b L : Nat} {xs : Nat → Int32} {Z : ZZ} {lv : LV} {st : List Value} {pc : Nat} {σ : Hs}
theorem fs_slen (hd : decode code pc = .ok (.arraylength, 1)) (kk : Fs g (SL b L xs g) Z lv (.int (Int32.ofNat L) :: st) (pc + 1) σ) : Fs g (SL b L xs g) Z lv (.ref b :: st) pc σ := by
  intro p e s m args below meth c H locs ls ⟨hx, hb, hr, hlk, hml, hown, hnm, hts, hK, hR, hS, hl, hbs⟩ hs
  exact va_slen hx hb hs.2.1 hs.2.2.1 (fun z => absurd (Nat.le_trans hs.2.2.2 z) (Nat.not_le.mpr hs.2.2.1)) hS hd (kk p e s m args below meth c H locs ls ⟨hx, hb, hr, hlk, hml, hown, hnm, hts, hK, hR, hS, hl, hbs⟩ hs)
theorem fs_sld {i : Int32} (hin : vp_in i L) (hd : decode code pc = .ok (.iaload, 1)) (kk : Fs g (SL b L xs g) Z lv (.int (xs i.toNatClampNeg) :: st) (pc + 1) σ) : Fs g (SL b L xs g) Z lv (.int i :: .ref b :: st) pc σ := by
  intro p e s m args below meth c H locs ls ⟨hx, hb, hr, hlk, hml, hown, hnm, hts, hK, hR, hS, hl, hbs⟩ hs
  exact va_sld hx hb hs.2.1 hs.2.2.1 (fun z => absurd (Nat.le_trans hs.2.2.2 z) (Nat.not_le.mpr hs.2.2.1)) hS hin hd (kk p e s m args below meth c H locs ls ⟨hx, hb, hr, hlk, hml, hown, hnm, hts, hK, hR, hS, hl, hbs⟩ hs)
theorem fs_end (hd : decode code pc = .ok (.ireturn, 1)) (hz : Z.2.2.1 ≤ 600000 ∧ Z.2.2.2 ≤ 7302250) : Fs g (SL b L xs g) Z lv [.int 1] pc σ := by
  intro p e s m args below meth c H locs ls ⟨hx, hb, hr, hlk, hml, hown, hnm, hts, hK, hR, hS, hl, hbs⟩ ⟨hs1, hs2, hs3, hs4⟩
  subst hs1
  exact W.widen hz.1 hz.2 (va_forget (fun q hq => Nat.le_trans hs4 (hS.2.2 q hq)) (lw_ret hx hb hr hlk hd))
end SCR
