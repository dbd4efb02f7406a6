/-! The law: its calculus. The rows of part 03 once more, over the law's own room and end, and a script that stands still. -/
def R_law : String := "KeptOrdersLaw"
def lw_P (b : Addr) (xs : List Int32) (args : Array Value) (s : State) : Prop := args = #[.ref b] ∧ s.IntsAt b xs ∧ xs.length ≤ 2560 ∧ (Jvm.Cond.and given_1 narrow_1).before args s = true
def lw_Q (_ : Array Value) (s : State) (o : Outcome) (t : State) : Prop := o = .returned (some (.int 1)) ∧ Framed s o t [] 600000 7302249
def lw_Z (below : List Frame) (a : Array Value) (s : State) : State → Prop := fun t => ∃ o, t.status = .running ∧ Ended t below o ∧ lw_Q a s o t
/-- the law's own end, with 1 on the stack, nothing written that was there before, its room as the claim has it -/
theorem lw_ret {p : Program} {l : Launch} {e : Env} {s : State} {m : MethodId} {below : List Frame} {meth : Method} {c : Code} {b : Nat} (hx : p.tables.exec = Jvm.exec) (hb : c.code = code) (hr : meth.sig.returnType = ret) (hlocks : meth.locks = false) {pc : Nat} {H : Heap} {ls : Array Slot} (hdg : decode code pc = .ok (.ireturn, 1)) : W p l e room_1 s m #[Value.ref b] below meth c H [] 600000 7302249 (lw_Z below #[Value.ref b] s) (F0 m pc ls [.int 1]) := by
  intro T hT X
  obtain ⟨fs, hret, hrun, hended, hW, hframe⟩ := X.leave (v := some (.int 1)) (hlocks := hlocks) (fun h => by rw [hr] at h; cases h)
  have hmeth' : T.vm.method? m = some meth := X.method'
  refine ⟨T.setFrames fs, ?_, .returned (some (.int 1)), hrun, hended, rfl, ⟨_, rfl⟩, hW, hframe⟩
  jvm_step X.here [X.here.top, hx, hb, hdg, hmeth', hr, ret, narrow_b1]
  (try refine ⟨rfl, ?_⟩); (try refine ⟨rfl, ?_⟩)
  first | (intro acts; rw [hret _ acts rfl rfl rfl]) | rw [hret _ _ rfl rfl rfl]
  exact Steps.refl _
abbrev ML : MI := (x, code, 4, ret, 11)
/-- the script of L ints xs lies at b, ahead of all that is made -/
def SL (b L : Nat) (xs : Nat → Int32) (g : GG) (args : Array Value) (s : State) : Prop := args = #[Value.ref b] ∧ va_X b L xs s s.heap ∧ b < s.heap.size ∧ s.heap.size ≤ g.2.2.2
def Fs (g : GG) (S : Array Value → State → Prop) (Z : ZZ) (lv : LV) (st : List Value) (pc : Nat) (σ : Hs) : Prop :=
  ∀ (p : Program) (e : Env) (s : State) (m : MethodId) (args : Array Value) (below : List Frame) (meth : Method) (c : Code) (H : Heap) (locs : List Loc) (ls : Array Slot), Cx g ML p s m args meth c H locs σ ls lv → S args s → W p g.1 e room_1 s m args below meth c H locs Z.2.2.1 Z.2.2.2 (lw_Z below args s) (F0 m pc ls st)
theorem okRL {M' : MI} {n mc ms : Nat} (h : okM M' n = true) (hd : M'.2.2.2.2 + 1 ≤ 11) : (rmM M' mc ms).frames + 1 ≤ room_1.frames ∧ 8 + (M'.2.2.1 + 11) + (rmM M' mc ms).locals ≤ room_1.locals := by
  have h1 := (okM_s h).2
  refine ⟨hd, ?_⟩
  show 8 + (M'.2.2.1 + 11) + 39 * M'.2.2.2.2 ≤ 432
  omega
theorem fs_sub {g : GG} {S : Array Value → State → Prop} {Z : ZZ} {lv lv' : LV} {st : List Value} {pc : Nat} {σ : Hs} (ks : List Nat) (hl : lv_pick lv ks = lv') (kk : Fs g S Z lv' st pc σ) : Fs g S Z lv st pc σ := by
  intro p e s m args below meth c H locs ls ⟨hx, hb, hr, hlk, hml, hown, hnm, hts, hK, hR, hS, hl1, hbs⟩ hs
  exact kk p e s m args below meth c H locs ls ⟨hx, hb, hr, hlk, hml, hown, hnm, hts, hK, hR, hS, lv_sub hl1 ks hl, hbs⟩ hs
theorem fs_iconst {g : GG} {S : Array Value → State → Prop} {Z : ZZ} {lv : LV} {st : List Value} {pc : Nat} {σ : Hs} {n : Int} (v : Int32) (hv : Int32.ofInt n = v) (hd : decode ML.2.1 pc = .ok (.iconst n, 1)) (kk : Fs g S Z lv (.int v :: st) (pc + 1) σ) : Fs g S Z lv (st) pc σ := by
  intro p e s m args below meth c H locs ls ⟨hx, hb, hr, hlk, hml, hown, hnm, hts, hK, hR, hS, hl, hbs⟩ hs
  exact lv_iconst hx hb hd hv (kk p e s m args below meth c H locs ls ⟨hx, hb, hr, hlk, hml, hown, hnm, hts, hK, hR, hS, hl, hbs⟩ hs)
theorem fs_bipush {g : GG} {S : Array Value → State → Prop} {Z : ZZ} {lv : LV} {st : List Value} {pc : Nat} {σ : Hs} {n : Int} (v : Int32) (hv : (Int8.ofInt n).toInt32 = v) (hd : decode ML.2.1 pc = .ok (.bipush n, 2)) (kk : Fs g S Z lv (.int v :: st) (pc + 2) σ) : Fs g S Z lv (st) pc σ := by
  intro p e s m args below meth c H locs ls ⟨hx, hb, hr, hlk, hml, hown, hnm, hts, hK, hR, hS, hl, hbs⟩ hs
  exact lv_bipush hx hb hd hv (kk p e s m args below meth c H locs ls ⟨hx, hb, hr, hlk, hml, hown, hnm, hts, hK, hR, hS, hl, hbs⟩ hs)
theorem fs_iload_n {g : GG} {S : Array Value → State → Prop} {Z : ZZ} {lv : LV} {st : List Value} {pc : Nat} {σ : Hs} {j : Fin 4} {i : Nat} {x : Int32} (k : Nat) (hk : lv[k]? = some (i, .int x)) (hi : (j : Nat) = i) (hd : decode ML.2.1 pc = .ok (.iload_n j, 1)) (kk : Fs g S Z lv (.int x :: st) (pc + 1) σ) : Fs g S Z lv (st) pc σ := by
  intro p e s m args below meth c H locs ls ⟨hx, hb, hr, hlk, hml, hown, hnm, hts, hK, hR, hS, hl, hbs⟩ hs
  exact lv_iload_n hx hb hd hi (lv_at hl k hk) (kk p e s m args below meth c H locs ls ⟨hx, hb, hr, hlk, hml, hown, hnm, hts, hK, hR, hS, hl, hbs⟩ hs)
theorem fs_aload_n {g : GG} {S : Array Value → State → Prop} {Z : ZZ} {lv : LV} {st : List Value} {pc : Nat} {σ : Hs} {j : Fin 4} {i : Nat} {x : Nat} (k : Nat) (hk : lv[k]? = some (i, .ref x)) (hi : (j : Nat) = i) (hd : decode ML.2.1 pc = .ok (.aload_n j, 1)) (kk : Fs g S Z lv (.ref x :: st) (pc + 1) σ) : Fs g S Z lv (st) pc σ := by
  intro p e s m args below meth c H locs ls ⟨hx, hb, hr, hlk, hml, hown, hnm, hts, hK, hR, hS, hl, hbs⟩ hs
  exact lv_aload_n hx hb hd hi (lv_at hl k hk) (kk p e s m args below meth c H locs ls ⟨hx, hb, hr, hlk, hml, hown, hnm, hts, hK, hR, hS, hl, hbs⟩ hs)
theorem fs_istore_n {g : GG} {S : Array Value → State → Prop} {Z : ZZ} {lv : LV} {st : List Value} {pc : Nat} {σ : Hs} {lv' : LV} {i : Nat} {x : Int32} {j : Fin 4} (hi : (j : Nat) = i) (hn : i < ML.2.2.1) (hl' : (i, Value.int x) :: lv.filter (fun q => !(q.1 == i) && !(q.1 + 1 == i && q.2.category == 2)) = lv') (hd : decode ML.2.1 pc = .ok (.istore_n j, 1)) (kk : Fs g S Z lv' st (pc + 1) σ) : Fs g S Z lv (.int x :: st) pc σ := by
  intro p e s m args below meth c H locs ls ⟨hx, hb, hr, hlk, hml, hown, hnm, hts, hK, hR, hS, hl, hbs⟩ hs
  exact lv_istore_n hx hb hd hi hl hn hl' (fun ls' h' => kk p e s m args below meth c H locs ls' ⟨hx, hb, hr, hlk, hml, hown, hnm, hts, hK, hR, hS, h', hbs⟩ hs)
theorem fs_astore_n {g : GG} {S : Array Value → State → Prop} {Z : ZZ} {lv : LV} {st : List Value} {pc : Nat} {σ : Hs} {lv' : LV} {i : Nat} {x : Nat} {j : Fin 4} (hi : (j : Nat) = i) (hn : i < ML.2.2.1) (hl' : (i, Value.ref x) :: lv.filter (fun q => !(q.1 == i) && !(q.1 + 1 == i && q.2.category == 2)) = lv') (hd : decode ML.2.1 pc = .ok (.astore_n j, 1)) (kk : Fs g S Z lv' st (pc + 1) σ) : Fs g S Z lv (.ref x :: st) pc σ := by
  intro p e s m args below meth c H locs ls ⟨hx, hb, hr, hlk, hml, hown, hnm, hts, hK, hR, hS, hl, hbs⟩ hs
  exact lv_astore_n hx hb hd hi hl hn hl' (fun ls' h' => kk p e s m args below meth c H locs ls' ⟨hx, hb, hr, hlk, hml, hown, hnm, hts, hK, hR, hS, h', hbs⟩ hs)
theorem fs_iinc {g : GG} {S : Array Value → State → Prop} {Z : ZZ} {lv : LV} {st : List Value} {pc : Nat} {σ : Hs} {lv' : LV} {i : Nat} {n : Int} {x : Int32} (v : Int32) (k : Nat) (hk : lv[k]? = some (i, .int x)) (hv : x + Int32.ofInt n = v) (hn : i < ML.2.2.1) (hl' : (i, Value.int v) :: lv.filter (fun q => !(q.1 == i) && !(q.1 + 1 == i && q.2.category == 2)) = lv') (hd : decode ML.2.1 pc = .ok (.iinc i n, 3)) (kk : Fs g S Z lv' st (pc + 3) σ) : Fs g S Z lv st pc σ := by
  intro p e s m args below meth c H locs ls ⟨hx, hb, hr, hlk, hml, hown, hnm, hts, hK, hR, hS, hl, hbs⟩ hs
  exact lv_iinc hx hb hd hl hk hv hn hl' (fun ls' h' => kk p e s m args below meth c H locs ls' ⟨hx, hb, hr, hlk, hml, hown, hnm, hts, hK, hR, hS, h', hbs⟩ hs)
theorem fs_iadd {g : GG} {S : Array Value → State → Prop} {Z : ZZ} {lv : LV} {st : List Value} {pc : Nat} {σ : Hs} {x y : Int32} (hd : decode ML.2.1 pc = .ok (.iadd, 1)) (kk : Fs g S Z lv (.int (x + y) :: st) (pc + 1) σ) : Fs g S Z lv (.int y :: .int x :: st) pc σ := by
  intro p e s m args below meth c H locs ls ⟨hx, hb, hr, hlk, hml, hown, hnm, hts, hK, hR, hS, hl, hbs⟩ hs
  exact lv_iadd hx hb hd (kk p e s m args below meth c H locs ls ⟨hx, hb, hr, hlk, hml, hown, hnm, hts, hK, hR, hS, hl, hbs⟩ hs)
theorem fs_isub {g : GG} {S : Array Value → State → Prop} {Z : ZZ} {lv : LV} {st : List Value} {pc : Nat} {σ : Hs} {x y : Int32} (hd : decode ML.2.1 pc = .ok (.isub, 1)) (kk : Fs g S Z lv (.int (x - y) :: st) (pc + 1) σ) : Fs g S Z lv (.int y :: .int x :: st) pc σ := by
  intro p e s m args below meth c H locs ls ⟨hx, hb, hr, hlk, hml, hown, hnm, hts, hK, hR, hS, hl, hbs⟩ hs
  exact lv_isub hx hb hd (kk p e s m args below meth c H locs ls ⟨hx, hb, hr, hlk, hml, hown, hnm, hts, hK, hR, hS, hl, hbs⟩ hs)
theorem fs_iand {g : GG} {S : Array Value → State → Prop} {Z : ZZ} {lv : LV} {st : List Value} {pc : Nat} {σ : Hs} {x y : Int32} (hd : decode ML.2.1 pc = .ok (.iand, 1)) (kk : Fs g S Z lv (.int (x &&& y) :: st) (pc + 1) σ) : Fs g S Z lv (.int y :: .int x :: st) pc σ := by
  intro p e s m args below meth c H locs ls ⟨hx, hb, hr, hlk, hml, hown, hnm, hts, hK, hR, hS, hl, hbs⟩ hs
  exact lv_iand hx hb hd (kk p e s m args below meth c H locs ls ⟨hx, hb, hr, hlk, hml, hown, hnm, hts, hK, hR, hS, hl, hbs⟩ hs)
theorem fs_land {g : GG} {S : Array Value → State → Prop} {Z : ZZ} {lv : LV} {st : List Value} {pc : Nat} {σ : Hs} {x y : Int64} (hd : decode ML.2.1 pc = .ok (.land, 1)) (kk : Fs g S Z lv (.long (x &&& y) :: st) (pc + 1) σ) : Fs g S Z lv (.long y :: .long x :: st) pc σ := by
  intro p e s m args below meth c H locs ls ⟨hx, hb, hr, hlk, hml, hown, hnm, hts, hK, hR, hS, hl, hbs⟩ hs
  exact lv_land hx hb hd (kk p e s m args below meth c H locs ls ⟨hx, hb, hr, hlk, hml, hown, hnm, hts, hK, hR, hS, hl, hbs⟩ hs)
theorem fs_lor {g : GG} {S : Array Value → State → Prop} {Z : ZZ} {lv : LV} {st : List Value} {pc : Nat} {σ : Hs} {x y : Int64} (hd : decode ML.2.1 pc = .ok (.lor, 1)) (kk : Fs g S Z lv (.long (x ||| y) :: st) (pc + 1) σ) : Fs g S Z lv (.long y :: .long x :: st) pc σ := by
  intro p e s m args below meth c H locs ls ⟨hx, hb, hr, hlk, hml, hown, hnm, hts, hK, hR, hS, hl, hbs⟩ hs
  exact lv_lor hx hb hd (kk p e s m args below meth c H locs ls ⟨hx, hb, hr, hlk, hml, hown, hnm, hts, hK, hR, hS, hl, hbs⟩ hs)
theorem fs_lshl {g : GG} {S : Array Value → State → Prop} {Z : ZZ} {lv : LV} {st : List Value} {pc : Nat} {σ : Hs} {x : Int64} {y : Int32} (hd : decode ML.2.1 pc = .ok (.lshl, 1)) (kk : Fs g S Z lv (.long (x <<< (y.toInt64 &&& 63)) :: st) (pc + 1) σ) : Fs g S Z lv (.int y :: .long x :: st) pc σ := by
  intro p e s m args below meth c H locs ls ⟨hx, hb, hr, hlk, hml, hown, hnm, hts, hK, hR, hS, hl, hbs⟩ hs
  exact lv_lshl hx hb hd rfl (kk p e s m args below meth c H locs ls ⟨hx, hb, hr, hlk, hml, hown, hnm, hts, hK, hR, hS, hl, hbs⟩ hs)
theorem fs_i2l {g : GG} {S : Array Value → State → Prop} {Z : ZZ} {lv : LV} {st : List Value} {pc : Nat} {σ : Hs} {x : Int32} (hd : decode ML.2.1 pc = .ok (.i2l, 1)) (kk : Fs g S Z lv (.long x.toInt64 :: st) (pc + 1) σ) : Fs g S Z lv (.int x :: st) pc σ := by
  intro p e s m args below meth c H locs ls ⟨hx, hb, hr, hlk, hml, hown, hnm, hts, hK, hR, hS, hl, hbs⟩ hs
  exact lv_i2l hx hb hd rfl (kk p e s m args below meth c H locs ls ⟨hx, hb, hr, hlk, hml, hown, hnm, hts, hK, hR, hS, hl, hbs⟩ hs)
theorem fs_lcmp {g : GG} {S : Array Value → State → Prop} {Z : ZZ} {lv : LV} {st : List Value} {pc : Nat} {σ : Hs} {x y : Int64} (hd : decode ML.2.1 pc = .ok (.lcmp, 1)) (kk : Fs g S Z lv (.int (lg_cmp x y) :: st) (pc + 1) σ) : Fs g S Z lv (.long y :: .long x :: st) pc σ := by
  intro p e s m args below meth c H locs ls ⟨hx, hb, hr, hlk, hml, hown, hnm, hts, hK, hR, hS, hl, hbs⟩ hs
  exact W.lcmp hx hb hd (kk p e s m args below meth c H locs ls ⟨hx, hb, hr, hlk, hml, hown, hnm, hts, hK, hR, hS, hl, hbs⟩ hs)
theorem fs_dup {g : GG} {S : Array Value → State → Prop} {Z : ZZ} {lv : LV} {st : List Value} {pc : Nat} {σ : Hs} {v : Value} (hv : v.category = 1) (hd : decode ML.2.1 pc = .ok (.dup, 1)) (kk : Fs g S Z lv (v :: v :: st) (pc + 1) σ) : Fs g S Z lv (v :: st) pc σ := by
  intro p e s m args below meth c H locs ls ⟨hx, hb, hr, hlk, hml, hown, hnm, hts, hK, hR, hS, hl, hbs⟩ hs
  exact lv_dup hx hb hd hv (kk p e s m args below meth c H locs ls ⟨hx, hb, hr, hlk, hml, hown, hnm, hts, hK, hR, hS, hl, hbs⟩ hs)
theorem fs_if_eq {g : GG} {S : Array Value → State → Prop} {Z : ZZ} {lv : LV} {st : List Value} {pc : Nat} {σ : Hs} {x : Int32} {off : Int} {tgt : Nat} {φ ψ : Prop} (ht : (pc : Int) + off = (tgt : Int)) (hd : decode ML.2.1 pc = .ok (.ifCond .eq off, 3)) (hW : (x = 0 → φ) ∧ (¬ x = 0 → ψ)) (kt : φ → Fs g S Z lv st tgt σ) (kf : ψ → Fs g S Z lv st (pc + 3) σ) : Fs g S Z lv (.int x :: st) pc σ := by
  intro p e s m args below meth c H locs ls ⟨hx, hb, hr, hlk, hml, hown, hnm, hts, hK, hR, hS, hl, hbs⟩ hs
  exact lv_if_eq hx hb hd ht (fun h => kt (hW.1 h) p e s m args below meth c H locs ls ⟨hx, hb, hr, hlk, hml, hown, hnm, hts, hK, hR, hS, hl, hbs⟩ hs) (fun h => kf (hW.2 h) p e s m args below meth c H locs ls ⟨hx, hb, hr, hlk, hml, hown, hnm, hts, hK, hR, hS, hl, hbs⟩ hs)
theorem fs_icmp_eq {g : GG} {S : Array Value → State → Prop} {Z : ZZ} {lv : LV} {st : List Value} {pc : Nat} {σ : Hs} {x y : Int32} {off : Int} {tgt : Nat} {φ ψ : Prop} (ht : (pc : Int) + off = (tgt : Int)) (hd : decode ML.2.1 pc = .ok (.if_icmp .eq off, 3)) (hW : (x = y → φ) ∧ (¬ x = y → ψ)) (kt : φ → Fs g S Z lv st tgt σ) (kf : ψ → Fs g S Z lv st (pc + 3) σ) : Fs g S Z lv (.int y :: .int x :: st) pc σ := by
  intro p e s m args below meth c H locs ls ⟨hx, hb, hr, hlk, hml, hown, hnm, hts, hK, hR, hS, hl, hbs⟩ hs
  exact lv_icmp_eq hx hb hd ht (fun h => kt (hW.1 h) p e s m args below meth c H locs ls ⟨hx, hb, hr, hlk, hml, hown, hnm, hts, hK, hR, hS, hl, hbs⟩ hs) (fun h => kf (hW.2 h) p e s m args below meth c H locs ls ⟨hx, hb, hr, hlk, hml, hown, hnm, hts, hK, hR, hS, hl, hbs⟩ hs)
theorem fs_icmp_gt {g : GG} {S : Array Value → State → Prop} {Z : ZZ} {lv : LV} {st : List Value} {pc : Nat} {σ : Hs} {x y : Int32} {off : Int} {tgt : Nat} {φ ψ : Prop} (ht : (pc : Int) + off = (tgt : Int)) (hd : decode ML.2.1 pc = .ok (.if_icmp .gt off, 3)) (hW : (y < x → φ) ∧ (¬ y < x → ψ)) (kt : φ → Fs g S Z lv st tgt σ) (kf : ψ → Fs g S Z lv st (pc + 3) σ) : Fs g S Z lv (.int y :: .int x :: st) pc σ := by
  intro p e s m args below meth c H locs ls ⟨hx, hb, hr, hlk, hml, hown, hnm, hts, hK, hR, hS, hl, hbs⟩ hs
  exact lv_icmp_gt hx hb hd ht (fun h => kt (hW.1 h) p e s m args below meth c H locs ls ⟨hx, hb, hr, hlk, hml, hown, hnm, hts, hK, hR, hS, hl, hbs⟩ hs) (fun h => kf (hW.2 h) p e s m args below meth c H locs ls ⟨hx, hb, hr, hlk, hml, hown, hnm, hts, hK, hR, hS, hl, hbs⟩ hs)
theorem fs_goto {g : GG} {S : Array Value → State → Prop} {Z : ZZ} {lv : LV} {st : List Value} {pc : Nat} {σ : Hs} {off : Int} {tgt : Nat} (ht : (pc : Int) + off = (tgt : Int)) (hd : decode ML.2.1 pc = .ok (.goto off, 3)) (kk : Fs g S Z lv st tgt σ) : Fs g S Z lv st pc σ := by
  intro p e s m args below meth c H locs ls ⟨hx, hb, hr, hlk, hml, hown, hnm, hts, hK, hR, hS, hl, hbs⟩ hs
  exact lv_goto hx hb hd ht (kk p e s m args below meth c H locs ls ⟨hx, hb, hr, hlk, hml, hown, hnm, hts, hK, hR, hS, hl, hbs⟩ hs)
theorem fs_switchOut {g : GG} {S : Array Value → State → Prop} {Z : ZZ} {lv : LV} {st : List Value} {pc : Nat} {σ : Hs} {dflt lo hi : Int} {offs : Array Int} {len tgt : Nat} {x : Int32} (hd : decode ML.2.1 pc = .ok (.tableswitch dflt lo hi offs, len)) (h : x.toInt < lo ∨ hi < x.toInt) (ht : (pc : Int) + dflt = (tgt : Int)) (kk : Fs g S Z lv st tgt σ) : Fs g S Z lv (.int x :: st) pc σ := by
  intro p e s m args below meth c H locs ls ⟨hx, hb, hr, hlk, hml, hown, hnm, hts, hK, hR, hS, hl, hbs⟩ hs
  exact lv_tableOut hx hb hd h ht (kk p e s m args below meth c H locs ls ⟨hx, hb, hr, hlk, hml, hown, hnm, hts, hK, hR, hS, hl, hbs⟩ hs)
theorem fs_switchIn {g : GG} {S : Array Value → State → Prop} {Z : ZZ} {lv : LV} {st : List Value} {pc : Nat} {σ : Hs} {dflt lo hi off : Int} {offs : Array Int} {len tgt : Nat} {x : Int32} (hd : decode ML.2.1 pc = .ok (.tableswitch dflt lo hi offs, len)) (h1 : ¬ x.toInt < lo) (h2 : ¬ hi < x.toInt) (ho : offs[(x.toInt - lo).toNat]? = some off) (ht : (pc : Int) + off = (tgt : Int)) (kk : Fs g S Z lv st tgt σ) : Fs g S Z lv (.int x :: st) pc σ := by
  intro p e s m args below meth c H locs ls ⟨hx, hb, hr, hlk, hml, hown, hnm, hts, hK, hR, hS, hl, hbs⟩ hs
  exact lv_tableIn hx hb hd h1 h2 ho ht (kk p e s m args below meth c H locs ls ⟨hx, hb, hr, hlk, hml, hown, hnm, hts, hK, hR, hS, hl, hbs⟩ hs)
theorem fs_ldc2 {g : GG} {S : Array Value → State → Prop} {Z : ZZ} {lv : LV} {st : List Value} {pc : Nat} {σ : Hs} {idx : Nat} {v : Int64} (hw : Cond.constantLong ML.1.cls idx v ∈ wsL_law) (hd : decode ML.2.1 pc = .ok (.ldc2_w idx, 3)) (kk : Fs g S Z lv (.long v :: st) (pc + 3) σ) : Fs g S Z lv st pc σ := by
  intro p e s m args below meth c H locs ls ⟨hx, hb, hr, hlk, hml, hown, hnm, hts, hK, hR, hS, hl, hbs⟩ hs
  exact lv_ldc2 hx hb hown (hts _ (List.mem_cons_of_mem _ hw)) hd (kk p e s m args below meth c H locs ls ⟨hx, hb, hr, hlk, hml, hown, hnm, hts, hK, hR, hS, hl, hbs⟩ hs)
theorem fs_new {g : GG} {S : Array Value → State → Prop} {Z : ZZ} {lv : LV} {st : List Value} {pc : Nat} {σ : Hs} {ci idx N : Nat} {C : String} {T : u_T} {ty : Nat → FieldType} (fs : List Value) {φ : Nat → Hs → Prop} (hc : Kc ci C T N ty) (hfs : ∀ j, j < N → defaultValue (ty j) = vp_V fs j) (hw : Cond.classLink ML.1.cls idx C ∈ wsL_law ∧ Cond.instantiable C N ∈ wsL_law ∧ Cond.initialized C ∈ wsL_law) (hd : decode ML.2.1 pc = .ok (.new idx, 3)) (hz : Z.2.2.1 + 1 ≤ room_1.cells ∧ Z.2.2.2 + N ≤ room_1.slots) {Z' : ZZ} (hZ' : (Z.1, Z.2.1, Z.2.2.1 + 1, Z.2.2.2 + N) = Z') (hW : NW σ ci fs φ) (kk : ∀ q σ', φ q σ' → Fs g S Z' lv (.ref q :: st) (pc + 3) σ') : Fs g S Z lv st pc σ := by
  subst hZ'
  intro p e s m args below meth c H locs ls ⟨hx, hb, hr, hlk, hml, hown, hnm, hts, hK, hR, hS, hl, hbs⟩ hs
  exact va_new hx hb hts (fun w h => List.mem_cons_of_mem _ (hc.2.1 w h)) ty hc.2.2.1 hown (hts _ (List.mem_cons_of_mem _ hw.1)) (hts _ (List.mem_cons_of_mem _ hw.2.1)) (hts _ (List.mem_cons_of_mem _ hw.2.2)) hK.1 hR.1 hR.2 hS (fun q h => Nat.le_trans hbs h) hc.1 hfs hz.1 hz.2 hd (fun q H1 hP hD hS1 => kk q _ (hW q (Hr.push hP hD).1) p e s m args below meth c H1 locs ls ⟨hx, hb, hr, hlk, hml, hown, hnm, hts, hK, (Hr.push hP hD).2, hS1, hl, hbs⟩ hs)
theorem fs_back {g : GG} {S : Array Value → State → Prop} {Z : ZZ} {lv : LV} {st st0 : List Value} {pc mc ms : Nat} {P : Option Value → Hs → Prop} {p : Program} {e : Env} {s : State} {m : MethodId} {args a : Array Value} {below : List Frame} {meth : Method} {c : Code} {H : Heap} {locs : List Loc} {ls : Array Slot} {σ : Hs}
    (h : Cx g ML p s m args meth c H locs σ ls lv) (hs : S args s)
    (hrun : va_Run p g.1 e room_1 s m args below meth c H locs Z.2.2.1 Z.2.2.2 mc ms (F0 m pc ls st0) st (Qg g P a) (gA g))
    (kk : ∀ v σ', P v σ' → Fs g S (Z.1, Z.2.1, Z.2.2.1 + mc, Z.2.2.2 + ms) lv (v.toList ++ st) (pc + 3) σ') :
    W p g.1 e room_1 s m args below meth c H locs Z.2.2.1 Z.2.2.2 (lw_Z below args s) (F0 m pc ls st0) := by
  obtain ⟨hx, hb, hr, hlk, hml, hown, hnm, hts, hK, hR, hS, hl, hbs⟩ := h
  intro T hT X
  obtain ⟨v, st₀, t, T', L, e1, X', hL, e2, e3, ⟨⟨v', σ', hv', hp, hR'⟩, hF⟩, go⟩ := hrun T hT X
  cases hv'
  have hS' : va_S (gA g) s.heap T'.heap (locs ++ L) := by
    refine ⟨?_, fun q h1 h2 => ?_, fun q hq => ?_⟩
    · have h3 := hF.1
      rw [e1] at h3
      rw [e2]
      exact Nat.le_trans hS.1 h3
    · rw [e2, hF.2 q (by rw [e1]; exact Nat.lt_of_lt_of_le h1 hS.1) h2, e1]
      exact hS.2.1 q h1 h2
    · rcases List.mem_append.mp hq with h1 | h1
      · exact hS.2.2 q h1
      · exact hL q h1
  obtain ⟨t1, s1, Q1⟩ := kk v σ' hp p e s m args below meth c T'.heap (locs ++ L) ls ⟨hx, hb, hr, hlk, hml, hown, hnm, hts, hK, by rw [e2]; exact hR', hS', hl, hbs⟩ hs T' rfl X'
  exact ⟨t1, go _ s1, Q1⟩
theorem fs_callV {g : GG} {S : Array Value → State → Prop} {Z : ZZ} {lv : LV} {st : List Value} {pc : Nat} {σ : Hs} {M' : MI} {idx n mc ms : Nat} {b ci N : Nat} {T : u_T} {ty : Nat → FieldType} {As : List Value} {P : Option Value → Hs → Prop} (hw : Wv M') (hlk' : Cond.methodLink ML.1.cls idx M'.1 ∈ wsL_law) (hok : okM M' n = true) (hdp : M'.2.2.2.2 + 1 ≤ 11) (hn : As.length = n) (hst : (st.map fun v => v.category).sum ≤ 8) (hd : decode ML.2.1 pc = .ok (.invokevirtual idx, 3)) (hz : Z.2.2.1 + mc ≤ room_1.cells ∧ Z.2.2.2 + ms ≤ room_1.slots) (hc : Kc ci M'.1.cls T N ty) (hrc : Rc σ b ci) (hW : Do g M' mc ms (.ref b :: As) σ P) (kk : ∀ v σ', P v σ' → Fs g S (Z.1, Z.2.1, Z.2.2.1 + mc, Z.2.2.2 + ms) lv (v.toList ++ st) (pc + 3) σ') : Fs g S Z lv (As.reverse ++ .ref b :: st) pc σ := by
  intro p e s m args below meth c H locs ls ⟨hx, hb, hr, hlk, hml, hown, hnm, hts, hK, hR, hS, hl, hbs⟩ hs
  have hcode := hw.2.2.2
  obtain ⟨vs, hv⟩ := hrc
  obtain ⟨q0, hq⟩ := hR.at hv
  refine fs_back ⟨hx, hb, hr, hlk, hml, hown, hnm, hts, hK, hR, hS, hl, hbs⟩ hs (va_runV (As := As) (rest := st) ⟨hx, hb, hml, hown, hts⟩ hW ⟨callB_of n hts (good_M hcode) rfl rfl rfl (hts _ (List.mem_cons_of_mem _ hw.2.2.1)) (hts _ (List.mem_cons_of_mem _ hlk')) (okM_s hok).1 (okRL hok hdp), (hts _ (List.mem_cons_of_mem _ hw.1)), (hts _ (List.mem_cons_of_mem _ hw.2.1))⟩ ⟨Pg.blind g _ σ, va_recv hK.1 hR.1 (ci := ci) (q0 := q0) hc.1 hq, (fun U hU hW1 => ⟨rfl, by rw [hU]; exact Nat.le_trans hbs hS.1, by rw [hU]; exact hR, hK.moved hW1⟩)⟩ rfl hn hl.1 rfl (lv_room hst) hd hz) kk
theorem fs_callI {g : GG} {S : Array Value → State → Prop} {Z : ZZ} {lv : LV} {st : List Value} {pc : Nat} {σ : Hs} {M' : MI} {idx n mc ms : Nat} {b : Nat} {As : List Value} {P : Option Value → Hs → Prop} (hw : Wi M') (hlk' : Cond.methodLink ML.1.cls idx M'.1 ∈ wsL_law) (hok : okM M' n = true) (hdp : M'.2.2.2.2 + 1 ≤ 11) (hn : As.length = n) (hst : (st.map fun v => v.category).sum ≤ 8) (hd : decode ML.2.1 pc = .ok (.invokespecial idx, 3)) (hz : Z.2.2.1 + mc ≤ room_1.cells ∧ Z.2.2.2 + ms ≤ room_1.slots) (hr1 : M'.2.2.2.1 = none) (hi1 : M'.1.name = "<init>") (hW : Do g M' mc ms (.ref b :: As) σ P) (kk : ∀ v σ', P v σ' → Fs g S (Z.1, Z.2.1, Z.2.2.1 + mc, Z.2.2.2 + ms) lv (v.toList ++ st) (pc + 3) σ') : Fs g S Z lv (As.reverse ++ .ref b :: st) pc σ := by
  intro p e s m args below meth c H locs ls ⟨hx, hb, hr, hlk, hml, hown, hnm, hts, hK, hR, hS, hl, hbs⟩ hs
  have hcode := hw.2.2
  rw [hr1] at hcode
  have hW' : Met g.1 M'.1 (Cond.code M'.1 M'.2.1 M'.2.2.1 none :: wsL_law) (rmM M' mc ms) (va_Pc (.ref b :: As) (Pg g σ)) (Qg g P) mc ms (gA g) := by
    have h0 := hW
    unfold Do wsM at h0
    rw [hr1] at h0
    exact h0
  have hgd : GoodIn (wsM ML) (Cond.code M'.1 M'.2.1 M'.2.2.1 none :: wsL_law) := by
    have h0 := good_M (M := ML) hw.2.2
    unfold wsM at h0 ⊢
    rw [hr1] at h0
    exact h0
  refine fs_back ⟨hx, hb, hr, hlk, hml, hown, hnm, hts, hK, hR, hS, hl, hbs⟩ hs (va_runI (As := As) (rest := st) ⟨hx, hb, hml, hown, hts⟩ hW' ⟨callB_of n hts hgd rfl rfl rfl (hts _ (List.mem_cons_of_mem _ hw.2.1)) (hts _ (List.mem_cons_of_mem _ hlk')) (okM_s hok).1 (okRL hok hdp), hi1, (hts _ (List.mem_cons_of_mem _ hw.1))⟩ ⟨Pg.blind g _ σ, (fun U hU hW1 => ⟨rfl, by rw [hU]; exact Nat.le_trans hbs hS.1, by rw [hU]; exact hR, hK.moved hW1⟩)⟩ rfl hn hl.1 rfl (lv_room hst) hd hz) kk
theorem fs_callV_Ia {g : GG} {S : Array Value → State → Prop} {Z : ZZ} {lv : LV} {st : List Value} {pc : Nat} {σ : Hs} {M' : MI} {idx n mc ms : Nat} {b ci N : Nat} {T : u_T} {ty : Nat → FieldType} {As : List Value} {φ : Int32 → Hs → Prop} {Z' : ZZ} (hw : Wv M') (hlk' : Cond.methodLink ML.1.cls idx M'.1 ∈ wsL_law) (hok : okM M' n = true) (hdp : M'.2.2.2.2 + 1 ≤ 11) (hn : As.length = n) (hst : (st.map fun v => v.category).sum ≤ 8) (hd : decode ML.2.1 pc = .ok (.invokevirtual idx, 3)) (hz : Z.2.2.1 + mc ≤ room_1.cells ∧ Z.2.2.2 + ms ≤ room_1.slots) (hZ' : (Z.1, Z.2.1, Z.2.2.1 + mc, Z.2.2.2 + ms) = Z') (hc : Kc ci M'.1.cls T N ty) (hrc : Rc σ b ci) (hW : Do g M' mc ms (.ref b :: As) σ (kI φ)) (kk : ∀ r σ', φ r σ' → Fs g S Z' lv (.int r :: st) (pc + 3) σ') : Fs g S Z lv (As.reverse ++ .ref b :: st) pc σ := by
  subst hZ'
  exact fs_callV hw hlk' hok hdp hn hst hd hz hc hrc hW (by rintro _ σ' ⟨r, rfl, h⟩; exact kk r σ' h)
theorem fs_callV_La {g : GG} {S : Array Value → State → Prop} {Z : ZZ} {lv : LV} {st : List Value} {pc : Nat} {σ : Hs} {M' : MI} {idx n mc ms : Nat} {b ci N : Nat} {T : u_T} {ty : Nat → FieldType} {As : List Value} {φ : Int64 → Hs → Prop} {Z' : ZZ} (hw : Wv M') (hlk' : Cond.methodLink ML.1.cls idx M'.1 ∈ wsL_law) (hok : okM M' n = true) (hdp : M'.2.2.2.2 + 1 ≤ 11) (hn : As.length = n) (hst : (st.map fun v => v.category).sum ≤ 8) (hd : decode ML.2.1 pc = .ok (.invokevirtual idx, 3)) (hz : Z.2.2.1 + mc ≤ room_1.cells ∧ Z.2.2.2 + ms ≤ room_1.slots) (hZ' : (Z.1, Z.2.1, Z.2.2.1 + mc, Z.2.2.2 + ms) = Z') (hc : Kc ci M'.1.cls T N ty) (hrc : Rc σ b ci) (hW : Do g M' mc ms (.ref b :: As) σ (kL φ)) (kk : ∀ r σ', φ r σ' → Fs g S Z' lv (.long r :: st) (pc + 3) σ') : Fs g S Z lv (As.reverse ++ .ref b :: st) pc σ := by
  subst hZ'
  exact fs_callV hw hlk' hok hdp hn hst hd hz hc hrc hW (by rintro _ σ' ⟨r, rfl, h⟩; exact kk r σ' h)
theorem fs_callI_Va {g : GG} {S : Array Value → State → Prop} {Z : ZZ} {lv : LV} {st : List Value} {pc : Nat} {σ : Hs} {M' : MI} {idx n mc ms : Nat} {b : Nat} {As : List Value} {φ : Hs → Prop} {Z' : ZZ} (hw : Wi M') (hlk' : Cond.methodLink ML.1.cls idx M'.1 ∈ wsL_law) (hok : okM M' n = true) (hdp : M'.2.2.2.2 + 1 ≤ 11) (hn : As.length = n) (hst : (st.map fun v => v.category).sum ≤ 8) (hd : decode ML.2.1 pc = .ok (.invokespecial idx, 3)) (hz : Z.2.2.1 + mc ≤ room_1.cells ∧ Z.2.2.2 + ms ≤ room_1.slots) (hZ' : (Z.1, Z.2.1, Z.2.2.1 + mc, Z.2.2.2 + ms) = Z') (hr1 : M'.2.2.2.1 = none) (hi1 : M'.1.name = "<init>") (hW : Do g M' mc ms (.ref b :: As) σ (kV φ)) (kk : ∀ σ', φ σ' → Fs g S Z' lv st (pc + 3) σ') : Fs g S Z lv (As.reverse ++ .ref b :: st) pc σ := by
  subst hZ'
  exact fs_callI hw hlk' hok hdp hn hst hd hz hr1 hi1 hW (by rintro _ σ' ⟨rfl, h⟩; exact kk σ' h)
section SCR
variable {g : GG} {b L : Nat} {xs : Nat → Int32} {Z : ZZ} {lv : LV} {st : List Value} {pc : Nat} {σ : Hs}
theorem fs_slen (hd : decode code pc = .ok (.arraylength, 1)) (kk : Fs g (SL b L xs g) Z lv (.int (Int32.ofNat L) :: st) (pc + 1) σ) : Fs g (SL b L xs g) Z lv (.ref b :: st) pc σ := by
  intro p e s m args below meth c H locs ls ⟨hx, hb, hr, hlk, hml, hown, hnm, hts, hK, hR, hS, hl, hbs⟩ hs
  exact va_slen hx hb hs.2.1 hs.2.2.1 (fun z => absurd (Nat.le_trans hs.2.2.2 z) (Nat.not_le.mpr hs.2.2.1)) hS hd (kk p e s m args below meth c H locs ls ⟨hx, hb, hr, hlk, hml, hown, hnm, hts, hK, hR, hS, hl, hbs⟩ hs)
theorem fs_sld {i : Int32} (hin : vp_in i L) (hd : decode code pc = .ok (.iaload, 1)) (kk : Fs g (SL b L xs g) Z lv (.int (xs i.toNatClampNeg) :: st) (pc + 1) σ) : Fs g (SL b L xs g) Z lv (.int i :: .ref b :: st) pc σ := by
  intro p e s m args below meth c H locs ls ⟨hx, hb, hr, hlk, hml, hown, hnm, hts, hK, hR, hS, hl, hbs⟩ hs
  exact va_sld hx hb hs.2.1 hs.2.2.1 (fun z => absurd (Nat.le_trans hs.2.2.2 z) (Nat.not_le.mpr hs.2.2.1)) hS hin hd (kk p e s m args below meth c H locs ls ⟨hx, hb, hr, hlk, hml, hown, hnm, hts, hK, hR, hS, hl, hbs⟩ hs)
theorem fs_end (hd : decode code pc = .ok (.ireturn, 1)) (hz : Z.2.2.1 ≤ 600000 ∧ Z.2.2.2 ≤ 7302249) : Fs g (SL b L xs g) Z lv [.int 1] pc σ := by
  intro p e s m args below meth c H locs ls ⟨hx, hb, hr, hlk, hml, hown, hnm, hts, hK, hR, hS, hl, hbs⟩ ⟨hs1, hs2, hs3, hs4⟩
  subst hs1
  exact W.widen hz.1 hz.2 (va_forget (fun q hq => Nat.le_trans hs4 (hS.2.2 q hq)) (lw_ret hx hb hr hlk hd))
end SCR
