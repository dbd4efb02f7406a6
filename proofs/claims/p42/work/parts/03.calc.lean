/-! The calculus. A heap state: the list of addresses, and what lies at each. Fr: a frame at a pc; Do: a method's contract; both in continuation style. -/
abbrev Hs : Type := List Nat × (Nat → va_E)
abbrev GG : Type := Launch × va_G × (Nat → ClassId) × Nat
abbrev MI : Type := MethodName × ByteArray × Nat × Option FieldType × Nat
abbrev ZZ : Type := Nat × Nat × Nat × Nat
abbrev LV : Type := List (Nat × Value)
def TT (K : Nat → ClassId) : List (ClassId × FieldType) := [(K 0, .int), (K 1, .int), (K 2, .int), (K 3, .long), (K 4, .object RX2), (K 5, .object RX4), (K 6, .object RX6), (K 7, .object RX8)]
def gA (g : GG) : Nat → Prop := fun q => g.2.2.2 ≤ q
def Hr (g : GG) (σ : Hs) (H : Heap) : Prop := va_P g.2.1 vwCl ([] ++ va_pl σ.1 σ.2) H ∧ va_D (gA g) ([] ++ va_pl σ.1 σ.2)
def Hk (g : GG) (U : State) : Prop := va_K g.2.1 vwCl (TT g.2.2.1) U ∧ (∀ q ∈ nwM, va_Nw (.methodLinkNest q.1 q.2.1 q.2.2.1 q.2.2.2) U) ∧ ∀ C ∈ nwO, va_AO C U
def rmM (M : MI) (mc ms : Nat) : Room := { frames := M.2.2.2.2, cells := mc, slots := ms, locals := 39 * M.2.2.2.2 }
def wsM (M : MI) : List Cond := Cond.code M.1 M.2.1 M.2.2.1 M.2.2.2.1 :: wsL_law
def Qg (g : GG) (post : Option Value → Hs → Prop) : Array Value → State → Outcome → State → Prop := fun _ st oc t => (∃ (v : Option Value) (σ : Hs), oc = .returned v ∧ post v σ ∧ Hr g σ t.heap) ∧ va_F (gA g) st t
def Pg (g : GG) (σ : Hs) (U : State) : Prop := g.2.2.2 ≤ U.heap.size ∧ Hr g σ U.heap ∧ Hk g U
def Do (g : GG) (M : MI) (mc ms : Nat) (as : List Value) (σ : Hs) (post : Option Value → Hs → Prop) : Prop := Met g.1 M.1 (wsM M) (rmM M mc ms) (va_Pc as (Pg g σ)) (Qg g post) mc ms (gA g)
def Cx (g : GG) (M : MI) (p : Program) (s : State) (m : MethodId) (args : Array Value) (meth : Method) (c : Code) (H : Heap) (locs : List Loc) (σ : Hs) (ls : Array Slot) (lv : LV) : Prop := p.tables.exec = Jvm.exec ∧ c.code = M.2.1 ∧ meth.sig.returnType = M.2.2.2.1 ∧ meth.locks = false ∧ c.maxLocals = M.2.2.1 ∧ s.vm.findClass M.1.cls = some m.cls ∧ meth.name = M.1.name ∧ (∀ w ∈ wsM M, w.before args s = true) ∧ Hk g s ∧ Hr g σ H ∧ va_S (gA g) s.heap H locs ∧ lv_has ls M.2.2.1 lv ∧ g.2.2.2 ≤ s.heap.size
def Fr (g : GG) (M : MI) (Z : ZZ) (lv : LV) (st : List Value) (pc : Nat) (σ : Hs) (post : Option Value → Hs → Prop) : Prop :=
  ∀ (p : Program) (e : Env) (s : State) (m : MethodId) (args : Array Value) (below : List Frame) (meth : Method) (c : Code) (H : Heap) (locs : List Loc) (ls : Array Slot), Cx g M p s m args meth c H locs σ ls lv → W p g.1 e (rmM M Z.1 Z.2.1) s m args below meth c H locs Z.2.2.1 Z.2.2.2 (MQ below (Qg g post) args s Z.1 Z.2.1 (gA g)) (F0 m pc ls st)
def Ce (σ : Hs) (a : Nat) (e : va_E) : Prop := a ∈ σ.1 ∧ σ.2 a = e
def hup (σ : Hs) (a : Nat) (e : va_E) : Hs := (σ.1, va_up σ.2 a e)
def hpush (σ : Hs) (a : Nat) (e : va_E) : Hs := (σ.1 ++ [a], va_up σ.2 a e)
def FI (σ : Hs) (a ci k : Nat) (φ : Int32 → Prop) : Prop := ∃ (fs : List Value) (i : Int32), Ce σ a (.inr (ci, fs)) ∧ fs[k]? = some (.int i) ∧ φ i
def FL (σ : Hs) (a ci k : Nat) (φ : Int64 → Prop) : Prop := ∃ (fs : List Value) (i : Int64), Ce σ a (.inr (ci, fs)) ∧ fs[k]? = some (.long i) ∧ φ i
def FR (σ : Hs) (a ci k : Nat) (φ : Nat → Prop) : Prop := ∃ (fs : List Value) (i : Nat), Ce σ a (.inr (ci, fs)) ∧ fs[k]? = some (.ref i) ∧ φ i
def PF (σ : Hs) (a ci k : Nat) (v : Value) (φ : Hs → Prop) : Prop := ∃ (fs : List Value), Ce σ a (.inr (ci, fs)) ∧ k < fs.length ∧ φ (hup σ a (.inr (ci, fs.set k v)))
def AN (g : GG) (σ : Hs) (a t : Nat) (φ : Int32 → Prop) : Prop := ∃ (x : vp_A), Ce σ a (.inl (g.2.2.1 t, x)) ∧ φ (Int32.ofNat x.1)
def AI (g : GG) (σ : Hs) (a t : Nat) (i : Int32) (φ : Int32 → Prop) : Prop := ∃ (n : Nat) (f : Nat → Int32), Ce σ a (.inl (g.2.2.1 t, n, .inl f)) ∧ vp_in i n ∧ φ (f i.toNatClampNeg)
def SI (g : GG) (σ : Hs) (a t : Nat) (i x : Int32) (φ : Hs → Prop) : Prop := ∃ (n : Nat) (f : Nat → Int32), Ce σ a (.inl (g.2.2.1 t, n, .inl f)) ∧ vp_in i n ∧ φ (hup σ a (.inl (g.2.2.1 t, n, .inl (upd f i.toNatClampNeg x))))
def AJ (g : GG) (σ : Hs) (a : Nat) (i : Int32) (φ : Int64 → Prop) : Prop := ∃ (n : Nat) (f : Nat → Int64), Ce σ a (.inl (g.2.2.1 3, n, .inr (.inl f))) ∧ vp_in i n ∧ φ (f i.toNatClampNeg)
def SJ (g : GG) (σ : Hs) (a : Nat) (i : Int32) (x : Int64) (φ : Hs → Prop) : Prop := ∃ (n : Nat) (f : Nat → Int64), Ce σ a (.inl (g.2.2.1 3, n, .inr (.inl f))) ∧ vp_in i n ∧ φ (hup σ a (.inl (g.2.2.1 3, n, .inr (.inl (vp_updL f i.toNatClampNeg x)))))
def AR (g : GG) (σ : Hs) (a t : Nat) (i : Int32) (φ0 : Prop) (φ1 : Nat → Prop) : Prop := ∃ (n : Nat) (f : Nat → Option Nat), Ce σ a (.inl (g.2.2.1 t, n, .inr (.inr (.inr (.inr f))))) ∧ vp_in i n ∧ (f i.toNatClampNeg = none → φ0) ∧ ∀ q, f i.toNatClampNeg = some q → φ1 q
def Rc (σ : Hs) (a ci : Nat) : Prop := ∃ (fs : List Value), Ce σ a (.inr (ci, fs))
def SR (g : GG) (σ : Hs) (a t ci : Nat) (i : Int32) (v : Nat) (φ : Hs → Prop) : Prop := ∃ (n : Nat) (f : Nat → Option Nat), Ce σ a (.inl (g.2.2.1 t, n, .inr (.inr (.inr (.inr f))))) ∧ vp_in i n ∧ Rc σ v ci ∧ φ (hup σ a (.inl (g.2.2.1 t, n, .inr (.inr (.inr (.inr (va_up f i.toNatClampNeg (some v))))))))
def NW (σ : Hs) (ci : Nat) (fs : List Value) (φ : Nat → Hs → Prop) : Prop := ∀ q : Nat, q ∉ σ.1 → φ q (hpush σ q (.inr (ci, fs)))
def NA (g : GG) (σ : Hs) (t : Nat) (n : Int32) (x : Nat → (Nat → Int32) ⊕ (Nat → Int64) ⊕ (Nat → UInt32) ⊕ (Nat → UInt64) ⊕ (Nat → Option Nat)) (φ : Nat → Hs → Prop) : Prop := ∀ q : Nat, q ∉ σ.1 → φ q (hpush σ q (.inl (g.2.2.1 t, n.toNatClampNeg, x t)))
def ndef (t : Nat) : (Nat → Int32) ⊕ (Nat → Int64) ⊕ (Nat → UInt32) ⊕ (Nat → UInt64) ⊕ (Nat → Option Nat) := if t < 3 then .inl (fun _ => 0) else if t = 3 then .inr (.inl (fun _ => 0)) else .inr (.inr (.inr (.inr (fun _ => none))))
def kI (φ : Int32 → Hs → Prop) : Option Value → Hs → Prop := fun v σ => ∃ r : Int32, v = some (.int r) ∧ φ r σ
def kL (φ : Int64 → Hs → Prop) : Option Value → Hs → Prop := fun v σ => ∃ r : Int64, v = some (.long r) ∧ φ r σ
def kV (φ : Hs → Prop) : Option Value → Hs → Prop := fun v σ => v = none ∧ φ σ
def kA (φ0 : Hs → Prop) (φ1 : Nat → Hs → Prop) : Option Value → Hs → Prop := fun v σ => (v = some .null ∧ φ0 σ) ∨ ∃ q : Nat, v = some (.ref q) ∧ φ1 q σ


theorem law_in {g : GG} {M : MI} {p : Program} {s : State} {m : MethodId} {args : Array Value} {meth : Method} {c : Code} {H : Heap} {locs : List Loc} {σ : Hs} {ls : Array Slot} {lv : LV} (h : Cx g M p s m args meth c H locs σ ls lv) {w : Cond} (hw : w ∈ wsL_law) : w.before args s = true := h.2.2.2.2.2.2.2.1 w (List.mem_cons_of_mem _ hw)
theorem good_M {M M' : MI} (hc : Cond.code M'.1 M'.2.1 M'.2.2.1 M'.2.2.2.1 ∈ wsL_law) : GoodIn (wsM M) (wsM M') := fun w h => by
  have h1 : w ∈ wsL_law := (List.mem_cons.mp h).elim (fun e => e ▸ hc) id
  exact ⟨List.mem_cons_of_mem _ h1, good_of_word (law_good w h1)⟩
theorem Hk.moved {g : GG} {u U : State} (hW : u.WarmedH U.vm) (h : Hk g u) : Hk g U := ⟨va_K.moved hW.alike h.1, fun q hq => va_Nw.warmM hW (h.2.1 q hq), fun C hC => va_AO.moved hW.alike (h.2.2 C hC)⟩
theorem Hk.calling {g : GG} {U : State} {f : JFrame} {mk : MethodId} {a : Array Value} (h : Hk g U) : Hk g (U.calling f mk a) := ⟨va_K.moved (u := U) (U := U.calling f mk a) (Vm.Alike.refl U.vm) h.1, fun q hq => va_tabs (c := .methodLinkNest q.1 q.2.1 q.2.2.1 q.2.2.2) rfl (A := #[]) (A' := #[]) (u := U) (U := U.calling f mk a) rfl (h.2.1 q hq), fun C hC => va_AO.moved (u := U) (U := U.calling f mk a) (Vm.Alike.refl U.vm) (h.2.2 C hC)⟩
theorem Pg.blind (g : GG) (as : List Value) (σ : Hs) : FrameBlind (va_Pc as (Pg g σ)) := fun a U f mk q => ⟨q.1, q.2.1, q.2.2.1, q.2.2.2.calling⟩
theorem Do.mono {g : GG} {M : MI} {mc ms : Nat} {as : List Value} {σ : Hs} {P Q : Option Value → Hs → Prop} (h : Do g M mc ms as σ P) (hPQ : ∀ v σ', P v σ' → Q v σ') : Do g M mc ms as σ Q := by
  intro p e ha hc hk s m args below hf h1 h2 h3
  obtain ⟨k, o, g1, g2, g3, ⟨⟨⟨v, σ', e1, e2, e3⟩, e4⟩, e5⟩⟩ := h p e ha hc hk s m args below hf h1 h2 h3
  exact ⟨k, o, g1, g2, g3, ⟨⟨⟨v, σ', e1, hPQ v σ' e2, e3⟩, e4⟩, e5⟩⟩
theorem Do.of {g : GG} {M : MI} {mc ms : Nat} {as : List Value} {σ : Hs} {post : Option Value → Hs → Prop} (hw : plainName M.1.cls = true) (hlen : (lg_sl as).length ≤ M.2.2.1) (hF : Fr g M (mc, ms, 0, 0) (lv_args 0 as) [] 0 σ post) : Do g M mc ms as σ post := by
  refine Met.ofW (cc := M.2.1) (maxL := M.2.2.1) (ret := M.2.2.2.1) hw rfl ?_
  intro p e s m args below meth c s₁ B hml hv
  obtain ⟨rfl, hsz, hR, hK⟩ := hv
  have hl := lv_entry as (n := M.2.2.1) hlen
  rw [lg_entry_eq]
  generalize (lg_sl as ++ List.replicate (M.2.2.1 - (lg_sl as).length) Slot.unset).toArray = ls at hl ⊢
  exact hF p e s m _ below meth c s.heap [] ls ⟨B.exec, B.bytes, B.returns, B.notSynchronized, hml, findClass_of_methodNamed B.named, (name_of_methodNamed B.named B.method).1, atoms_spec (ws := wsM M) B.pre, hK, hR, va_S.rf, hl, hsz⟩
theorem fr_sub {g : GG} {M : MI} {Z : ZZ} {lv lv' : LV} {st : List Value} {pc : Nat} {σ : Hs} {post : Option Value → Hs → Prop} (ks : List Nat) (hl : lv_pick lv ks = lv') (kk : Fr g M Z lv' st pc σ post) : Fr g M Z lv st pc σ post := by
  intro p e s m args below meth c H locs ls ⟨hx, hb, hr, hlk, hml, hown, hnm, hts, hK, hR, hS, hl1, hbs⟩
  exact kk p e s m args below meth c H locs ls ⟨hx, hb, hr, hlk, hml, hown, hnm, hts, hK, hR, hS, lv_sub hl1 ks hl, hbs⟩

theorem fr_iconst {g : GG} {M : MI} {Z : ZZ} {lv : LV} {st : List Value} {pc : Nat} {σ : Hs} {post : Option Value → Hs → Prop} {n : Int} (v : Int32) (hv : Int32.ofInt n = v) (hd : decode M.2.1 pc = .ok (.iconst n, 1)) (kk : Fr g M Z lv (.int v :: st) (pc + 1) σ post) : Fr g M Z lv (st) pc σ post := by
  intro p e s m args below meth c H locs ls ⟨hx, hb, hr, hlk, hml, hown, hnm, hts, hK, hR, hS, hl, hbs⟩
  exact lv_iconst hx hb hd hv (kk p e s m args below meth c H locs ls ⟨hx, hb, hr, hlk, hml, hown, hnm, hts, hK, hR, hS, hl, hbs⟩)
theorem fr_bipush {g : GG} {M : MI} {Z : ZZ} {lv : LV} {st : List Value} {pc : Nat} {σ : Hs} {post : Option Value → Hs → Prop} {n : Int} (v : Int32) (hv : (Int8.ofInt n).toInt32 = v) (hd : decode M.2.1 pc = .ok (.bipush n, 2)) (kk : Fr g M Z lv (.int v :: st) (pc + 2) σ post) : Fr g M Z lv (st) pc σ post := by
  intro p e s m args below meth c H locs ls ⟨hx, hb, hr, hlk, hml, hown, hnm, hts, hK, hR, hS, hl, hbs⟩
  exact lv_bipush hx hb hd hv (kk p e s m args below meth c H locs ls ⟨hx, hb, hr, hlk, hml, hown, hnm, hts, hK, hR, hS, hl, hbs⟩)
theorem fr_sipush {g : GG} {M : MI} {Z : ZZ} {lv : LV} {st : List Value} {pc : Nat} {σ : Hs} {post : Option Value → Hs → Prop} {n : Int} (v : Int32) (hv : (Int16.ofInt n).toInt32 = v) (hd : decode M.2.1 pc = .ok (.sipush n, 3)) (kk : Fr g M Z lv (.int v :: st) (pc + 3) σ post) : Fr g M Z lv (st) pc σ post := by
  intro p e s m args below meth c H locs ls ⟨hx, hb, hr, hlk, hml, hown, hnm, hts, hK, hR, hS, hl, hbs⟩
  exact lv_sipush hx hb hd hv (kk p e s m args below meth c H locs ls ⟨hx, hb, hr, hlk, hml, hown, hnm, hts, hK, hR, hS, hl, hbs⟩)
theorem fr_lconst {g : GG} {M : MI} {Z : ZZ} {lv : LV} {st : List Value} {pc : Nat} {σ : Hs} {post : Option Value → Hs → Prop} {n : Fin 2} (v : Int64) (hv : Int64.ofNat (n : Nat) = v) (hd : decode M.2.1 pc = .ok (.lconst n, 1)) (kk : Fr g M Z lv (.long v :: st) (pc + 1) σ post) : Fr g M Z lv (st) pc σ post := by
  intro p e s m args below meth c H locs ls ⟨hx, hb, hr, hlk, hml, hown, hnm, hts, hK, hR, hS, hl, hbs⟩
  exact lv_lconst hx hb hd hv (kk p e s m args below meth c H locs ls ⟨hx, hb, hr, hlk, hml, hown, hnm, hts, hK, hR, hS, hl, hbs⟩)
theorem fr_null {g : GG} {M : MI} {Z : ZZ} {lv : LV} {st : List Value} {pc : Nat} {σ : Hs} {post : Option Value → Hs → Prop}  (hd : decode M.2.1 pc = .ok (.aconst_null, 1)) (kk : Fr g M Z lv (.null :: st) (pc + 1) σ post) : Fr g M Z lv (st) pc σ post := by
  intro p e s m args below meth c H locs ls ⟨hx, hb, hr, hlk, hml, hown, hnm, hts, hK, hR, hS, hl, hbs⟩
  exact lv_null hx hb hd (kk p e s m args below meth c H locs ls ⟨hx, hb, hr, hlk, hml, hown, hnm, hts, hK, hR, hS, hl, hbs⟩)
theorem fr_iload_n {g : GG} {M : MI} {Z : ZZ} {lv : LV} {st : List Value} {pc : Nat} {σ : Hs} {post : Option Value → Hs → Prop} {j : Fin 4} {i : Nat} {x : Int32} (k : Nat) (hk : lv[k]? = some (i, .int x)) (hi : (j : Nat) = i) (hd : decode M.2.1 pc = .ok (.iload_n j, 1)) (kk : Fr g M Z lv (.int x :: st) (pc + 1) σ post) : Fr g M Z lv (st) pc σ post := by
  intro p e s m args below meth c H locs ls ⟨hx, hb, hr, hlk, hml, hown, hnm, hts, hK, hR, hS, hl, hbs⟩
  exact lv_iload_n hx hb hd hi (lv_at hl k hk) (kk p e s m args below meth c H locs ls ⟨hx, hb, hr, hlk, hml, hown, hnm, hts, hK, hR, hS, hl, hbs⟩)
theorem fr_iload {g : GG} {M : MI} {Z : ZZ} {lv : LV} {st : List Value} {pc : Nat} {σ : Hs} {post : Option Value → Hs → Prop} {i : Nat} {x : Int32} (k : Nat) (hk : lv[k]? = some (i, .int x)) (hd : decode M.2.1 pc = .ok (.iload i, 2)) (kk : Fr g M Z lv (.int x :: st) (pc + 2) σ post) : Fr g M Z lv (st) pc σ post := by
  intro p e s m args below meth c H locs ls ⟨hx, hb, hr, hlk, hml, hown, hnm, hts, hK, hR, hS, hl, hbs⟩
  exact lv_iload hx hb hd (lv_at hl k hk) (kk p e s m args below meth c H locs ls ⟨hx, hb, hr, hlk, hml, hown, hnm, hts, hK, hR, hS, hl, hbs⟩)
theorem fr_lload_n {g : GG} {M : MI} {Z : ZZ} {lv : LV} {st : List Value} {pc : Nat} {σ : Hs} {post : Option Value → Hs → Prop} {j : Fin 4} {i : Nat} {x : Int64} (k : Nat) (hk : lv[k]? = some (i, .long x)) (hi : (j : Nat) = i) (hd : decode M.2.1 pc = .ok (.lload_n j, 1)) (kk : Fr g M Z lv (.long x :: st) (pc + 1) σ post) : Fr g M Z lv (st) pc σ post := by
  intro p e s m args below meth c H locs ls ⟨hx, hb, hr, hlk, hml, hown, hnm, hts, hK, hR, hS, hl, hbs⟩
  exact lv_lload_n hx hb hd hi (lv_at hl k hk) (kk p e s m args below meth c H locs ls ⟨hx, hb, hr, hlk, hml, hown, hnm, hts, hK, hR, hS, hl, hbs⟩)
theorem fr_lload {g : GG} {M : MI} {Z : ZZ} {lv : LV} {st : List Value} {pc : Nat} {σ : Hs} {post : Option Value → Hs → Prop} {i : Nat} {x : Int64} (k : Nat) (hk : lv[k]? = some (i, .long x)) (hd : decode M.2.1 pc = .ok (.lload i, 2)) (kk : Fr g M Z lv (.long x :: st) (pc + 2) σ post) : Fr g M Z lv (st) pc σ post := by
  intro p e s m args below meth c H locs ls ⟨hx, hb, hr, hlk, hml, hown, hnm, hts, hK, hR, hS, hl, hbs⟩
  exact lv_lload hx hb hd (lv_at hl k hk) (kk p e s m args below meth c H locs ls ⟨hx, hb, hr, hlk, hml, hown, hnm, hts, hK, hR, hS, hl, hbs⟩)
theorem fr_aload_n {g : GG} {M : MI} {Z : ZZ} {lv : LV} {st : List Value} {pc : Nat} {σ : Hs} {post : Option Value → Hs → Prop} {j : Fin 4} {i : Nat} {x : Nat} (k : Nat) (hk : lv[k]? = some (i, .ref x)) (hi : (j : Nat) = i) (hd : decode M.2.1 pc = .ok (.aload_n j, 1)) (kk : Fr g M Z lv (.ref x :: st) (pc + 1) σ post) : Fr g M Z lv (st) pc σ post := by
  intro p e s m args below meth c H locs ls ⟨hx, hb, hr, hlk, hml, hown, hnm, hts, hK, hR, hS, hl, hbs⟩
  exact lv_aload_n hx hb hd hi (lv_at hl k hk) (kk p e s m args below meth c H locs ls ⟨hx, hb, hr, hlk, hml, hown, hnm, hts, hK, hR, hS, hl, hbs⟩)
theorem fr_aload {g : GG} {M : MI} {Z : ZZ} {lv : LV} {st : List Value} {pc : Nat} {σ : Hs} {post : Option Value → Hs → Prop} {i : Nat} {x : Nat} (k : Nat) (hk : lv[k]? = some (i, .ref x)) (hd : decode M.2.1 pc = .ok (.aload i, 2)) (kk : Fr g M Z lv (.ref x :: st) (pc + 2) σ post) : Fr g M Z lv (st) pc σ post := by
  intro p e s m args below meth c H locs ls ⟨hx, hb, hr, hlk, hml, hown, hnm, hts, hK, hR, hS, hl, hbs⟩
  exact lv_aload hx hb hd (lv_at hl k hk) (kk p e s m args below meth c H locs ls ⟨hx, hb, hr, hlk, hml, hown, hnm, hts, hK, hR, hS, hl, hbs⟩)
theorem fr_aload_nN {g : GG} {M : MI} {Z : ZZ} {lv : LV} {st : List Value} {pc : Nat} {σ : Hs} {post : Option Value → Hs → Prop} {j : Fin 4} {i : Nat} (k : Nat) (hk : lv[k]? = some (i, .null)) (hi : (j : Nat) = i) (hd : decode M.2.1 pc = .ok (.aload_n j, 1)) (kk : Fr g M Z lv (.null :: st) (pc + 1) σ post) : Fr g M Z lv (st) pc σ post := by
  intro p e s m args below meth c H locs ls ⟨hx, hb, hr, hlk, hml, hown, hnm, hts, hK, hR, hS, hl, hbs⟩
  exact lv_aload_nN hx hb hd hi (lv_at hl k hk) (kk p e s m args below meth c H locs ls ⟨hx, hb, hr, hlk, hml, hown, hnm, hts, hK, hR, hS, hl, hbs⟩)
theorem fr_aloadN {g : GG} {M : MI} {Z : ZZ} {lv : LV} {st : List Value} {pc : Nat} {σ : Hs} {post : Option Value → Hs → Prop} {i : Nat} (k : Nat) (hk : lv[k]? = some (i, .null)) (hd : decode M.2.1 pc = .ok (.aload i, 2)) (kk : Fr g M Z lv (.null :: st) (pc + 2) σ post) : Fr g M Z lv (st) pc σ post := by
  intro p e s m args below meth c H locs ls ⟨hx, hb, hr, hlk, hml, hown, hnm, hts, hK, hR, hS, hl, hbs⟩
  exact lv_aloadN hx hb hd (lv_at hl k hk) (kk p e s m args below meth c H locs ls ⟨hx, hb, hr, hlk, hml, hown, hnm, hts, hK, hR, hS, hl, hbs⟩)
theorem fr_istore_n {g : GG} {M : MI} {Z : ZZ} {lv : LV} {st : List Value} {pc : Nat} {σ : Hs} {post : Option Value → Hs → Prop} {lv' : LV} {i : Nat} {x : Int32} {j : Fin 4} (hi : (j : Nat) = i) (hn : i < M.2.2.1) (hl' : (i, Value.int x) :: lv.filter (fun q => !(q.1 == i) && !(q.1 + 1 == i && q.2.category == 2)) = lv') (hd : decode M.2.1 pc = .ok (.istore_n j, 1)) (kk : Fr g M Z lv' st (pc + 1) σ post) : Fr g M Z lv (.int x :: st) pc σ post := by
  intro p e s m args below meth c H locs ls ⟨hx, hb, hr, hlk, hml, hown, hnm, hts, hK, hR, hS, hl, hbs⟩
  exact lv_istore_n hx hb hd hi hl hn hl' (fun ls' h' => kk p e s m args below meth c H locs ls' ⟨hx, hb, hr, hlk, hml, hown, hnm, hts, hK, hR, hS, h', hbs⟩)
theorem fr_istore {g : GG} {M : MI} {Z : ZZ} {lv : LV} {st : List Value} {pc : Nat} {σ : Hs} {post : Option Value → Hs → Prop} {lv' : LV} {i : Nat} {x : Int32}  (hn : i < M.2.2.1) (hl' : (i, Value.int x) :: lv.filter (fun q => !(q.1 == i) && !(q.1 + 1 == i && q.2.category == 2)) = lv') (hd : decode M.2.1 pc = .ok (.istore i, 2)) (kk : Fr g M Z lv' st (pc + 2) σ post) : Fr g M Z lv (.int x :: st) pc σ post := by
  intro p e s m args below meth c H locs ls ⟨hx, hb, hr, hlk, hml, hown, hnm, hts, hK, hR, hS, hl, hbs⟩
  exact lv_istore hx hb hd hl hn hl' (fun ls' h' => kk p e s m args below meth c H locs ls' ⟨hx, hb, hr, hlk, hml, hown, hnm, hts, hK, hR, hS, h', hbs⟩)
theorem fr_lstore_n {g : GG} {M : MI} {Z : ZZ} {lv : LV} {st : List Value} {pc : Nat} {σ : Hs} {post : Option Value → Hs → Prop} {lv' : LV} {i : Nat} {x : Int64} {j : Fin 4} (hi : (j : Nat) = i) (hn : i + 1 < M.2.2.1) (hl' : (i, Value.long x) :: lv.filter (fun q => !(q.1 == i) && (!(q.1 == i + 1) && !(q.1 + 1 == i && q.2.category == 2))) = lv') (hd : decode M.2.1 pc = .ok (.lstore_n j, 1)) (kk : Fr g M Z lv' st (pc + 1) σ post) : Fr g M Z lv (.long x :: st) pc σ post := by
  intro p e s m args below meth c H locs ls ⟨hx, hb, hr, hlk, hml, hown, hnm, hts, hK, hR, hS, hl, hbs⟩
  exact lv_lstore_n hx hb hd hi hl hn hl' (fun ls' h' => kk p e s m args below meth c H locs ls' ⟨hx, hb, hr, hlk, hml, hown, hnm, hts, hK, hR, hS, h', hbs⟩)
theorem fr_lstore {g : GG} {M : MI} {Z : ZZ} {lv : LV} {st : List Value} {pc : Nat} {σ : Hs} {post : Option Value → Hs → Prop} {lv' : LV} {i : Nat} {x : Int64}  (hn : i + 1 < M.2.2.1) (hl' : (i, Value.long x) :: lv.filter (fun q => !(q.1 == i) && (!(q.1 == i + 1) && !(q.1 + 1 == i && q.2.category == 2))) = lv') (hd : decode M.2.1 pc = .ok (.lstore i, 2)) (kk : Fr g M Z lv' st (pc + 2) σ post) : Fr g M Z lv (.long x :: st) pc σ post := by
  intro p e s m args below meth c H locs ls ⟨hx, hb, hr, hlk, hml, hown, hnm, hts, hK, hR, hS, hl, hbs⟩
  exact lv_lstore hx hb hd hl hn hl' (fun ls' h' => kk p e s m args below meth c H locs ls' ⟨hx, hb, hr, hlk, hml, hown, hnm, hts, hK, hR, hS, h', hbs⟩)
theorem fr_astore_n {g : GG} {M : MI} {Z : ZZ} {lv : LV} {st : List Value} {pc : Nat} {σ : Hs} {post : Option Value → Hs → Prop} {lv' : LV} {i : Nat} {x : Nat} {j : Fin 4} (hi : (j : Nat) = i) (hn : i < M.2.2.1) (hl' : (i, Value.ref x) :: lv.filter (fun q => !(q.1 == i) && !(q.1 + 1 == i && q.2.category == 2)) = lv') (hd : decode M.2.1 pc = .ok (.astore_n j, 1)) (kk : Fr g M Z lv' st (pc + 1) σ post) : Fr g M Z lv (.ref x :: st) pc σ post := by
  intro p e s m args below meth c H locs ls ⟨hx, hb, hr, hlk, hml, hown, hnm, hts, hK, hR, hS, hl, hbs⟩
  exact lv_astore_n hx hb hd hi hl hn hl' (fun ls' h' => kk p e s m args below meth c H locs ls' ⟨hx, hb, hr, hlk, hml, hown, hnm, hts, hK, hR, hS, h', hbs⟩)
theorem fr_astore {g : GG} {M : MI} {Z : ZZ} {lv : LV} {st : List Value} {pc : Nat} {σ : Hs} {post : Option Value → Hs → Prop} {lv' : LV} {i : Nat} {x : Nat}  (hn : i < M.2.2.1) (hl' : (i, Value.ref x) :: lv.filter (fun q => !(q.1 == i) && !(q.1 + 1 == i && q.2.category == 2)) = lv') (hd : decode M.2.1 pc = .ok (.astore i, 2)) (kk : Fr g M Z lv' st (pc + 2) σ post) : Fr g M Z lv (.ref x :: st) pc σ post := by
  intro p e s m args below meth c H locs ls ⟨hx, hb, hr, hlk, hml, hown, hnm, hts, hK, hR, hS, hl, hbs⟩
  exact lv_astore hx hb hd hl hn hl' (fun ls' h' => kk p e s m args below meth c H locs ls' ⟨hx, hb, hr, hlk, hml, hown, hnm, hts, hK, hR, hS, h', hbs⟩)
theorem fr_astore_nN {g : GG} {M : MI} {Z : ZZ} {lv : LV} {st : List Value} {pc : Nat} {σ : Hs} {post : Option Value → Hs → Prop} {lv' : LV} {i : Nat}  {j : Fin 4} (hi : (j : Nat) = i) (hn : i < M.2.2.1) (hl' : (i, Value.null) :: lv.filter (fun q => !(q.1 == i) && !(q.1 + 1 == i && q.2.category == 2)) = lv') (hd : decode M.2.1 pc = .ok (.astore_n j, 1)) (kk : Fr g M Z lv' st (pc + 1) σ post) : Fr g M Z lv (.null :: st) pc σ post := by
  intro p e s m args below meth c H locs ls ⟨hx, hb, hr, hlk, hml, hown, hnm, hts, hK, hR, hS, hl, hbs⟩
  exact lv_astore_nN hx hb hd hi hl hn hl' (fun ls' h' => kk p e s m args below meth c H locs ls' ⟨hx, hb, hr, hlk, hml, hown, hnm, hts, hK, hR, hS, h', hbs⟩)
theorem fr_astoreN {g : GG} {M : MI} {Z : ZZ} {lv : LV} {st : List Value} {pc : Nat} {σ : Hs} {post : Option Value → Hs → Prop} {lv' : LV} {i : Nat}   (hn : i < M.2.2.1) (hl' : (i, Value.null) :: lv.filter (fun q => !(q.1 == i) && !(q.1 + 1 == i && q.2.category == 2)) = lv') (hd : decode M.2.1 pc = .ok (.astore i, 2)) (kk : Fr g M Z lv' st (pc + 2) σ post) : Fr g M Z lv (.null :: st) pc σ post := by
  intro p e s m args below meth c H locs ls ⟨hx, hb, hr, hlk, hml, hown, hnm, hts, hK, hR, hS, hl, hbs⟩
  exact lv_astoreN hx hb hd hl hn hl' (fun ls' h' => kk p e s m args below meth c H locs ls' ⟨hx, hb, hr, hlk, hml, hown, hnm, hts, hK, hR, hS, h', hbs⟩)
theorem fr_iinc {g : GG} {M : MI} {Z : ZZ} {lv : LV} {st : List Value} {pc : Nat} {σ : Hs} {post : Option Value → Hs → Prop} {lv' : LV} {i : Nat} {n : Int} {x : Int32} (v : Int32) (k : Nat) (hk : lv[k]? = some (i, .int x)) (hv : x + Int32.ofInt n = v) (hn : i < M.2.2.1) (hl' : (i, Value.int v) :: lv.filter (fun q => !(q.1 == i) && !(q.1 + 1 == i && q.2.category == 2)) = lv') (hd : decode M.2.1 pc = .ok (.iinc i n, 3)) (kk : Fr g M Z lv' st (pc + 3) σ post) : Fr g M Z lv st pc σ post := by
  intro p e s m args below meth c H locs ls ⟨hx, hb, hr, hlk, hml, hown, hnm, hts, hK, hR, hS, hl, hbs⟩
  exact lv_iinc hx hb hd hl hk hv hn hl' (fun ls' h' => kk p e s m args below meth c H locs ls' ⟨hx, hb, hr, hlk, hml, hown, hnm, hts, hK, hR, hS, h', hbs⟩)
theorem fr_iadd {g : GG} {M : MI} {Z : ZZ} {lv : LV} {st : List Value} {pc : Nat} {σ : Hs} {post : Option Value → Hs → Prop} {x y : Int32} (hd : decode M.2.1 pc = .ok (.iadd, 1)) (kk : Fr g M Z lv (.int (x + y) :: st) (pc + 1) σ post) : Fr g M Z lv (.int y :: .int x :: st) pc σ post := by
  intro p e s m args below meth c H locs ls ⟨hx, hb, hr, hlk, hml, hown, hnm, hts, hK, hR, hS, hl, hbs⟩
  exact lv_iadd hx hb hd (kk p e s m args below meth c H locs ls ⟨hx, hb, hr, hlk, hml, hown, hnm, hts, hK, hR, hS, hl, hbs⟩)
theorem fr_isub {g : GG} {M : MI} {Z : ZZ} {lv : LV} {st : List Value} {pc : Nat} {σ : Hs} {post : Option Value → Hs → Prop} {x y : Int32} (hd : decode M.2.1 pc = .ok (.isub, 1)) (kk : Fr g M Z lv (.int (x - y) :: st) (pc + 1) σ post) : Fr g M Z lv (.int y :: .int x :: st) pc σ post := by
  intro p e s m args below meth c H locs ls ⟨hx, hb, hr, hlk, hml, hown, hnm, hts, hK, hR, hS, hl, hbs⟩
  exact lv_isub hx hb hd (kk p e s m args below meth c H locs ls ⟨hx, hb, hr, hlk, hml, hown, hnm, hts, hK, hR, hS, hl, hbs⟩)
theorem fr_imul {g : GG} {M : MI} {Z : ZZ} {lv : LV} {st : List Value} {pc : Nat} {σ : Hs} {post : Option Value → Hs → Prop} {x y : Int32} (hd : decode M.2.1 pc = .ok (.imul, 1)) (kk : Fr g M Z lv (.int (x * y) :: st) (pc + 1) σ post) : Fr g M Z lv (.int y :: .int x :: st) pc σ post := by
  intro p e s m args below meth c H locs ls ⟨hx, hb, hr, hlk, hml, hown, hnm, hts, hK, hR, hS, hl, hbs⟩
  exact lv_imul hx hb hd (kk p e s m args below meth c H locs ls ⟨hx, hb, hr, hlk, hml, hown, hnm, hts, hK, hR, hS, hl, hbs⟩)
theorem fr_iand {g : GG} {M : MI} {Z : ZZ} {lv : LV} {st : List Value} {pc : Nat} {σ : Hs} {post : Option Value → Hs → Prop} {x y : Int32} (hd : decode M.2.1 pc = .ok (.iand, 1)) (kk : Fr g M Z lv (.int (x &&& y) :: st) (pc + 1) σ post) : Fr g M Z lv (.int y :: .int x :: st) pc σ post := by
  intro p e s m args below meth c H locs ls ⟨hx, hb, hr, hlk, hml, hown, hnm, hts, hK, hR, hS, hl, hbs⟩
  exact lv_iand hx hb hd (kk p e s m args below meth c H locs ls ⟨hx, hb, hr, hlk, hml, hown, hnm, hts, hK, hR, hS, hl, hbs⟩)
theorem fr_ior {g : GG} {M : MI} {Z : ZZ} {lv : LV} {st : List Value} {pc : Nat} {σ : Hs} {post : Option Value → Hs → Prop} {x y : Int32} (hd : decode M.2.1 pc = .ok (.ior, 1)) (kk : Fr g M Z lv (.int (x ||| y) :: st) (pc + 1) σ post) : Fr g M Z lv (.int y :: .int x :: st) pc σ post := by
  intro p e s m args below meth c H locs ls ⟨hx, hb, hr, hlk, hml, hown, hnm, hts, hK, hR, hS, hl, hbs⟩
  exact lv_ior hx hb hd (kk p e s m args below meth c H locs ls ⟨hx, hb, hr, hlk, hml, hown, hnm, hts, hK, hR, hS, hl, hbs⟩)
theorem fr_ixor {g : GG} {M : MI} {Z : ZZ} {lv : LV} {st : List Value} {pc : Nat} {σ : Hs} {post : Option Value → Hs → Prop} {x y : Int32} (hd : decode M.2.1 pc = .ok (.ixor, 1)) (kk : Fr g M Z lv (.int (x ^^^ y) :: st) (pc + 1) σ post) : Fr g M Z lv (.int y :: .int x :: st) pc σ post := by
  intro p e s m args below meth c H locs ls ⟨hx, hb, hr, hlk, hml, hown, hnm, hts, hK, hR, hS, hl, hbs⟩
  exact lv_ixor hx hb hd (kk p e s m args below meth c H locs ls ⟨hx, hb, hr, hlk, hml, hown, hnm, hts, hK, hR, hS, hl, hbs⟩)
theorem fr_ishl {g : GG} {M : MI} {Z : ZZ} {lv : LV} {st : List Value} {pc : Nat} {σ : Hs} {post : Option Value → Hs → Prop} {x y : Int32} (hd : decode M.2.1 pc = .ok (.ishl, 1)) (kk : Fr g M Z lv (.int (x <<< (y &&& 31)) :: st) (pc + 1) σ post) : Fr g M Z lv (.int y :: .int x :: st) pc σ post := by
  intro p e s m args below meth c H locs ls ⟨hx, hb, hr, hlk, hml, hown, hnm, hts, hK, hR, hS, hl, hbs⟩
  exact lv_ishl hx hb hd (kk p e s m args below meth c H locs ls ⟨hx, hb, hr, hlk, hml, hown, hnm, hts, hK, hR, hS, hl, hbs⟩)
theorem fr_ishr {g : GG} {M : MI} {Z : ZZ} {lv : LV} {st : List Value} {pc : Nat} {σ : Hs} {post : Option Value → Hs → Prop} {x y : Int32} (hd : decode M.2.1 pc = .ok (.ishr, 1)) (kk : Fr g M Z lv (.int (x >>> (y &&& 31)) :: st) (pc + 1) σ post) : Fr g M Z lv (.int y :: .int x :: st) pc σ post := by
  intro p e s m args below meth c H locs ls ⟨hx, hb, hr, hlk, hml, hown, hnm, hts, hK, hR, hS, hl, hbs⟩
  exact lv_ishr hx hb hd (kk p e s m args below meth c H locs ls ⟨hx, hb, hr, hlk, hml, hown, hnm, hts, hK, hR, hS, hl, hbs⟩)
theorem fr_idiv {g : GG} {M : MI} {Z : ZZ} {lv : LV} {st : List Value} {pc : Nat} {σ : Hs} {post : Option Value → Hs → Prop} {x y : Int32} (hne : ¬ y = 0) (hd : decode M.2.1 pc = .ok (.idiv, 1)) (kk : Fr g M Z lv (.int (x / y) :: st) (pc + 1) σ post) : Fr g M Z lv (.int y :: .int x :: st) pc σ post := by
  intro p e s m args below meth c H locs ls ⟨hx, hb, hr, hlk, hml, hown, hnm, hts, hK, hR, hS, hl, hbs⟩
  exact lv_idiv hx hb hd hne (kk p e s m args below meth c H locs ls ⟨hx, hb, hr, hlk, hml, hown, hnm, hts, hK, hR, hS, hl, hbs⟩)
theorem fr_ladd {g : GG} {M : MI} {Z : ZZ} {lv : LV} {st : List Value} {pc : Nat} {σ : Hs} {post : Option Value → Hs → Prop} {x y : Int64} (hd : decode M.2.1 pc = .ok (.ladd, 1)) (kk : Fr g M Z lv (.long (x + y) :: st) (pc + 1) σ post) : Fr g M Z lv (.long y :: .long x :: st) pc σ post := by
  intro p e s m args below meth c H locs ls ⟨hx, hb, hr, hlk, hml, hown, hnm, hts, hK, hR, hS, hl, hbs⟩
  exact lv_ladd hx hb hd (kk p e s m args below meth c H locs ls ⟨hx, hb, hr, hlk, hml, hown, hnm, hts, hK, hR, hS, hl, hbs⟩)
theorem fr_lsub {g : GG} {M : MI} {Z : ZZ} {lv : LV} {st : List Value} {pc : Nat} {σ : Hs} {post : Option Value → Hs → Prop} {x y : Int64} (hd : decode M.2.1 pc = .ok (.lsub, 1)) (kk : Fr g M Z lv (.long (x - y) :: st) (pc + 1) σ post) : Fr g M Z lv (.long y :: .long x :: st) pc σ post := by
  intro p e s m args below meth c H locs ls ⟨hx, hb, hr, hlk, hml, hown, hnm, hts, hK, hR, hS, hl, hbs⟩
  exact lv_lsub hx hb hd (kk p e s m args below meth c H locs ls ⟨hx, hb, hr, hlk, hml, hown, hnm, hts, hK, hR, hS, hl, hbs⟩)
theorem fr_lmul {g : GG} {M : MI} {Z : ZZ} {lv : LV} {st : List Value} {pc : Nat} {σ : Hs} {post : Option Value → Hs → Prop} {x y : Int64} (hd : decode M.2.1 pc = .ok (.lmul, 1)) (kk : Fr g M Z lv (.long (x * y) :: st) (pc + 1) σ post) : Fr g M Z lv (.long y :: .long x :: st) pc σ post := by
  intro p e s m args below meth c H locs ls ⟨hx, hb, hr, hlk, hml, hown, hnm, hts, hK, hR, hS, hl, hbs⟩
  exact lv_lmul hx hb hd (kk p e s m args below meth c H locs ls ⟨hx, hb, hr, hlk, hml, hown, hnm, hts, hK, hR, hS, hl, hbs⟩)
theorem fr_land {g : GG} {M : MI} {Z : ZZ} {lv : LV} {st : List Value} {pc : Nat} {σ : Hs} {post : Option Value → Hs → Prop} {x y : Int64} (hd : decode M.2.1 pc = .ok (.land, 1)) (kk : Fr g M Z lv (.long (x &&& y) :: st) (pc + 1) σ post) : Fr g M Z lv (.long y :: .long x :: st) pc σ post := by
  intro p e s m args below meth c H locs ls ⟨hx, hb, hr, hlk, hml, hown, hnm, hts, hK, hR, hS, hl, hbs⟩
  exact lv_land hx hb hd (kk p e s m args below meth c H locs ls ⟨hx, hb, hr, hlk, hml, hown, hnm, hts, hK, hR, hS, hl, hbs⟩)
theorem fr_lor {g : GG} {M : MI} {Z : ZZ} {lv : LV} {st : List Value} {pc : Nat} {σ : Hs} {post : Option Value → Hs → Prop} {x y : Int64} (hd : decode M.2.1 pc = .ok (.lor, 1)) (kk : Fr g M Z lv (.long (x ||| y) :: st) (pc + 1) σ post) : Fr g M Z lv (.long y :: .long x :: st) pc σ post := by
  intro p e s m args below meth c H locs ls ⟨hx, hb, hr, hlk, hml, hown, hnm, hts, hK, hR, hS, hl, hbs⟩
  exact lv_lor hx hb hd (kk p e s m args below meth c H locs ls ⟨hx, hb, hr, hlk, hml, hown, hnm, hts, hK, hR, hS, hl, hbs⟩)
theorem fr_lxor {g : GG} {M : MI} {Z : ZZ} {lv : LV} {st : List Value} {pc : Nat} {σ : Hs} {post : Option Value → Hs → Prop} {x y : Int64} (hd : decode M.2.1 pc = .ok (.lxor, 1)) (kk : Fr g M Z lv (.long (x ^^^ y) :: st) (pc + 1) σ post) : Fr g M Z lv (.long y :: .long x :: st) pc σ post := by
  intro p e s m args below meth c H locs ls ⟨hx, hb, hr, hlk, hml, hown, hnm, hts, hK, hR, hS, hl, hbs⟩
  exact lv_lxor hx hb hd (kk p e s m args below meth c H locs ls ⟨hx, hb, hr, hlk, hml, hown, hnm, hts, hK, hR, hS, hl, hbs⟩)
theorem fr_ldiv {g : GG} {M : MI} {Z : ZZ} {lv : LV} {st : List Value} {pc : Nat} {σ : Hs} {post : Option Value → Hs → Prop} {x y : Int64} (hne : ¬ y = 0) (hd : decode M.2.1 pc = .ok (.ldiv, 1)) (kk : Fr g M Z lv (.long (x / y) :: st) (pc + 1) σ post) : Fr g M Z lv (.long y :: .long x :: st) pc σ post := by
  intro p e s m args below meth c H locs ls ⟨hx, hb, hr, hlk, hml, hown, hnm, hts, hK, hR, hS, hl, hbs⟩
  exact lv_ldiv hx hb hd hne (kk p e s m args below meth c H locs ls ⟨hx, hb, hr, hlk, hml, hown, hnm, hts, hK, hR, hS, hl, hbs⟩)
theorem fr_iushr {g : GG} {M : MI} {Z : ZZ} {lv : LV} {st : List Value} {pc : Nat} {σ : Hs} {post : Option Value → Hs → Prop} {x y : Int32} (hd : decode M.2.1 pc = .ok (.iushr, 1)) (kk : Fr g M Z lv (.int ((x.toUInt32 >>> (y.toUInt32 &&& Int32.toUInt32 31)).toInt32) :: st) (pc + 1) σ post) : Fr g M Z lv (.int y :: .int x :: st) pc σ post := by
  intro p e s m args below meth c H locs ls ⟨hx, hb, hr, hlk, hml, hown, hnm, hts, hK, hR, hS, hl, hbs⟩
  exact lv_iushr hx hb hd rfl (kk p e s m args below meth c H locs ls ⟨hx, hb, hr, hlk, hml, hown, hnm, hts, hK, hR, hS, hl, hbs⟩)
theorem fr_lushr {g : GG} {M : MI} {Z : ZZ} {lv : LV} {st : List Value} {pc : Nat} {σ : Hs} {post : Option Value → Hs → Prop} {x : Int64} {y : Int32} (hd : decode M.2.1 pc = .ok (.lushr, 1)) (kk : Fr g M Z lv (.long ((x.toUInt64 >>> (y.toInt64.toUInt64 &&& Int64.toUInt64 63)).toInt64) :: st) (pc + 1) σ post) : Fr g M Z lv (.int y :: .long x :: st) pc σ post := by
  intro p e s m args below meth c H locs ls ⟨hx, hb, hr, hlk, hml, hown, hnm, hts, hK, hR, hS, hl, hbs⟩
  exact lv_lushr hx hb hd rfl (kk p e s m args below meth c H locs ls ⟨hx, hb, hr, hlk, hml, hown, hnm, hts, hK, hR, hS, hl, hbs⟩)
theorem fr_lshl {g : GG} {M : MI} {Z : ZZ} {lv : LV} {st : List Value} {pc : Nat} {σ : Hs} {post : Option Value → Hs → Prop} {x : Int64} {y : Int32} (hd : decode M.2.1 pc = .ok (.lshl, 1)) (kk : Fr g M Z lv (.long (x <<< (y.toInt64 &&& 63)) :: st) (pc + 1) σ post) : Fr g M Z lv (.int y :: .long x :: st) pc σ post := by
  intro p e s m args below meth c H locs ls ⟨hx, hb, hr, hlk, hml, hown, hnm, hts, hK, hR, hS, hl, hbs⟩
  exact lv_lshl hx hb hd rfl (kk p e s m args below meth c H locs ls ⟨hx, hb, hr, hlk, hml, hown, hnm, hts, hK, hR, hS, hl, hbs⟩)
theorem fr_lshr {g : GG} {M : MI} {Z : ZZ} {lv : LV} {st : List Value} {pc : Nat} {σ : Hs} {post : Option Value → Hs → Prop} {x : Int64} {y : Int32} (hd : decode M.2.1 pc = .ok (.lshr, 1)) (kk : Fr g M Z lv (.long (x >>> (y.toInt64 &&& 63)) :: st) (pc + 1) σ post) : Fr g M Z lv (.int y :: .long x :: st) pc σ post := by
  intro p e s m args below meth c H locs ls ⟨hx, hb, hr, hlk, hml, hown, hnm, hts, hK, hR, hS, hl, hbs⟩
  exact lv_lshr hx hb hd rfl (kk p e s m args below meth c H locs ls ⟨hx, hb, hr, hlk, hml, hown, hnm, hts, hK, hR, hS, hl, hbs⟩)
theorem fr_i2l {g : GG} {M : MI} {Z : ZZ} {lv : LV} {st : List Value} {pc : Nat} {σ : Hs} {post : Option Value → Hs → Prop} {x : Int32} (hd : decode M.2.1 pc = .ok (.i2l, 1)) (kk : Fr g M Z lv (.long x.toInt64 :: st) (pc + 1) σ post) : Fr g M Z lv (.int x :: st) pc σ post := by
  intro p e s m args below meth c H locs ls ⟨hx, hb, hr, hlk, hml, hown, hnm, hts, hK, hR, hS, hl, hbs⟩
  exact lv_i2l hx hb hd rfl (kk p e s m args below meth c H locs ls ⟨hx, hb, hr, hlk, hml, hown, hnm, hts, hK, hR, hS, hl, hbs⟩)
theorem fr_l2i {g : GG} {M : MI} {Z : ZZ} {lv : LV} {st : List Value} {pc : Nat} {σ : Hs} {post : Option Value → Hs → Prop} {x : Int64} (hd : decode M.2.1 pc = .ok (.l2i, 1)) (kk : Fr g M Z lv (.int x.toInt32 :: st) (pc + 1) σ post) : Fr g M Z lv (.long x :: st) pc σ post := by
  intro p e s m args below meth c H locs ls ⟨hx, hb, hr, hlk, hml, hown, hnm, hts, hK, hR, hS, hl, hbs⟩
  exact lv_l2i hx hb hd rfl (kk p e s m args below meth c H locs ls ⟨hx, hb, hr, hlk, hml, hown, hnm, hts, hK, hR, hS, hl, hbs⟩)
theorem fr_i2b {g : GG} {M : MI} {Z : ZZ} {lv : LV} {st : List Value} {pc : Nat} {σ : Hs} {post : Option Value → Hs → Prop} {x : Int32} (hd : decode M.2.1 pc = .ok (.i2b, 1)) (kk : Fr g M Z lv (.int x.toInt8.toInt32 :: st) (pc + 1) σ post) : Fr g M Z lv (.int x :: st) pc σ post := by
  intro p e s m args below meth c H locs ls ⟨hx, hb, hr, hlk, hml, hown, hnm, hts, hK, hR, hS, hl, hbs⟩
  exact lv_i2b hx hb hd rfl (kk p e s m args below meth c H locs ls ⟨hx, hb, hr, hlk, hml, hown, hnm, hts, hK, hR, hS, hl, hbs⟩)
theorem fr_lcmp {g : GG} {M : MI} {Z : ZZ} {lv : LV} {st : List Value} {pc : Nat} {σ : Hs} {post : Option Value → Hs → Prop} {x y : Int64} (hd : decode M.2.1 pc = .ok (.lcmp, 1)) (kk : Fr g M Z lv (.int (lg_cmp x y) :: st) (pc + 1) σ post) : Fr g M Z lv (.long y :: .long x :: st) pc σ post := by
  intro p e s m args below meth c H locs ls ⟨hx, hb, hr, hlk, hml, hown, hnm, hts, hK, hR, hS, hl, hbs⟩
  exact W.lcmp hx hb hd (kk p e s m args below meth c H locs ls ⟨hx, hb, hr, hlk, hml, hown, hnm, hts, hK, hR, hS, hl, hbs⟩)
theorem fr_dup {g : GG} {M : MI} {Z : ZZ} {lv : LV} {st : List Value} {pc : Nat} {σ : Hs} {post : Option Value → Hs → Prop} {v : Value} (hv : v.category = 1) (hd : decode M.2.1 pc = .ok (.dup, 1)) (kk : Fr g M Z lv (v :: v :: st) (pc + 1) σ post) : Fr g M Z lv (v :: st) pc σ post := by
  intro p e s m args below meth c H locs ls ⟨hx, hb, hr, hlk, hml, hown, hnm, hts, hK, hR, hS, hl, hbs⟩
  exact lv_dup hx hb hd hv (kk p e s m args below meth c H locs ls ⟨hx, hb, hr, hlk, hml, hown, hnm, hts, hK, hR, hS, hl, hbs⟩)
theorem fr_dup2 {g : GG} {M : MI} {Z : ZZ} {lv : LV} {st : List Value} {pc : Nat} {σ : Hs} {post : Option Value → Hs → Prop} {v u : Value} (hv : v.category = 1) (hu : u.category = 1) (hd : decode M.2.1 pc = .ok (.dup2, 1)) (kk : Fr g M Z lv (v :: u :: v :: u :: st) (pc + 1) σ post) : Fr g M Z lv (v :: u :: st) pc σ post := by
  intro p e s m args below meth c H locs ls ⟨hx, hb, hr, hlk, hml, hown, hnm, hts, hK, hR, hS, hl, hbs⟩
  exact lv_dup2_11 hx hb hd hv hu (kk p e s m args below meth c H locs ls ⟨hx, hb, hr, hlk, hml, hown, hnm, hts, hK, hR, hS, hl, hbs⟩)
theorem fr_irem {g : GG} {M : MI} {Z : ZZ} {lv : LV} {st : List Value} {pc : Nat} {σ : Hs} {post : Option Value → Hs → Prop} {x y : Int32} (hne : ¬ y = 0) (hd : decode M.2.1 pc = .ok (.irem, 1)) (kk : Fr g M Z lv (.int (x - x / y * y) :: st) (pc + 1) σ post) : Fr g M Z lv (.int y :: .int x :: st) pc σ post := by
  intro p e s m args below meth c H locs ls ⟨hx, hb, hr, hlk, hml, hown, hnm, hts, hK, hR, hS, hl, hbs⟩
  exact lv_irem hx hb hd hne (kk p e s m args below meth c H locs ls ⟨hx, hb, hr, hlk, hml, hown, hnm, hts, hK, hR, hS, hl, hbs⟩)
theorem fr_if_eq {g : GG} {M : MI} {Z : ZZ} {lv : LV} {st : List Value} {pc : Nat} {σ : Hs} {post : Option Value → Hs → Prop} {x : Int32} {off : Int} {tgt : Nat} {φ ψ : Prop} (ht : (pc : Int) + off = (tgt : Int)) (hd : decode M.2.1 pc = .ok (.ifCond .eq off, 3)) (hW : (x = 0 → φ) ∧ (¬ x = 0 → ψ)) (kt : φ → Fr g M Z lv st tgt σ post) (kf : ψ → Fr g M Z lv st (pc + 3) σ post) : Fr g M Z lv (.int x :: st) pc σ post := by
  intro p e s m args below meth c H locs ls ⟨hx, hb, hr, hlk, hml, hown, hnm, hts, hK, hR, hS, hl, hbs⟩
  exact lv_if_eq hx hb hd ht (fun h => kt (hW.1 h) p e s m args below meth c H locs ls ⟨hx, hb, hr, hlk, hml, hown, hnm, hts, hK, hR, hS, hl, hbs⟩) (fun h => kf (hW.2 h) p e s m args below meth c H locs ls ⟨hx, hb, hr, hlk, hml, hown, hnm, hts, hK, hR, hS, hl, hbs⟩)
theorem fr_icmp_eq {g : GG} {M : MI} {Z : ZZ} {lv : LV} {st : List Value} {pc : Nat} {σ : Hs} {post : Option Value → Hs → Prop} {x y : Int32} {off : Int} {tgt : Nat} {φ ψ : Prop} (ht : (pc : Int) + off = (tgt : Int)) (hd : decode M.2.1 pc = .ok (.if_icmp .eq off, 3)) (hW : (x = y → φ) ∧ (¬ x = y → ψ)) (kt : φ → Fr g M Z lv st tgt σ post) (kf : ψ → Fr g M Z lv st (pc + 3) σ post) : Fr g M Z lv (.int y :: .int x :: st) pc σ post := by
  intro p e s m args below meth c H locs ls ⟨hx, hb, hr, hlk, hml, hown, hnm, hts, hK, hR, hS, hl, hbs⟩
  exact lv_icmp_eq hx hb hd ht (fun h => kt (hW.1 h) p e s m args below meth c H locs ls ⟨hx, hb, hr, hlk, hml, hown, hnm, hts, hK, hR, hS, hl, hbs⟩) (fun h => kf (hW.2 h) p e s m args below meth c H locs ls ⟨hx, hb, hr, hlk, hml, hown, hnm, hts, hK, hR, hS, hl, hbs⟩)
theorem fr_if_ne {g : GG} {M : MI} {Z : ZZ} {lv : LV} {st : List Value} {pc : Nat} {σ : Hs} {post : Option Value → Hs → Prop} {x : Int32} {off : Int} {tgt : Nat} {φ ψ : Prop} (ht : (pc : Int) + off = (tgt : Int)) (hd : decode M.2.1 pc = .ok (.ifCond .ne off, 3)) (hW : (¬ x = 0 → φ) ∧ (x = 0 → ψ)) (kt : φ → Fr g M Z lv st tgt σ post) (kf : ψ → Fr g M Z lv st (pc + 3) σ post) : Fr g M Z lv (.int x :: st) pc σ post := by
  intro p e s m args below meth c H locs ls ⟨hx, hb, hr, hlk, hml, hown, hnm, hts, hK, hR, hS, hl, hbs⟩
  exact lv_if_ne hx hb hd ht (fun h => kt (hW.1 h) p e s m args below meth c H locs ls ⟨hx, hb, hr, hlk, hml, hown, hnm, hts, hK, hR, hS, hl, hbs⟩) (fun h => kf (hW.2 h) p e s m args below meth c H locs ls ⟨hx, hb, hr, hlk, hml, hown, hnm, hts, hK, hR, hS, hl, hbs⟩)
theorem fr_icmp_ne {g : GG} {M : MI} {Z : ZZ} {lv : LV} {st : List Value} {pc : Nat} {σ : Hs} {post : Option Value → Hs → Prop} {x y : Int32} {off : Int} {tgt : Nat} {φ ψ : Prop} (ht : (pc : Int) + off = (tgt : Int)) (hd : decode M.2.1 pc = .ok (.if_icmp .ne off, 3)) (hW : (¬ x = y → φ) ∧ (x = y → ψ)) (kt : φ → Fr g M Z lv st tgt σ post) (kf : ψ → Fr g M Z lv st (pc + 3) σ post) : Fr g M Z lv (.int y :: .int x :: st) pc σ post := by
  intro p e s m args below meth c H locs ls ⟨hx, hb, hr, hlk, hml, hown, hnm, hts, hK, hR, hS, hl, hbs⟩
  exact lv_icmp_ne hx hb hd ht (fun h => kt (hW.1 h) p e s m args below meth c H locs ls ⟨hx, hb, hr, hlk, hml, hown, hnm, hts, hK, hR, hS, hl, hbs⟩) (fun h => kf (hW.2 h) p e s m args below meth c H locs ls ⟨hx, hb, hr, hlk, hml, hown, hnm, hts, hK, hR, hS, hl, hbs⟩)
theorem fr_if_lt {g : GG} {M : MI} {Z : ZZ} {lv : LV} {st : List Value} {pc : Nat} {σ : Hs} {post : Option Value → Hs → Prop} {x : Int32} {off : Int} {tgt : Nat} {φ ψ : Prop} (ht : (pc : Int) + off = (tgt : Int)) (hd : decode M.2.1 pc = .ok (.ifCond .lt off, 3)) (hW : (x < 0 → φ) ∧ (¬ x < 0 → ψ)) (kt : φ → Fr g M Z lv st tgt σ post) (kf : ψ → Fr g M Z lv st (pc + 3) σ post) : Fr g M Z lv (.int x :: st) pc σ post := by
  intro p e s m args below meth c H locs ls ⟨hx, hb, hr, hlk, hml, hown, hnm, hts, hK, hR, hS, hl, hbs⟩
  exact lv_if_lt hx hb hd ht (fun h => kt (hW.1 h) p e s m args below meth c H locs ls ⟨hx, hb, hr, hlk, hml, hown, hnm, hts, hK, hR, hS, hl, hbs⟩) (fun h => kf (hW.2 h) p e s m args below meth c H locs ls ⟨hx, hb, hr, hlk, hml, hown, hnm, hts, hK, hR, hS, hl, hbs⟩)
theorem fr_icmp_lt {g : GG} {M : MI} {Z : ZZ} {lv : LV} {st : List Value} {pc : Nat} {σ : Hs} {post : Option Value → Hs → Prop} {x y : Int32} {off : Int} {tgt : Nat} {φ ψ : Prop} (ht : (pc : Int) + off = (tgt : Int)) (hd : decode M.2.1 pc = .ok (.if_icmp .lt off, 3)) (hW : (x < y → φ) ∧ (¬ x < y → ψ)) (kt : φ → Fr g M Z lv st tgt σ post) (kf : ψ → Fr g M Z lv st (pc + 3) σ post) : Fr g M Z lv (.int y :: .int x :: st) pc σ post := by
  intro p e s m args below meth c H locs ls ⟨hx, hb, hr, hlk, hml, hown, hnm, hts, hK, hR, hS, hl, hbs⟩
  exact lv_icmp_lt hx hb hd ht (fun h => kt (hW.1 h) p e s m args below meth c H locs ls ⟨hx, hb, hr, hlk, hml, hown, hnm, hts, hK, hR, hS, hl, hbs⟩) (fun h => kf (hW.2 h) p e s m args below meth c H locs ls ⟨hx, hb, hr, hlk, hml, hown, hnm, hts, hK, hR, hS, hl, hbs⟩)
theorem fr_if_ge {g : GG} {M : MI} {Z : ZZ} {lv : LV} {st : List Value} {pc : Nat} {σ : Hs} {post : Option Value → Hs → Prop} {x : Int32} {off : Int} {tgt : Nat} {φ ψ : Prop} (ht : (pc : Int) + off = (tgt : Int)) (hd : decode M.2.1 pc = .ok (.ifCond .ge off, 3)) (hW : (0 ≤ x → φ) ∧ (¬ 0 ≤ x → ψ)) (kt : φ → Fr g M Z lv st tgt σ post) (kf : ψ → Fr g M Z lv st (pc + 3) σ post) : Fr g M Z lv (.int x :: st) pc σ post := by
  intro p e s m args below meth c H locs ls ⟨hx, hb, hr, hlk, hml, hown, hnm, hts, hK, hR, hS, hl, hbs⟩
  exact lv_if_ge hx hb hd ht (fun h => kt (hW.1 h) p e s m args below meth c H locs ls ⟨hx, hb, hr, hlk, hml, hown, hnm, hts, hK, hR, hS, hl, hbs⟩) (fun h => kf (hW.2 h) p e s m args below meth c H locs ls ⟨hx, hb, hr, hlk, hml, hown, hnm, hts, hK, hR, hS, hl, hbs⟩)
theorem fr_icmp_ge {g : GG} {M : MI} {Z : ZZ} {lv : LV} {st : List Value} {pc : Nat} {σ : Hs} {post : Option Value → Hs → Prop} {x y : Int32} {off : Int} {tgt : Nat} {φ ψ : Prop} (ht : (pc : Int) + off = (tgt : Int)) (hd : decode M.2.1 pc = .ok (.if_icmp .ge off, 3)) (hW : (y ≤ x → φ) ∧ (¬ y ≤ x → ψ)) (kt : φ → Fr g M Z lv st tgt σ post) (kf : ψ → Fr g M Z lv st (pc + 3) σ post) : Fr g M Z lv (.int y :: .int x :: st) pc σ post := by
  intro p e s m args below meth c H locs ls ⟨hx, hb, hr, hlk, hml, hown, hnm, hts, hK, hR, hS, hl, hbs⟩
  exact lv_icmp_ge hx hb hd ht (fun h => kt (hW.1 h) p e s m args below meth c H locs ls ⟨hx, hb, hr, hlk, hml, hown, hnm, hts, hK, hR, hS, hl, hbs⟩) (fun h => kf (hW.2 h) p e s m args below meth c H locs ls ⟨hx, hb, hr, hlk, hml, hown, hnm, hts, hK, hR, hS, hl, hbs⟩)
theorem fr_if_gt {g : GG} {M : MI} {Z : ZZ} {lv : LV} {st : List Value} {pc : Nat} {σ : Hs} {post : Option Value → Hs → Prop} {x : Int32} {off : Int} {tgt : Nat} {φ ψ : Prop} (ht : (pc : Int) + off = (tgt : Int)) (hd : decode M.2.1 pc = .ok (.ifCond .gt off, 3)) (hW : (0 < x → φ) ∧ (¬ 0 < x → ψ)) (kt : φ → Fr g M Z lv st tgt σ post) (kf : ψ → Fr g M Z lv st (pc + 3) σ post) : Fr g M Z lv (.int x :: st) pc σ post := by
  intro p e s m args below meth c H locs ls ⟨hx, hb, hr, hlk, hml, hown, hnm, hts, hK, hR, hS, hl, hbs⟩
  exact lv_if_gt hx hb hd ht (fun h => kt (hW.1 h) p e s m args below meth c H locs ls ⟨hx, hb, hr, hlk, hml, hown, hnm, hts, hK, hR, hS, hl, hbs⟩) (fun h => kf (hW.2 h) p e s m args below meth c H locs ls ⟨hx, hb, hr, hlk, hml, hown, hnm, hts, hK, hR, hS, hl, hbs⟩)
theorem fr_icmp_gt {g : GG} {M : MI} {Z : ZZ} {lv : LV} {st : List Value} {pc : Nat} {σ : Hs} {post : Option Value → Hs → Prop} {x y : Int32} {off : Int} {tgt : Nat} {φ ψ : Prop} (ht : (pc : Int) + off = (tgt : Int)) (hd : decode M.2.1 pc = .ok (.if_icmp .gt off, 3)) (hW : (y < x → φ) ∧ (¬ y < x → ψ)) (kt : φ → Fr g M Z lv st tgt σ post) (kf : ψ → Fr g M Z lv st (pc + 3) σ post) : Fr g M Z lv (.int y :: .int x :: st) pc σ post := by
  intro p e s m args below meth c H locs ls ⟨hx, hb, hr, hlk, hml, hown, hnm, hts, hK, hR, hS, hl, hbs⟩
  exact lv_icmp_gt hx hb hd ht (fun h => kt (hW.1 h) p e s m args below meth c H locs ls ⟨hx, hb, hr, hlk, hml, hown, hnm, hts, hK, hR, hS, hl, hbs⟩) (fun h => kf (hW.2 h) p e s m args below meth c H locs ls ⟨hx, hb, hr, hlk, hml, hown, hnm, hts, hK, hR, hS, hl, hbs⟩)
theorem fr_if_le {g : GG} {M : MI} {Z : ZZ} {lv : LV} {st : List Value} {pc : Nat} {σ : Hs} {post : Option Value → Hs → Prop} {x : Int32} {off : Int} {tgt : Nat} {φ ψ : Prop} (ht : (pc : Int) + off = (tgt : Int)) (hd : decode M.2.1 pc = .ok (.ifCond .le off, 3)) (hW : (x ≤ 0 → φ) ∧ (¬ x ≤ 0 → ψ)) (kt : φ → Fr g M Z lv st tgt σ post) (kf : ψ → Fr g M Z lv st (pc + 3) σ post) : Fr g M Z lv (.int x :: st) pc σ post := by
  intro p e s m args below meth c H locs ls ⟨hx, hb, hr, hlk, hml, hown, hnm, hts, hK, hR, hS, hl, hbs⟩
  exact lv_if_le hx hb hd ht (fun h => kt (hW.1 h) p e s m args below meth c H locs ls ⟨hx, hb, hr, hlk, hml, hown, hnm, hts, hK, hR, hS, hl, hbs⟩) (fun h => kf (hW.2 h) p e s m args below meth c H locs ls ⟨hx, hb, hr, hlk, hml, hown, hnm, hts, hK, hR, hS, hl, hbs⟩)
theorem fr_icmp_le {g : GG} {M : MI} {Z : ZZ} {lv : LV} {st : List Value} {pc : Nat} {σ : Hs} {post : Option Value → Hs → Prop} {x y : Int32} {off : Int} {tgt : Nat} {φ ψ : Prop} (ht : (pc : Int) + off = (tgt : Int)) (hd : decode M.2.1 pc = .ok (.if_icmp .le off, 3)) (hW : (x ≤ y → φ) ∧ (¬ x ≤ y → ψ)) (kt : φ → Fr g M Z lv st tgt σ post) (kf : ψ → Fr g M Z lv st (pc + 3) σ post) : Fr g M Z lv (.int y :: .int x :: st) pc σ post := by
  intro p e s m args below meth c H locs ls ⟨hx, hb, hr, hlk, hml, hown, hnm, hts, hK, hR, hS, hl, hbs⟩
  exact lv_icmp_le hx hb hd ht (fun h => kt (hW.1 h) p e s m args below meth c H locs ls ⟨hx, hb, hr, hlk, hml, hown, hnm, hts, hK, hR, hS, hl, hbs⟩) (fun h => kf (hW.2 h) p e s m args below meth c H locs ls ⟨hx, hb, hr, hlk, hml, hown, hnm, hts, hK, hR, hS, hl, hbs⟩)
theorem fr_goto {g : GG} {M : MI} {Z : ZZ} {lv : LV} {st : List Value} {pc : Nat} {σ : Hs} {post : Option Value → Hs → Prop} {off : Int} {tgt : Nat} (ht : (pc : Int) + off = (tgt : Int)) (hd : decode M.2.1 pc = .ok (.goto off, 3)) (kk : Fr g M Z lv st tgt σ post) : Fr g M Z lv st pc σ post := by
  intro p e s m args below meth c H locs ls ⟨hx, hb, hr, hlk, hml, hown, hnm, hts, hK, hR, hS, hl, hbs⟩
  exact lv_goto hx hb hd ht (kk p e s m args below meth c H locs ls ⟨hx, hb, hr, hlk, hml, hown, hnm, hts, hK, hR, hS, hl, hbs⟩)
theorem fr_ifnull {g : GG} {M : MI} {Z : ZZ} {lv : LV} {st : List Value} {pc : Nat} {σ : Hs} {post : Option Value → Hs → Prop} {x : Nat} {off : Int} (hd : decode M.2.1 pc = .ok (.ifnull off, 3)) (kk : Fr g M Z lv st (pc + 3) σ post) : Fr g M Z lv (.ref x :: st) pc σ post := by
  intro p e s m args below meth c H locs ls ⟨hx, hb, hr, hlk, hml, hown, hnm, hts, hK, hR, hS, hl, hbs⟩
  exact lv_ifnull hx hb hd (kk p e s m args below meth c H locs ls ⟨hx, hb, hr, hlk, hml, hown, hnm, hts, hK, hR, hS, hl, hbs⟩)
theorem fr_ifnullN {g : GG} {M : MI} {Z : ZZ} {lv : LV} {st : List Value} {pc : Nat} {σ : Hs} {post : Option Value → Hs → Prop} {off : Int} {tgt : Nat} (ht : (pc : Int) + off = (tgt : Int)) (hd : decode M.2.1 pc = .ok (.ifnull off, 3)) (kk : Fr g M Z lv st tgt σ post) : Fr g M Z lv (.null :: st) pc σ post := by
  intro p e s m args below meth c H locs ls ⟨hx, hb, hr, hlk, hml, hown, hnm, hts, hK, hR, hS, hl, hbs⟩
  exact lv_ifnullN hx hb hd ht (kk p e s m args below meth c H locs ls ⟨hx, hb, hr, hlk, hml, hown, hnm, hts, hK, hR, hS, hl, hbs⟩)
theorem fr_ifnonnull {g : GG} {M : MI} {Z : ZZ} {lv : LV} {st : List Value} {pc : Nat} {σ : Hs} {post : Option Value → Hs → Prop} {x : Nat} {off : Int} {tgt : Nat} (ht : (pc : Int) + off = (tgt : Int)) (hd : decode M.2.1 pc = .ok (.ifnonnull off, 3)) (kk : Fr g M Z lv st tgt σ post) : Fr g M Z lv (.ref x :: st) pc σ post := by
  intro p e s m args below meth c H locs ls ⟨hx, hb, hr, hlk, hml, hown, hnm, hts, hK, hR, hS, hl, hbs⟩
  exact lv_ifnonnull hx hb hd ht (kk p e s m args below meth c H locs ls ⟨hx, hb, hr, hlk, hml, hown, hnm, hts, hK, hR, hS, hl, hbs⟩)
theorem fr_ifnonnullN {g : GG} {M : MI} {Z : ZZ} {lv : LV} {st : List Value} {pc : Nat} {σ : Hs} {post : Option Value → Hs → Prop} {off : Int} (hd : decode M.2.1 pc = .ok (.ifnonnull off, 3)) (kk : Fr g M Z lv st (pc + 3) σ post) : Fr g M Z lv (.null :: st) pc σ post := by
  intro p e s m args below meth c H locs ls ⟨hx, hb, hr, hlk, hml, hown, hnm, hts, hK, hR, hS, hl, hbs⟩
  exact lv_ifnonnullN hx hb hd (kk p e s m args below meth c H locs ls ⟨hx, hb, hr, hlk, hml, hown, hnm, hts, hK, hR, hS, hl, hbs⟩)
theorem fr_switchOut {g : GG} {M : MI} {Z : ZZ} {lv : LV} {st : List Value} {pc : Nat} {σ : Hs} {post : Option Value → Hs → Prop} {dflt lo hi : Int} {offs : Array Int} {len tgt : Nat} {x : Int32} (hd : decode M.2.1 pc = .ok (.tableswitch dflt lo hi offs, len)) (h : x.toInt < lo ∨ hi < x.toInt) (ht : (pc : Int) + dflt = (tgt : Int)) (kk : Fr g M Z lv st tgt σ post) : Fr g M Z lv (.int x :: st) pc σ post := by
  intro p e s m args below meth c H locs ls ⟨hx, hb, hr, hlk, hml, hown, hnm, hts, hK, hR, hS, hl, hbs⟩
  exact lv_tableOut hx hb hd h ht (kk p e s m args below meth c H locs ls ⟨hx, hb, hr, hlk, hml, hown, hnm, hts, hK, hR, hS, hl, hbs⟩)
theorem fr_switchIn {g : GG} {M : MI} {Z : ZZ} {lv : LV} {st : List Value} {pc : Nat} {σ : Hs} {post : Option Value → Hs → Prop} {dflt lo hi off : Int} {offs : Array Int} {len tgt : Nat} {x : Int32} (hd : decode M.2.1 pc = .ok (.tableswitch dflt lo hi offs, len)) (h1 : ¬ x.toInt < lo) (h2 : ¬ hi < x.toInt) (ho : offs[(x.toInt - lo).toNat]? = some off) (ht : (pc : Int) + off = (tgt : Int)) (kk : Fr g M Z lv st tgt σ post) : Fr g M Z lv (.int x :: st) pc σ post := by
  intro p e s m args below meth c H locs ls ⟨hx, hb, hr, hlk, hml, hown, hnm, hts, hK, hR, hS, hl, hbs⟩
  exact lv_tableIn hx hb hd h1 h2 ho ht (kk p e s m args below meth c H locs ls ⟨hx, hb, hr, hlk, hml, hown, hnm, hts, hK, hR, hS, hl, hbs⟩)
theorem fr_ldc {g : GG} {M : MI} {Z : ZZ} {lv : LV} {st : List Value} {pc : Nat} {σ : Hs} {post : Option Value → Hs → Prop} {idx : Nat} {v : Int32} (hw : Cond.constant M.1.cls idx v ∈ wsL_law) (hd : decode M.2.1 pc = .ok (.ldc idx, 2)) (kk : Fr g M Z lv (.int v :: st) (pc + 2) σ post) : Fr g M Z lv st pc σ post := by
  intro p e s m args below meth c H locs ls ⟨hx, hb, hr, hlk, hml, hown, hnm, hts, hK, hR, hS, hl, hbs⟩
  exact lv_ldc hx hb hown (hts _ (List.mem_cons_of_mem _ hw)) hd (kk p e s m args below meth c H locs ls ⟨hx, hb, hr, hlk, hml, hown, hnm, hts, hK, hR, hS, hl, hbs⟩)
theorem fr_ldcw {g : GG} {M : MI} {Z : ZZ} {lv : LV} {st : List Value} {pc : Nat} {σ : Hs} {post : Option Value → Hs → Prop} {idx : Nat} {v : Int32} (hw : Cond.constant M.1.cls idx v ∈ wsL_law) (hd : decode M.2.1 pc = .ok (.ldc_w idx, 3)) (kk : Fr g M Z lv (.int v :: st) (pc + 3) σ post) : Fr g M Z lv st pc σ post := by
  intro p e s m args below meth c H locs ls ⟨hx, hb, hr, hlk, hml, hown, hnm, hts, hK, hR, hS, hl, hbs⟩
  exact lv_ldcw hx hb hown (hts _ (List.mem_cons_of_mem _ hw)) hd (kk p e s m args below meth c H locs ls ⟨hx, hb, hr, hlk, hml, hown, hnm, hts, hK, hR, hS, hl, hbs⟩)
theorem fr_ldc2 {g : GG} {M : MI} {Z : ZZ} {lv : LV} {st : List Value} {pc : Nat} {σ : Hs} {post : Option Value → Hs → Prop} {idx : Nat} {v : Int64} (hw : Cond.constantLong M.1.cls idx v ∈ wsL_law) (hd : decode M.2.1 pc = .ok (.ldc2_w idx, 3)) (kk : Fr g M Z lv (.long v :: st) (pc + 3) σ post) : Fr g M Z lv st pc σ post := by
  intro p e s m args below meth c H locs ls ⟨hx, hb, hr, hlk, hml, hown, hnm, hts, hK, hR, hS, hl, hbs⟩
  exact lv_ldc2 hx hb hown (hts _ (List.mem_cons_of_mem _ hw)) hd (kk p e s m args below meth c H locs ls ⟨hx, hb, hr, hlk, hml, hown, hnm, hts, hK, hR, hS, hl, hbs⟩)
theorem fr_ret {g : GG} {M : MI} {Z : ZZ} {lv : LV} {pc : Nat} {σ : Hs} {post : Option Value → Hs → Prop} (hd : decode M.2.1 pc = .ok (.return_, 1)) (hr0 : M.2.2.2.1 = none) (hc : Z.2.2.1 ≤ Z.1 ∧ Z.2.2.2 ≤ Z.2.1) (hp : post none σ) : Fr g M Z lv [] pc σ post := by
  intro p e s m args below meth c H locs ls ⟨hx, hb, hr, hlk, hml, hown, hnm, hts, hK, hR, hS, hl, hbs⟩
  exact W.widen hc.1 hc.2 (W.vret hx hb (hr.trans hr0) (fun t ht hW => ⟨⟨none, σ, rfl, hp, by rw [ht]; exact hR⟩, hS.F ht⟩) hS.2.2 hd)
theorem fr_iret {g : GG} {M : MI} {Z : ZZ} {lv : LV} {pc : Nat} {σ : Hs} {post : Option Value → Hs → Prop} {x : Int32} (hd : decode M.2.1 pc = .ok (.ireturn, 1)) (hr0 : M.2.2.2.1 = some .int) (hc : Z.2.2.1 ≤ Z.1 ∧ Z.2.2.2 ≤ Z.2.1) (hp : post (some (.int x)) σ) : Fr g M Z lv [.int x] pc σ post := by
  intro p e s m args below meth c H locs ls ⟨hx, hb, hr, hlk, hml, hown, hnm, hts, hK, hR, hS, hl, hbs⟩
  exact W.widen hc.1 hc.2 (W.iret hx hb (hr.trans hr0) (fun t ht hW => ⟨⟨some (.int x), σ, rfl, hp, by rw [ht]; exact hR⟩, hS.F ht⟩) hS.2.2 hd)
theorem fr_zret {g : GG} {M : MI} {Z : ZZ} {lv : LV} {pc : Nat} {σ : Hs} {post : Option Value → Hs → Prop} {x : Int32} (hd : decode M.2.1 pc = .ok (.ireturn, 1)) (hr0 : M.2.2.2.1 = some .boolean) (hc : Z.2.2.1 ≤ Z.1 ∧ Z.2.2.2 ≤ Z.2.1) (hp : narrow .boolean (.int x) = .int x ∧ post (some (.int x)) σ) : Fr g M Z lv [.int x] pc σ post := by
  intro p e s m args below meth c H locs ls ⟨hx, hb, hr, hlk, hml, hown, hnm, hts, hK, hR, hS, hl, hbs⟩
  exact W.widen hc.1 hc.2 (W.zret hx hb (hr.trans hr0) hp.1 (fun t ht hW => ⟨⟨some (.int x), σ, rfl, hp.2, by rw [ht]; exact hR⟩, hS.F ht⟩) hS.2.2 hd)
theorem fr_lret {g : GG} {M : MI} {Z : ZZ} {lv : LV} {pc : Nat} {σ : Hs} {post : Option Value → Hs → Prop} {x : Int64} (hd : decode M.2.1 pc = .ok (.lreturn, 1)) (hr0 : M.2.2.2.1 = some .long) (hc : Z.2.2.1 ≤ Z.1 ∧ Z.2.2.2 ≤ Z.2.1) (hp : post (some (.long x)) σ) : Fr g M Z lv [.long x] pc σ post := by
  intro p e s m args below meth c H locs ls ⟨hx, hb, hr, hlk, hml, hown, hnm, hts, hK, hR, hS, hl, hbs⟩
  exact W.widen hc.1 hc.2 (W.lret hx hb (hr.trans hr0) (fun t ht hW => ⟨⟨some (.long x), σ, rfl, hp, by rw [ht]; exact hR⟩, hS.F ht⟩) hS.2.2 hd)
theorem fr_aret {g : GG} {M : MI} {Z : ZZ} {lv : LV} {pc : Nat} {σ : Hs} {post : Option Value → Hs → Prop} {v : Value} {C : String} (hd : decode M.2.1 pc = .ok (.areturn, 1)) (hr0 : M.2.2.2.1 = some (.object C)) (hv : v = .null ∨ ∃ a, v = .ref a) (hc : Z.2.2.1 ≤ Z.1 ∧ Z.2.2.2 ≤ Z.2.1) (hp : post (some v) σ) : Fr g M Z lv [v] pc σ post := by
  intro p e s m args below meth c H locs ls ⟨hx, hb, hr, hlk, hml, hown, hnm, hts, hK, hR, hS, hl, hbs⟩
  exact W.widen hc.1 hc.2 (W.aret hx hb (hr.trans hr0) (Or.inl ⟨C, rfl⟩) hv (fun t ht hW => ⟨⟨some v, σ, rfl, hp, by rw [ht]; exact hR⟩, hS.F ht⟩) hS.2.2 hd)
theorem TT_at {K : Nat → ClassId} {t : Nat} {ty : FieldType} (h : (TT (fun k => k))[t]? = some (t, ty)) : (TT K)[t]? = some (K t, ty) := by
  match t, h with
  | 0, h => cases h; rfl
  | 1, h => cases h; rfl
  | 2, h => cases h; rfl
  | 3, h => cases h; rfl
  | 4, h => cases h; rfl
  | 5, h => cases h; rfl
  | 6, h => cases h; rfl
  | 7, h => cases h; rfl
  | n + 8, h => simp [TT] at h
def Kc (ci : Nat) (C : String) (T : u_T) (N : Nat) (ty : Nat → FieldType) : Prop := vwCl[ci]? = some (C, T, N) ∧ (∀ w ∈ u_ws C T N, w ∈ wsL_law) ∧ (∀ k, k < N → parseFieldDescriptor (T k).2.2.1 = some (ty k)) ∧ ∀ a, a < N → ∀ b, b < N → a ≠ b → (T a).2.1 ≠ (T b).2.1
theorem Hr.at {g : GG} {σ : Hs} {H : Heap} (h : Hr g σ H) {a : Nat} {e : va_E} (hc : Ce σ a e) : ∃ k : Nat, ([] ++ va_pl σ.1 σ.2)[k]? = some (a, e) := by
  obtain ⟨k, hk⟩ := va_pl_get (X := []) (f := σ.2) hc.1
  rw [hc.2] at hk
  exact ⟨k, hk⟩
theorem Hr.up {g : GG} {σ : Hs} {H H1 : Heap} {a k : Nat} {e0 e : va_E} (h : Hr g σ H) (hc : Ce σ a e0) (hk : ([] ++ va_pl σ.1 σ.2)[k]? = some (a, e0)) (hP : va_P g.2.1 vwCl (([] ++ va_pl σ.1 σ.2).set k (a, e)) H1) (hD : va_D (gA g) (([] ++ va_pl σ.1 σ.2).set k (a, e))) : Hr g (hup σ a e) H1 := by
  have hk' : ([] ++ va_pl σ.1 σ.2)[k]? = some (a, σ.2 a) := by rw [hc.2]; exact hk
  rw [va_pl_set h.2 hc.1 hk'] at hP hD
  exact ⟨hP, hD⟩
theorem Hr.push {g : GG} {σ : Hs} {H1 : Heap} {q : Nat} {e : va_E} (hP : va_P g.2.1 vwCl (([] ++ va_pl σ.1 σ.2) ++ [(q, e)]) H1) (hD : va_D (gA g) (([] ++ va_pl σ.1 σ.2) ++ [(q, e)])) : q ∉ σ.1 ∧ Hr g (hpush σ q e) H1 := by
  have hq := va_pl_fresh2 hD
  simp only [List.nil_append] at hP hD
  rw [va_pl_push hq] at hP hD
  exact ⟨hq, hP, hD⟩
theorem fr_getI {g : GG} {M : MI} {Z : ZZ} {lv : LV} {st : List Value} {pc : Nat} {σ : Hs} {post : Option Value → Hs → Prop} {a ci k idx N : Nat} {T : u_T} {ty : Nat → FieldType} {φ : Int32 → Prop} (hc : Kc ci M.1.cls T N ty) (hk : k < N) (hw : Cond.fieldLink M.1.cls idx (T k).1 (T k).2.1 (T k).2.2.1 ∈ wsL_law) (hd : decode M.2.1 pc = .ok (.getfield idx, 3)) (hW : FI σ a ci k φ) (kk : ∀ x, φ x → Fr g M Z lv (.int x :: st) (pc + 3) σ post) : Fr g M Z lv (.ref a :: st) pc σ post := by
  intro p e s m args below meth c H locs ls ⟨hx, hb, hr, hlk, hml, hown, hnm, hts, hK, hR, hS, hl, hbs⟩
  obtain ⟨fs, i, he, hv, h⟩ := hW
  obtain ⟨q0, hq⟩ := hR.at he
  exact va_get hx hb hts (fun w h => List.mem_cons_of_mem _ (hc.2.1 w h)) hown hK.1 hR.1 q0 hq hc.1 k hk (hts _ (List.mem_cons_of_mem _ hw)) (fun x h => h) hv hd (kk i h p e s m args below meth c H locs ls ⟨hx, hb, hr, hlk, hml, hown, hnm, hts, hK, hR, hS, hl, hbs⟩)
theorem fr_getL {g : GG} {M : MI} {Z : ZZ} {lv : LV} {st : List Value} {pc : Nat} {σ : Hs} {post : Option Value → Hs → Prop} {a ci k idx N : Nat} {T : u_T} {ty : Nat → FieldType} {φ : Int64 → Prop} (hc : Kc ci M.1.cls T N ty) (hk : k < N) (hw : Cond.fieldLink M.1.cls idx (T k).1 (T k).2.1 (T k).2.2.1 ∈ wsL_law) (hd : decode M.2.1 pc = .ok (.getfield idx, 3)) (hW : FL σ a ci k φ) (kk : ∀ x, φ x → Fr g M Z lv (.long x :: st) (pc + 3) σ post) : Fr g M Z lv (.ref a :: st) pc σ post := by
  intro p e s m args below meth c H locs ls ⟨hx, hb, hr, hlk, hml, hown, hnm, hts, hK, hR, hS, hl, hbs⟩
  obtain ⟨fs, i, he, hv, h⟩ := hW
  obtain ⟨q0, hq⟩ := hR.at he
  exact va_get hx hb hts (fun w h => List.mem_cons_of_mem _ (hc.2.1 w h)) hown hK.1 hR.1 q0 hq hc.1 k hk (hts _ (List.mem_cons_of_mem _ hw)) (fun x h => h) hv hd (kk i h p e s m args below meth c H locs ls ⟨hx, hb, hr, hlk, hml, hown, hnm, hts, hK, hR, hS, hl, hbs⟩)
theorem fr_getR {g : GG} {M : MI} {Z : ZZ} {lv : LV} {st : List Value} {pc : Nat} {σ : Hs} {post : Option Value → Hs → Prop} {a ci k idx N : Nat} {T : u_T} {ty : Nat → FieldType} {φ : Nat → Prop} (hc : Kc ci M.1.cls T N ty) (hk : k < N) (hw : Cond.fieldLink M.1.cls idx (T k).1 (T k).2.1 (T k).2.2.1 ∈ wsL_law) (hd : decode M.2.1 pc = .ok (.getfield idx, 3)) (hW : FR σ a ci k φ) (kk : ∀ x, φ x → Fr g M Z lv (.ref x :: st) (pc + 3) σ post) : Fr g M Z lv (.ref a :: st) pc σ post := by
  intro p e s m args below meth c H locs ls ⟨hx, hb, hr, hlk, hml, hown, hnm, hts, hK, hR, hS, hl, hbs⟩
  obtain ⟨fs, i, he, hv, h⟩ := hW
  obtain ⟨q0, hq⟩ := hR.at he
  exact va_get hx hb hts (fun w h => List.mem_cons_of_mem _ (hc.2.1 w h)) hown hK.1 hR.1 q0 hq hc.1 k hk (hts _ (List.mem_cons_of_mem _ hw)) (fun x h => h) hv hd (kk i h p e s m args below meth c H locs ls ⟨hx, hb, hr, hlk, hml, hown, hnm, hts, hK, hR, hS, hl, hbs⟩)
theorem fr_put {g : GG} {M : MI} {Z : ZZ} {lv : LV} {st : List Value} {pc : Nat} {σ : Hs} {post : Option Value → Hs → Prop} {a ci k idx N : Nat} {T : u_T} {ty : Nat → FieldType} {v : Value} {φ : Hs → Prop} (hc : Kc ci M.1.cls T N ty) (hk : k < N) (hw : Cond.fieldLink M.1.cls idx (T k).1 (T k).2.1 (T k).2.2.1 ∈ wsL_law) (hfin : (T k).2.2.2 = false) (hn : narrow (ty k) v = v) (hf : fits (ty k) v = true) (hd : decode M.2.1 pc = .ok (.putfield idx, 3)) (hW : PF σ a ci k v φ) (kk : ∀ σ', φ σ' → Fr g M Z lv st (pc + 3) σ' post) : Fr g M Z lv (v :: .ref a :: st) pc σ post := by
  intro p e s m args below meth c H locs ls ⟨hx, hb, hr, hlk, hml, hown, hnm, hts, hK, hR, hS, hl, hbs⟩
  obtain ⟨fs, he, hl2, h⟩ := hW
  obtain ⟨q0, hq⟩ := hR.at he
  exact va_put hx hb hts (fun w h => List.mem_cons_of_mem _ (hc.2.1 w h)) ty hc.2.2.1 hc.2.2.2 hown hK.1 hR.1 hR.2 hS q0 hq hc.1 k hk (hts _ (List.mem_cons_of_mem _ hw)) (fun x h => h) hfin (hc.2.2.1 k hk) hn hf hl2 hd (fun H1 locs1 hP hD hS1 => kk _ h p e s m args below meth c H1 locs1 ls ⟨hx, hb, hr, hlk, hml, hown, hnm, hts, hK, hR.up he hq hP hD, hS1, hl, hbs⟩)
theorem fr_putF {g : GG} {M : MI} {Z : ZZ} {lv : LV} {st : List Value} {pc : Nat} {σ : Hs} {post : Option Value → Hs → Prop} {a ci k idx N : Nat} {T : u_T} {ty : Nat → FieldType} {v : Value} {φ : Hs → Prop} (hc : Kc ci M.1.cls T N ty) (hk : k < N) (hw : Cond.fieldLink M.1.cls idx (T k).1 (T k).2.1 (T k).2.2.1 ∈ wsL_law) (hfin : (T k).2.2.2 = true) (hi : M.1.name = "<init>") (hde : (T k).1 = M.1.cls) (hn : narrow (ty k) v = v) (hf : fits (ty k) v = true) (hd : decode M.2.1 pc = .ok (.putfield idx, 3)) (hW : PF σ a ci k v φ) (kk : ∀ σ', φ σ' → Fr g M Z lv st (pc + 3) σ' post) : Fr g M Z lv (v :: .ref a :: st) pc σ post := by
  intro p e s m args below meth c H locs ls ⟨hx, hb, hr, hlk, hml, hown, hnm, hts, hK, hR, hS, hl, hbs⟩
  obtain ⟨fs, he, hl2, h⟩ := hW
  obtain ⟨q0, hq⟩ := hR.at he
  exact va_putF hx hb hts (fun w h => List.mem_cons_of_mem _ (hc.2.1 w h)) ty hc.2.2.1 hc.2.2.2 hown hK.1 hR.1 hR.2 hS q0 hq hc.1 k hk (hts _ (List.mem_cons_of_mem _ hw)) (fun x h => h) hfin (hnm.trans hi) hde (hc.2.2.1 k hk) hn hf hl2 hd (fun H1 locs1 hP hD hS1 => kk _ h p e s m args below meth c H1 locs1 ls ⟨hx, hb, hr, hlk, hml, hown, hnm, hts, hK, hR.up he hq hP hD, hS1, hl, hbs⟩)
theorem fr_new {g : GG} {M : MI} {Z : ZZ} {lv : LV} {st : List Value} {pc : Nat} {σ : Hs} {post : Option Value → Hs → Prop} {ci idx N : Nat} {C : String} {T : u_T} {ty : Nat → FieldType} (fs : List Value) {φ : Nat → Hs → Prop} (hc : Kc ci C T N ty) (hfs : ∀ j, j < N → defaultValue (ty j) = vp_V fs j) (hw : Cond.classLink M.1.cls idx C ∈ wsL_law ∧ Cond.instantiable C N ∈ wsL_law ∧ Cond.initialized C ∈ wsL_law) (hd : decode M.2.1 pc = .ok (.new idx, 3)) (hz : Z.2.2.1 + 1 ≤ Z.1 ∧ Z.2.2.2 + N ≤ Z.2.1) {Z' : ZZ} (hZ' : (Z.1, Z.2.1, Z.2.2.1 + 1, Z.2.2.2 + N) = Z') (hW : NW σ ci fs φ) (kk : ∀ q σ', φ q σ' → Fr g M Z' lv (.ref q :: st) (pc + 3) σ' post) : Fr g M Z lv st pc σ post := by
  subst hZ'
  intro p e s m args below meth c H locs ls ⟨hx, hb, hr, hlk, hml, hown, hnm, hts, hK, hR, hS, hl, hbs⟩
  exact va_new hx hb hts (fun w h => List.mem_cons_of_mem _ (hc.2.1 w h)) ty hc.2.2.1 hown (hts _ (List.mem_cons_of_mem _ hw.1)) (hts _ (List.mem_cons_of_mem _ hw.2.1)) (hts _ (List.mem_cons_of_mem _ hw.2.2)) hK.1 hR.1 hR.2 hS (fun q h => Nat.le_trans hbs h) hc.1 hfs hz.1 hz.2 hd (fun q H1 hP hD hS1 => kk q _ (hW q (Hr.push hP hD).1) p e s m args below meth c H1 locs ls ⟨hx, hb, hr, hlk, hml, hown, hnm, hts, hK, (Hr.push hP hD).2, hS1, hl, hbs⟩)
theorem fr_newI {g : GG} {M : MI} {Z : ZZ} {lv : LV} {st : List Value} {pc : Nat} {σ : Hs} {post : Option Value → Hs → Prop} {n : Int32} {φ : Nat → Hs → Prop} (t : Nat) (atype : ArrayType) (ht : (t = 0 ∧ atype = .int) ∨ (t = 3 ∧ atype = .long)) (hw : Cond.arrayClass (newarray.typeOf atype) ∈ wsL_law) (hd : decode M.2.1 pc = .ok (.newarray atype, 2)) (hn : ¬ n < 0) (hsz : n.toNatClampNeg ≤ 60000000) (hz : Z.2.2.1 + 1 ≤ Z.1 ∧ Z.2.2.2 + n.toNatClampNeg ≤ Z.2.1) {Z' : ZZ} (hZ' : (Z.1, Z.2.1, Z.2.2.1 + 1, Z.2.2.2 + n.toNatClampNeg) = Z') (hW : NA g σ t n ndef φ) (kk : ∀ q σ', φ q σ' → Fr g M Z' lv (.ref q :: st) (pc + 2) σ' post) : Fr g M Z lv (.int n :: st) pc σ post := by
  subst hZ'
  intro p e s m args below meth c H locs ls ⟨hx, hb, hr, hlk, hml, hown, hnm, hts, hK, hR, hS, hl, hbs⟩
  have key : ∀ (ty : FieldType) (a0 : vp_A), newarray.typeOf atype = ty → (∀ cA : ClassId, vp_cell cA a0 = arrV cA n.toNatClampNeg (fun _ => defaultValue ty)) → n.toNatClampNeg * componentBytes ty ≤ 536870912 → a0 = (n.toNatClampNeg, ndef t) → (∀ K, (TT K)[t]? = some (K t, ty)) → (∀ cA : ClassId, va_RA s cA ty → va_RA s (g.2.2.1 t) ty → cA = g.2.2.1 t) → W p g.1 e (rmM M Z.1 Z.2.1) s m args below meth c H locs Z.2.2.1 Z.2.2.2 (MQ below (Qg g post) args s Z.1 Z.2.1 (gA g)) (F0 m pc ls (.int n :: st)) := by
    intro ty a0 h1 h2 h3 h4 h5 h6
    refine va_newa hx hb (hts _ (List.mem_cons_of_mem _ hw)) h1 hK.1 hR.1 hR.2 hS (fun q h => Nat.le_trans hbs h) h2 hn rfl h3 hz.1 hz.2 hd (fun q cA H1 hK1 hP hD hS1 => ?_)
    have e1 : cA = g.2.2.1 t := h6 cA (hK1.2 (TT g.2.2.1).length (cA, ty) (by simp)).2 (hK.1.2 t _ (h5 _)).2
    subst e1
    subst h4
    exact kk q _ (hW q (Hr.push hP hD).1) p e s m args below meth c H1 locs ls ⟨hx, hb, hr, hlk, hml, hown, hnm, hts, hK, (Hr.push hP hD).2, hS1, hl, hbs⟩
  rcases ht with ⟨rfl, rfl⟩ | ⟨rfl, rfl⟩
  · exact key .int (n.toNatClampNeg, .inl (fun _ => 0)) rfl (fun cA => rfl) (by show _ * 4 ≤ _; omega) rfl (fun K => rfl) (fun cA h1 h2 => Option.some.inj (Eq.trans (Eq.symm h1) h2))
  · exact key .long (n.toNatClampNeg, .inr (.inl (fun _ => 0))) rfl (fun cA => rfl) (by show _ * 8 ≤ _; omega) rfl (fun K => rfl) (fun cA h1 h2 => Option.some.inj (Eq.trans (Eq.symm h1) h2))
theorem fr_newR {g : GG} {M : MI} {Z : ZZ} {lv : LV} {st : List Value} {pc : Nat} {σ : Hs} {post : Option Value → Hs → Prop} {n : Int32} {idx : Nat} {C : String} {φ : Nat → Hs → Prop} (t : Nat) (h3 : ndef t = .inr (.inr (.inr (.inr (fun _ => none))))) (ht : ∀ K, (TT K)[t]? = some (K t, .object C)) (hw : Cond.classLink M.1.cls idx C ∈ wsL_law) (ho : C ∈ nwO) (hd : decode M.2.1 pc = .ok (.anewarray idx, 3)) (hn : ¬ n < 0) (hsz : n.toNatClampNeg ≤ 60000000) (hz : Z.2.2.1 + 1 ≤ Z.1 ∧ Z.2.2.2 + n.toNatClampNeg ≤ Z.2.1) {Z' : ZZ} (hZ' : (Z.1, Z.2.1, Z.2.2.1 + 1, Z.2.2.2 + n.toNatClampNeg) = Z') (hW : NA g σ t n ndef φ) (kk : ∀ q σ', φ q σ' → Fr g M Z' lv (.ref q :: st) (pc + 3) σ' post) : Fr g M Z lv (.int n :: st) pc σ post := by
  subst hZ'
  intro p e s m args below meth c H locs ls ⟨hx, hb, hr, hlk, hml, hown, hnm, hts, hK, hR, hS, hl, hbs⟩
  refine va_newq hx hb hown (hts _ (List.mem_cons_of_mem _ hw)) (hK.2.2 C ho) hK.1 hR.1 hR.2 hS (fun q h => Nat.le_trans hbs h) hn rfl (by omega) hz.1 hz.2 hd (fun q cA H1 hK1 hP hD hS1 => ?_)
  have e1 : cA = g.2.2.1 t := by
    obtain ⟨kA, comp, -, -, -, h1⟩ := (hK1.2 (TT g.2.2.1).length (cA, .object C) (by simp)).2
    obtain ⟨kB, comp2, -, -, -, h2⟩ := (hK.1.2 t _ (ht _)).2
    exact Option.some.inj (h1.symm.trans h2)
  subst e1
  rw [← h3] at hP hD
  exact kk q _ (hW q (Hr.push hP hD).1) p e s m args below meth c H1 locs ls ⟨hx, hb, hr, hlk, hml, hown, hnm, hts, hK, (Hr.push hP hD).2, hS1, hl, hbs⟩
theorem fr_alen {g : GG} {M : MI} {Z : ZZ} {lv : LV} {st : List Value} {pc : Nat} {σ : Hs} {post : Option Value → Hs → Prop} {a : Nat} {φ : Int32 → Prop} (t : Nat) {ty : FieldType} (ht : ∀ K, (TT K)[t]? = some (K t, ty)) (hd : decode M.2.1 pc = .ok (.arraylength, 1)) (hW : AN g σ a t φ) (kk : ∀ x, φ x → Fr g M Z lv (.int x :: st) (pc + 1) σ post) : Fr g M Z lv (.ref a :: st) pc σ post := by
  intro p e s m args below meth c H locs ls ⟨hx, hb, hr, hlk, hml, hown, hnm, hts, hK, hR, hS, hl, hbs⟩
  obtain ⟨x, he, h⟩ := hW
  obtain ⟨q0, hq⟩ := hR.at he
  exact va_alen hx hb hK.1 hR.1 q0 t hq (ht _) rfl hd (kk _ h p e s m args below meth c H locs ls ⟨hx, hb, hr, hlk, hml, hown, hnm, hts, hK, hR, hS, hl, hbs⟩)
theorem fr_iald {g : GG} {M : MI} {Z : ZZ} {lv : LV} {st : List Value} {pc : Nat} {σ : Hs} {post : Option Value → Hs → Prop} {a : Nat} {i : Int32} {φ : Int32 → Prop} (hd : decode M.2.1 pc = .ok (.iaload, 1)) (hW : AI g σ a 0 i φ) (kk : ∀ x, φ x → Fr g M Z lv (.int x :: st) (pc + 1) σ post) : Fr g M Z lv (.int i :: .ref a :: st) pc σ post := by
  intro p e s m args below meth c H locs ls ⟨hx, hb, hr, hlk, hml, hown, hnm, hts, hK, hR, hS, hl, hbs⟩
  obtain ⟨n, f, he, hi, h⟩ := hW
  obtain ⟨q0, hq⟩ := hR.at he
  exact va_iald hx hb hK.1 hR.1 q0 0 hq rfl hi hd (kk _ h p e s m args below meth c H locs ls ⟨hx, hb, hr, hlk, hml, hown, hnm, hts, hK, hR, hS, hl, hbs⟩)
theorem fr_lald {g : GG} {M : MI} {Z : ZZ} {lv : LV} {st : List Value} {pc : Nat} {σ : Hs} {post : Option Value → Hs → Prop} {a : Nat} {i : Int32} {φ : Int64 → Prop} (hd : decode M.2.1 pc = .ok (.laload, 1)) (hW : AJ g σ a i φ) (kk : ∀ x, φ x → Fr g M Z lv (.long x :: st) (pc + 1) σ post) : Fr g M Z lv (.int i :: .ref a :: st) pc σ post := by
  intro p e s m args below meth c H locs ls ⟨hx, hb, hr, hlk, hml, hown, hnm, hts, hK, hR, hS, hl, hbs⟩
  obtain ⟨n, f, he, hi, h⟩ := hW
  obtain ⟨q0, hq⟩ := hR.at he
  exact va_lald hx hb hK.1 hR.1 q0 3 hq rfl hi hd (kk _ h p e s m args below meth c H locs ls ⟨hx, hb, hr, hlk, hml, hown, hnm, hts, hK, hR, hS, hl, hbs⟩)
theorem fr_aald {g : GG} {M : MI} {Z : ZZ} {lv : LV} {st : List Value} {pc : Nat} {σ : Hs} {post : Option Value → Hs → Prop} {a : Nat} {i : Int32} {φ0 : Prop} {φ1 : Nat → Prop} (t : Nat) {C : String} (ht : ∀ K, (TT K)[t]? = some (K t, .object C)) (hd : decode M.2.1 pc = .ok (.aaload, 1)) (hW : AR g σ a t i φ0 φ1) (k0 : φ0 → Fr g M Z lv (.null :: st) (pc + 1) σ post) (kk : ∀ x, φ1 x → Fr g M Z lv (.ref x :: st) (pc + 1) σ post) : Fr g M Z lv (.int i :: .ref a :: st) pc σ post := by
  intro p e s m args below meth c H locs ls ⟨hx, hb, hr, hlk, hml, hown, hnm, hts, hK, hR, hS, hl, hbs⟩
  obtain ⟨n, f, he, hi, h, h1⟩ := hW
  obtain ⟨q0, hq⟩ := hR.at he
  refine va_aldq hx hb hK.1 hR.1 q0 t hq (ht _) hi hd ?_
  cases hv : f i.toNatClampNeg with
  | none => exact k0 (h hv) p e s m args below meth c H locs ls ⟨hx, hb, hr, hlk, hml, hown, hnm, hts, hK, hR, hS, hl, hbs⟩
  | some q => exact kk q (h1 q hv) p e s m args below meth c H locs ls ⟨hx, hb, hr, hlk, hml, hown, hnm, hts, hK, hR, hS, hl, hbs⟩
theorem fr_iast {g : GG} {M : MI} {Z : ZZ} {lv : LV} {st : List Value} {pc : Nat} {σ : Hs} {post : Option Value → Hs → Prop} {a : Nat} {i x : Int32} {φ : Hs → Prop} (hd : decode M.2.1 pc = .ok (.iastore, 1)) (hW : SI g σ a 0 i x φ) (kk : ∀ σ', φ σ' → Fr g M Z lv st (pc + 1) σ' post) : Fr g M Z lv (.int x :: .int i :: .ref a :: st) pc σ post := by
  intro p e s m args below meth c H locs ls ⟨hx, hb, hr, hlk, hml, hown, hnm, hts, hK, hR, hS, hl, hbs⟩
  obtain ⟨n, f, he, hi, h⟩ := hW
  obtain ⟨q0, hq⟩ := hR.at he
  exact va_iast hx hb hK.1 hR.1 hR.2 hS q0 0 hq rfl hi hd (fun H1 locs1 hP hD hS1 => kk _ h p e s m args below meth c H1 locs1 ls ⟨hx, hb, hr, hlk, hml, hown, hnm, hts, hK, hR.up he hq hP hD, hS1, hl, hbs⟩)
theorem fr_last {g : GG} {M : MI} {Z : ZZ} {lv : LV} {st : List Value} {pc : Nat} {σ : Hs} {post : Option Value → Hs → Prop} {a : Nat} {i : Int32} {x : Int64} {φ : Hs → Prop} (hd : decode M.2.1 pc = .ok (.lastore, 1)) (hW : SJ g σ a i x φ) (kk : ∀ σ', φ σ' → Fr g M Z lv st (pc + 1) σ' post) : Fr g M Z lv (.long x :: .int i :: .ref a :: st) pc σ post := by
  intro p e s m args below meth c H locs ls ⟨hx, hb, hr, hlk, hml, hown, hnm, hts, hK, hR, hS, hl, hbs⟩
  obtain ⟨n, f, he, hi, h⟩ := hW
  obtain ⟨q0, hq⟩ := hR.at he
  exact va_last hx hb hK.1 hR.1 hR.2 hS q0 3 hq rfl hi hd (fun H1 locs1 hP hD hS1 => kk _ h p e s m args below meth c H1 locs1 ls ⟨hx, hb, hr, hlk, hml, hown, hnm, hts, hK, hR.up he hq hP hD, hS1, hl, hbs⟩)
theorem fr_aast {g : GG} {M : MI} {Z : ZZ} {lv : LV} {st : List Value} {pc : Nat} {σ : Hs} {post : Option Value → Hs → Prop} {a v ci N : Nat} {i : Int32} {C : String} {T : u_T} {ty : Nat → FieldType} {φ : Hs → Prop} (t : Nat) (hc : Kc ci C T N ty) (ht : ∀ K, (TT K)[t]? = some (K t, .object C)) (hd : decode M.2.1 pc = .ok (.aastore, 1)) (hW : SR g σ a t ci i v φ) (kk : ∀ σ', φ σ' → Fr g M Z lv st (pc + 1) σ' post) : Fr g M Z lv (.ref v :: .int i :: .ref a :: st) pc σ post := by
  intro p e s m args below meth c H locs ls ⟨hx, hb, hr, hlk, hml, hown, hnm, hts, hK, hR, hS, hl, hbs⟩
  obtain ⟨n, f, he, hi, ⟨vs, hv⟩, h⟩ := hW
  obtain ⟨q0, hq⟩ := hR.at he
  obtain ⟨q1, hq1⟩ := hR.at hv
  exact va_astq hx hb hK.1 hR.1 hR.2 hS q0 t q1 ci (r := (C, T, N)) hq (ht _) hq1 hc.1 hi hd (fun H1 locs1 hP hD hS1 => kk _ h p e s m args below meth c H1 locs1 ls ⟨hx, hb, hr, hlk, hml, hown, hnm, hts, hK, hR.up he hq hP hD, hS1, hl, hbs⟩)
theorem fr_back {g : GG} {M : MI} {Z : ZZ} {lv : LV} {st st0 : List Value} {pc mc ms : Nat} {post P : Option Value → Hs → Prop} {p : Program} {e : Env} {s : State} {m : MethodId} {args a : Array Value} {below : List Frame} {meth : Method} {c : Code} {H : Heap} {locs : List Loc} {ls : Array Slot} {σ : Hs}
    (h : Cx g M p s m args meth c H locs σ ls lv)
    (hrun : va_Run p g.1 e (rmM M Z.1 Z.2.1) s m args below meth c H locs Z.2.2.1 Z.2.2.2 mc ms (F0 m pc ls st0) st (Qg g P a) (gA g))
    (kk : ∀ v σ', P v σ' → Fr g M (Z.1, Z.2.1, Z.2.2.1 + mc, Z.2.2.2 + ms) lv (v.toList ++ st) (pc + 3) σ' post) :
    W p g.1 e (rmM M Z.1 Z.2.1) s m args below meth c H locs Z.2.2.1 Z.2.2.2 (MQ below (Qg g post) args s Z.1 Z.2.1 (gA g)) (F0 m pc ls st0) := by
  obtain ⟨hx, hb, hr, hlk, hml, hown, hnm, hts, hK, hR, hS, hl, hbs⟩ := h
  intro T hT X
  obtain ⟨v, st₀, t, T', L, e1, X', hL, e2, e3, ⟨⟨v', σ', hv', hp, hR'⟩, hF⟩, go⟩ := hrun T hT X
  cases hv'
  have hS' : va_S (gA g) s.heap T'.heap (locs ++ L) := by
    refine ⟨?_, fun q h1 h2 => ?_, fun q hq => ?_⟩
    · have h3 := hF.1
      rw [e1] at h3
      rw [e2]
      exact Nat.le_trans hS.1 h3
    · rw [e2, hF.2 q (by rw [e1]; exact Nat.lt_of_lt_of_le h1 hS.1) h2, e1]
      exact hS.2.1 q h1 h2
    · rcases List.mem_append.mp hq with h1 | h1
      · exact hS.2.2 q h1
      · exact hL q h1
  obtain ⟨t1, s1, Q1⟩ := kk v σ' hp p e s m args below meth c T'.heap (locs ++ L) ls ⟨hx, hb, hr, hlk, hml, hown, hnm, hts, hK, by rw [e2]; exact hR', hS', hl, hbs⟩ T' rfl X'
  exact ⟨t1, go _ s1, Q1⟩
/-- what is static of a method that is called: it isn't a handle's, its parameters, its locals -/
def okM (M : MI) (n : Nat) : Bool := decide (M.1.cls ≠ "java/lang/invoke/MethodHandle") && decide (M.1.cls ≠ "java/lang/invoke/VarHandle") && decide ((parseMethodDescriptor M.1.desc).map (fun d => d.parameters.length) = some n) && decide (M.2.2.1 ≤ 20)
theorem okM_s {M : MI} {n : Nat} (h : okM M n = true) : (M.1.cls ≠ "java/lang/invoke/MethodHandle" ∧ M.1.cls ≠ "java/lang/invoke/VarHandle" ∧ (parseMethodDescriptor M.1.desc).map (fun d => d.parameters.length) = some n) ∧ M.2.2.1 ≤ 20 := by
  simp only [okM, Bool.and_eq_true, decide_eq_true_eq] at h
  exact ⟨⟨h.1.1.1, h.1.1.2, h.1.2⟩, h.2⟩
theorem okR {M M' : MI} {n mc ms cM sM : Nat} (h : okM M' n = true) (hd : M'.2.2.2.2 + 1 ≤ M.2.2.2.2) : (rmM M' mc ms).frames + 1 ≤ (rmM M cM sM).frames ∧ 8 + (M'.2.2.1 + 11) + (rmM M' mc ms).locals ≤ (rmM M cM sM).locals := by
  have h1 := (okM_s h).2
  refine ⟨hd, ?_⟩
  show 8 + (M'.2.2.1 + 11) + 39 * M'.2.2.2.2 ≤ 39 * M.2.2.2.2
  omega
/-- the words of a method that is called: instance methods -/
def Wv (M : MI) : Prop := Cond.instanceMethod M.1 ∈ wsL_law ∧ Cond.selects M.1.cls M.1 M.1 ∈ wsL_law ∧ Cond.initialized M.1.cls ∈ wsL_law ∧ Cond.code M.1 M.2.1 M.2.2.1 M.2.2.2.1 ∈ wsL_law
def Wi (M : MI) : Prop := Cond.instanceMethod M.1 ∈ wsL_law ∧ Cond.initialized M.1.cls ∈ wsL_law ∧ Cond.code M.1 M.2.1 M.2.2.1 M.2.2.2.1 ∈ wsL_law
def Ws (M : MI) : Prop := Cond.static M.1 ∈ wsL_law ∧ Cond.initialized M.1.cls ∈ wsL_law ∧ Cond.code M.1 M.2.1 M.2.2.1 M.2.2.2.1 ∈ wsL_law
theorem fr_callV {g : GG} {M : MI} {Z : ZZ} {lv : LV} {st : List Value} {pc : Nat} {σ : Hs} {post : Option Value → Hs → Prop} {M' : MI} {idx n mc ms : Nat} {b ci N : Nat} {T : u_T} {ty : Nat → FieldType} {As : List Value} {P : Option Value → Hs → Prop} (hw : Wv M') (hlk' : Cond.methodLink M.1.cls idx M'.1 ∈ wsL_law) (hok : okM M' n = true) (hdp : M'.2.2.2.2 + 1 ≤ M.2.2.2.2) (hn : As.length = n) (hst : (st.map fun v => v.category).sum ≤ 8) (hd : decode M.2.1 pc = .ok (.invokevirtual idx, 3)) (hz : Z.2.2.1 + mc ≤ Z.1 ∧ Z.2.2.2 + ms ≤ Z.2.1) (hc : Kc ci M'.1.cls T N ty) (hrc : Rc σ b ci) (hW : Do g M' mc ms (.ref b :: As) σ P) (kk : ∀ v σ', P v σ' → Fr g M (Z.1, Z.2.1, Z.2.2.1 + mc, Z.2.2.2 + ms) lv (v.toList ++ st) (pc + 3) σ' post) : Fr g M Z lv (As.reverse ++ .ref b :: st) pc σ post := by
  intro p e s m args below meth c H locs ls ⟨hx, hb, hr, hlk, hml, hown, hnm, hts, hK, hR, hS, hl, hbs⟩
  have hcode := hw.2.2.2
  obtain ⟨vs, hv⟩ := hrc
  obtain ⟨q0, hq⟩ := hR.at hv
  refine fr_back ⟨hx, hb, hr, hlk, hml, hown, hnm, hts, hK, hR, hS, hl, hbs⟩ (va_runV (As := As) (rest := st) ⟨hx, hb, hml, hown, hts⟩ hW ⟨callB_of n hts (good_M hcode) rfl rfl rfl (hts _ (List.mem_cons_of_mem _ hw.2.2.1)) (hts _ (List.mem_cons_of_mem _ hlk')) (okM_s hok).1 (okR hok hdp), (hts _ (List.mem_cons_of_mem _ hw.1)), (hts _ (List.mem_cons_of_mem _ hw.2.1))⟩ ⟨Pg.blind g _ σ, va_recv hK.1 hR.1 (ci := ci) (q0 := q0) hc.1 hq, (fun U hU hW1 => ⟨rfl, by rw [hU]; exact Nat.le_trans hbs hS.1, by rw [hU]; exact hR, hK.moved hW1⟩)⟩ rfl hn hl.1 rfl (lv_room hst) hd hz) kk
theorem fr_callVN {g : GG} {M : MI} {Z : ZZ} {lv : LV} {st : List Value} {pc : Nat} {σ : Hs} {post : Option Value → Hs → Prop} {M' : MI} {idx n mc ms : Nat} {b ci N : Nat} {T : u_T} {ty : Nat → FieldType} {As : List Value} {P : Option Value → Hs → Prop} (hw : Wv M') (hlk' : ∃ host, (M.1.cls, idx, M'.1, host) ∈ nwM) (hok : okM M' n = true) (hdp : M'.2.2.2.2 + 1 ≤ M.2.2.2.2) (hn : As.length = n) (hst : (st.map fun v => v.category).sum ≤ 8) (hd : decode M.2.1 pc = .ok (.invokevirtual idx, 3)) (hz : Z.2.2.1 + mc ≤ Z.1 ∧ Z.2.2.2 + ms ≤ Z.2.1) (hc : Kc ci M'.1.cls T N ty) (hrc : Rc σ b ci) (hW : Do g M' mc ms (.ref b :: As) σ P) (kk : ∀ v σ', P v σ' → Fr g M (Z.1, Z.2.1, Z.2.2.1 + mc, Z.2.2.2 + ms) lv (v.toList ++ st) (pc + 3) σ' post) : Fr g M Z lv (As.reverse ++ .ref b :: st) pc σ post := by
  intro p e s m args below meth c H locs ls ⟨hx, hb, hr, hlk, hml, hown, hnm, hts, hK, hR, hS, hl, hbs⟩
  obtain ⟨host, hnl⟩ := hlk'
  have hcode := hw.2.2.2
  obtain ⟨vs, hv⟩ := hrc
  obtain ⟨q0, hq⟩ := hR.at hv
  refine fr_back ⟨hx, hb, hr, hlk, hml, hown, hnm, hts, hK, hR, hS, hl, hbs⟩ (va_runVN (As := As) (rest := st) ⟨hx, hb, hml, hown, hts⟩ hW ⟨va_cnB (host := host) n hts (good_M hcode) rfl rfl rfl (hK.2.1 _ hnl) (hts _ (List.mem_cons_of_mem _ hw.2.2.1)) (okM_s hok).1 (okR hok hdp), (hts _ (List.mem_cons_of_mem _ hw.1)), (hts _ (List.mem_cons_of_mem _ hw.2.1))⟩ ⟨Pg.blind g _ σ, va_recv hK.1 hR.1 (ci := ci) (q0 := q0) hc.1 hq, (fun U hU hW1 => ⟨rfl, by rw [hU]; exact Nat.le_trans hbs hS.1, by rw [hU]; exact hR, hK.moved hW1⟩)⟩ rfl hn hl.1 rfl (lv_room hst) hd hz) kk
theorem fr_callS {g : GG} {M : MI} {Z : ZZ} {lv : LV} {st : List Value} {pc : Nat} {σ : Hs} {post : Option Value → Hs → Prop} {M' : MI} {idx n mc ms : Nat} {As : List Value} {P : Option Value → Hs → Prop} (hw : Ws M') (hlk' : Cond.methodLink M.1.cls idx M'.1 ∈ wsL_law) (hok : okM M' n = true) (hdp : M'.2.2.2.2 + 1 ≤ M.2.2.2.2) (hn : As.length = n) (hst : (st.map fun v => v.category).sum ≤ 8) (hd : decode M.2.1 pc = .ok (.invokestatic idx, 3)) (hz : Z.2.2.1 + mc ≤ Z.1 ∧ Z.2.2.2 + ms ≤ Z.2.1) (hW : Do g M' mc ms (As) σ P) (kk : ∀ v σ', P v σ' → Fr g M (Z.1, Z.2.1, Z.2.2.1 + mc, Z.2.2.2 + ms) lv (v.toList ++ st) (pc + 3) σ' post) : Fr g M Z lv (As.reverse ++ st) pc σ post := by
  intro p e s m args below meth c H locs ls ⟨hx, hb, hr, hlk, hml, hown, hnm, hts, hK, hR, hS, hl, hbs⟩
  have hcode := hw.2.2
  refine fr_back ⟨hx, hb, hr, hlk, hml, hown, hnm, hts, hK, hR, hS, hl, hbs⟩ (va_runS (As := As) (rest := st) ⟨hx, hb, hml, hown, hts⟩ hW ⟨callB_of n hts (good_M hcode) rfl rfl rfl (hts _ (List.mem_cons_of_mem _ hw.2.1)) (hts _ (List.mem_cons_of_mem _ hlk')) (okM_s hok).1 (okR hok hdp), (hts _ (List.mem_cons_of_mem _ hw.1))⟩ ⟨Pg.blind g _ σ, (fun U hU hW1 => ⟨rfl, by rw [hU]; exact Nat.le_trans hbs hS.1, by rw [hU]; exact hR, hK.moved hW1⟩)⟩ rfl hn hl.1 rfl (lv_room hst) hd hz) kk
theorem fr_callSN {g : GG} {M : MI} {Z : ZZ} {lv : LV} {st : List Value} {pc : Nat} {σ : Hs} {post : Option Value → Hs → Prop} {M' : MI} {idx n mc ms : Nat} {As : List Value} {P : Option Value → Hs → Prop} (hw : Ws M') (hlk' : ∃ host, (M.1.cls, idx, M'.1, host) ∈ nwM) (hok : okM M' n = true) (hdp : M'.2.2.2.2 + 1 ≤ M.2.2.2.2) (hn : As.length = n) (hst : (st.map fun v => v.category).sum ≤ 8) (hd : decode M.2.1 pc = .ok (.invokestatic idx, 3)) (hz : Z.2.2.1 + mc ≤ Z.1 ∧ Z.2.2.2 + ms ≤ Z.2.1) (hW : Do g M' mc ms (As) σ P) (kk : ∀ v σ', P v σ' → Fr g M (Z.1, Z.2.1, Z.2.2.1 + mc, Z.2.2.2 + ms) lv (v.toList ++ st) (pc + 3) σ' post) : Fr g M Z lv (As.reverse ++ st) pc σ post := by
  intro p e s m args below meth c H locs ls ⟨hx, hb, hr, hlk, hml, hown, hnm, hts, hK, hR, hS, hl, hbs⟩
  obtain ⟨host, hnl⟩ := hlk'
  have hcode := hw.2.2
  refine fr_back ⟨hx, hb, hr, hlk, hml, hown, hnm, hts, hK, hR, hS, hl, hbs⟩ (va_runSN (As := As) (rest := st) ⟨hx, hb, hml, hown, hts⟩ hW ⟨va_cnB (host := host) n hts (good_M hcode) rfl rfl rfl (hK.2.1 _ hnl) (hts _ (List.mem_cons_of_mem _ hw.2.1)) (okM_s hok).1 (okR hok hdp), (hts _ (List.mem_cons_of_mem _ hw.1)), trivial⟩ ⟨Pg.blind g _ σ, (fun U hU hW1 => ⟨rfl, by rw [hU]; exact Nat.le_trans hbs hS.1, by rw [hU]; exact hR, hK.moved hW1⟩)⟩ rfl hn hl.1 rfl (lv_room hst) hd hz) kk
theorem fr_callI {g : GG} {M : MI} {Z : ZZ} {lv : LV} {st : List Value} {pc : Nat} {σ : Hs} {post : Option Value → Hs → Prop} {M' : MI} {idx n mc ms : Nat} {b : Nat} {As : List Value} {P : Option Value → Hs → Prop} (hw : Wi M') (hlk' : Cond.methodLink M.1.cls idx M'.1 ∈ wsL_law) (hok : okM M' n = true) (hdp : M'.2.2.2.2 + 1 ≤ M.2.2.2.2) (hn : As.length = n) (hst : (st.map fun v => v.category).sum ≤ 8) (hd : decode M.2.1 pc = .ok (.invokespecial idx, 3)) (hz : Z.2.2.1 + mc ≤ Z.1 ∧ Z.2.2.2 + ms ≤ Z.2.1) (hr1 : M'.2.2.2.1 = none) (hi1 : M'.1.name = "<init>") (hW : Do g M' mc ms (.ref b :: As) σ P) (kk : ∀ v σ', P v σ' → Fr g M (Z.1, Z.2.1, Z.2.2.1 + mc, Z.2.2.2 + ms) lv (v.toList ++ st) (pc + 3) σ' post) : Fr g M Z lv (As.reverse ++ .ref b :: st) pc σ post := by
  intro p e s m args below meth c H locs ls ⟨hx, hb, hr, hlk, hml, hown, hnm, hts, hK, hR, hS, hl, hbs⟩
  have hcode := hw.2.2
  rw [hr1] at hcode
  have hW' : Met g.1 M'.1 (Cond.code M'.1 M'.2.1 M'.2.2.1 none :: wsL_law) (rmM M' mc ms) (va_Pc (.ref b :: As) (Pg g σ)) (Qg g P) mc ms (gA g) := by
    have h0 := hW
    unfold Do wsM at h0
    rw [hr1] at h0
    exact h0
  have hgd : GoodIn (wsM M) (Cond.code M'.1 M'.2.1 M'.2.2.1 none :: wsL_law) := by
    have h0 := good_M (M := M) hw.2.2
    unfold wsM at h0 ⊢
    rw [hr1] at h0
    exact h0
  refine fr_back ⟨hx, hb, hr, hlk, hml, hown, hnm, hts, hK, hR, hS, hl, hbs⟩ (va_runI (As := As) (rest := st) ⟨hx, hb, hml, hown, hts⟩ hW' ⟨callB_of n hts hgd rfl rfl rfl (hts _ (List.mem_cons_of_mem _ hw.2.1)) (hts _ (List.mem_cons_of_mem _ hlk')) (okM_s hok).1 (okR hok hdp), hi1, (hts _ (List.mem_cons_of_mem _ hw.1))⟩ ⟨Pg.blind g _ σ, (fun U hU hW1 => ⟨rfl, by rw [hU]; exact Nat.le_trans hbs hS.1, by rw [hU]; exact hR, hK.moved hW1⟩)⟩ rfl hn hl.1 rfl (lv_room hst) hd hz) kk
theorem fr_callIN {g : GG} {M : MI} {Z : ZZ} {lv : LV} {st : List Value} {pc : Nat} {σ : Hs} {post : Option Value → Hs → Prop} {M' : MI} {idx n mc ms : Nat} {b : Nat} {As : List Value} {P : Option Value → Hs → Prop} (hw : Wi M') (hlk' : ∃ host, (M.1.cls, idx, M'.1, host) ∈ nwM) (hok : okM M' n = true) (hdp : M'.2.2.2.2 + 1 ≤ M.2.2.2.2) (hn : As.length = n) (hst : (st.map fun v => v.category).sum ≤ 8) (hd : decode M.2.1 pc = .ok (.invokespecial idx, 3)) (hz : Z.2.2.1 + mc ≤ Z.1 ∧ Z.2.2.2 + ms ≤ Z.2.1) (hr1 : M'.2.2.2.1 = none) (hi1 : M'.1.name = "<init>") (hW : Do g M' mc ms (.ref b :: As) σ P) (kk : ∀ v σ', P v σ' → Fr g M (Z.1, Z.2.1, Z.2.2.1 + mc, Z.2.2.2 + ms) lv (v.toList ++ st) (pc + 3) σ' post) : Fr g M Z lv (As.reverse ++ .ref b :: st) pc σ post := by
  intro p e s m args below meth c H locs ls ⟨hx, hb, hr, hlk, hml, hown, hnm, hts, hK, hR, hS, hl, hbs⟩
  obtain ⟨host, hnl⟩ := hlk'
  have hcode := hw.2.2
  rw [hr1] at hcode
  have hW' : Met g.1 M'.1 (Cond.code M'.1 M'.2.1 M'.2.2.1 none :: wsL_law) (rmM M' mc ms) (va_Pc (.ref b :: As) (Pg g σ)) (Qg g P) mc ms (gA g) := by
    have h0 := hW
    unfold Do wsM at h0
    rw [hr1] at h0
    exact h0
  have hgd : GoodIn (wsM M) (Cond.code M'.1 M'.2.1 M'.2.2.1 none :: wsL_law) := by
    have h0 := good_M (M := M) hw.2.2
    unfold wsM at h0 ⊢
    rw [hr1] at h0
    exact h0
  refine fr_back ⟨hx, hb, hr, hlk, hml, hown, hnm, hts, hK, hR, hS, hl, hbs⟩ (va_runIN (As := As) (rest := st) ⟨hx, hb, hml, hown, hts⟩ hW' ⟨va_cnB (host := host) n hts hgd rfl rfl rfl (hK.2.1 _ hnl) (hts _ (List.mem_cons_of_mem _ hw.2.1)) (okM_s hok).1 (okR hok hdp), hi1, (hts _ (List.mem_cons_of_mem _ hw.1))⟩ ⟨Pg.blind g _ σ, (fun U hU hW1 => ⟨rfl, by rw [hU]; exact Nat.le_trans hbs hS.1, by rw [hU]; exact hR, hK.moved hW1⟩)⟩ rfl hn hl.1 rfl (lv_room hst) hd hz) kk
theorem fr_obj {g : GG} {M : MI} {Z : ZZ} {lv : LV} {st : List Value} {pc : Nat} {σ : Hs} {post : Option Value → Hs → Prop} {idx a : Nat} (hw : Cond.methodLink M.1.cls idx objectInit ∈ wsL_law ∧ Cond.instanceMethod objectInit ∈ wsL_law ∧ Cond.code objectInit ⟨#[0xb1]⟩ 1 none ∈ wsL_law) (hdp : 1 ≤ M.2.2.2.2) (hst : (st.map fun v => v.category).sum ≤ 8) (hd : decode M.2.1 pc = .ok (.invokespecial idx, 3)) (kk : Fr g M Z lv st (pc + 3) σ post) : Fr g M Z lv (.ref a :: st) pc σ post := by
  intro p e s m args below meth c H locs ls ⟨hx, hb, hr, hlk, hml, hown, hnm, hts, hK, hR, hS, hl, hbs⟩
  refine W.objInit hx hb hown (hts _ (List.mem_cons_of_mem _ hw.1)) (hts _ (List.mem_cons_of_mem _ hw.2.1)) (hts _ (List.mem_cons_of_mem _ hw.2.2)) rfl (by rw [hml]; exact hl.1) rfl hd hdp (by show 2 * 0 + _ + 12 ≤ 39 * M.2.2.2.2; omega) ?_
  exact W.eq (g2 := F0 m (pc + 3) ls st) rfl (kk p e s m args below meth c H locs ls ⟨hx, hb, hr, hlk, hml, hown, hnm, hts, hK, hR, hS, hl, hbs⟩)
theorem fr_mmax {g : GG} {M : MI} {Z : ZZ} {lv : LV} {st : List Value} {pc : Nat} {σ : Hs} {post : Option Value → Hs → Prop} {idx : Nat} {x y : Int32} (hw : Cond.methodLink M.1.cls idx Lib.Math.max.name ∈ wsL_law ∧ Cond.static Lib.Math.max.name ∈ wsL_law ∧ Cond.initialized "java/lang/Math" ∈ wsL_law ∧ Cond.code Lib.Math.max.name Lib.Math.max.code 2 (some .int) ∈ wsL_law) (hdp : 1 ≤ M.2.2.2.2) (hst : (st.map fun v => v.category).sum ≤ 8) (hd : decode M.2.1 pc = .ok (.invokestatic idx, 3)) (hz : Z.2.2.1 ≤ Z.1 ∧ Z.2.2.2 ≤ Z.2.1) (kk : Fr g M Z lv (.int (if x < y then y else x) :: st) (pc + 3) σ post) : Fr g M Z lv (.int y :: .int x :: st) pc σ post := by
  intro p e s m args below meth c H locs ls ⟨hx, hb, hr, hlk, hml, hown, hnm, hts, hK, hR, hS, hl, hbs⟩
  exact va_mmax hx hb (hml.trans hl.1.symm) hown (hts _ (List.mem_cons_of_mem _ hw.1)) (hts _ (List.mem_cons_of_mem _ hw.2.1)) (hts _ (List.mem_cons_of_mem _ hw.2.2.1)) (hts _ (List.mem_cons_of_mem _ hw.2.2.2)) hdp (by show _ + 13 ≤ 39 * M.2.2.2.2; omega) hz.1 hz.2 hd (kk p e s m args below meth c H locs ls ⟨hx, hb, hr, hlk, hml, hown, hnm, hts, hK, hR, hS, hl, hbs⟩)
theorem fr_mmin {g : GG} {M : MI} {Z : ZZ} {lv : LV} {st : List Value} {pc : Nat} {σ : Hs} {post : Option Value → Hs → Prop} {idx : Nat} {x y : Int32} (hw : Cond.methodLink M.1.cls idx Lib.Math.min.name ∈ wsL_law ∧ Cond.static Lib.Math.min.name ∈ wsL_law ∧ Cond.initialized "java/lang/Math" ∈ wsL_law ∧ Cond.code Lib.Math.min.name Lib.Math.min.code 2 (some .int) ∈ wsL_law) (hdp : 1 ≤ M.2.2.2.2) (hst : (st.map fun v => v.category).sum ≤ 8) (hd : decode M.2.1 pc = .ok (.invokestatic idx, 3)) (hz : Z.2.2.1 ≤ Z.1 ∧ Z.2.2.2 ≤ Z.2.1) (kk : Fr g M Z lv (.int (if y < x then y else x) :: st) (pc + 3) σ post) : Fr g M Z lv (.int y :: .int x :: st) pc σ post := by
  intro p e s m args below meth c H locs ls ⟨hx, hb, hr, hlk, hml, hown, hnm, hts, hK, hR, hS, hl, hbs⟩
  exact va_mmin hx hb (hml.trans hl.1.symm) hown (hts _ (List.mem_cons_of_mem _ hw.1)) (hts _ (List.mem_cons_of_mem _ hw.2.1)) (hts _ (List.mem_cons_of_mem _ hw.2.2.1)) (hts _ (List.mem_cons_of_mem _ hw.2.2.2)) hdp (by show _ + 13 ≤ 39 * M.2.2.2.2; omega) hz.1 hz.2 hd (kk p e s m args below meth c H locs ls ⟨hx, hb, hr, hlk, hml, hown, hnm, hts, hK, hR, hS, hl, hbs⟩)
theorem fr_callV_I {g : GG} {M : MI} {Z : ZZ} {lv : LV} {st : List Value} {pc : Nat} {σ : Hs} {post : Option Value → Hs → Prop} {M' : MI} {idx n : Nat} {b ci N : Nat} {T : u_T} {ty : Nat → FieldType} {As : List Value} {φ : Int32 → Hs → Prop} (hw : Wv M') (hlk' : Cond.methodLink M.1.cls idx M'.1 ∈ wsL_law) (hok : okM M' n = true) (hdp : M'.2.2.2.2 + 1 ≤ M.2.2.2.2) (hn : As.length = n) (hst : (st.map fun v => v.category).sum ≤ 8) (hd : decode M.2.1 pc = .ok (.invokevirtual idx, 3)) (hz : Z.2.2.1 ≤ Z.1 ∧ Z.2.2.2 ≤ Z.2.1) (hc : Kc ci M'.1.cls T N ty) (hrc : Rc σ b ci) (hW : Do g M' 0 0 (.ref b :: As) σ (kI φ)) (kk : ∀ r σ', φ r σ' → Fr g M Z lv (.int r :: st) (pc + 3) σ' post) : Fr g M Z lv (As.reverse ++ .ref b :: st) pc σ post :=
  fr_callV hw hlk' hok hdp hn hst hd hz hc hrc hW (by rintro _ σ' ⟨r, rfl, h⟩; exact kk r σ' h)
theorem fr_callV_Ia {g : GG} {M : MI} {Z : ZZ} {lv : LV} {st : List Value} {pc : Nat} {σ : Hs} {post : Option Value → Hs → Prop} {M' : MI} {idx n mc ms : Nat} {b ci N : Nat} {T : u_T} {ty : Nat → FieldType} {As : List Value} {φ : Int32 → Hs → Prop} {Z' : ZZ} (hw : Wv M') (hlk' : Cond.methodLink M.1.cls idx M'.1 ∈ wsL_law) (hok : okM M' n = true) (hdp : M'.2.2.2.2 + 1 ≤ M.2.2.2.2) (hn : As.length = n) (hst : (st.map fun v => v.category).sum ≤ 8) (hd : decode M.2.1 pc = .ok (.invokevirtual idx, 3)) (hz : Z.2.2.1 + mc ≤ Z.1 ∧ Z.2.2.2 + ms ≤ Z.2.1) (hZ' : (Z.1, Z.2.1, Z.2.2.1 + mc, Z.2.2.2 + ms) = Z') (hc : Kc ci M'.1.cls T N ty) (hrc : Rc σ b ci) (hW : Do g M' mc ms (.ref b :: As) σ (kI φ)) (kk : ∀ r σ', φ r σ' → Fr g M Z' lv (.int r :: st) (pc + 3) σ' post) : Fr g M Z lv (As.reverse ++ .ref b :: st) pc σ post := by
  subst hZ'
  exact fr_callV hw hlk' hok hdp hn hst hd hz hc hrc hW (by rintro _ σ' ⟨r, rfl, h⟩; exact kk r σ' h)
theorem fr_callV_L {g : GG} {M : MI} {Z : ZZ} {lv : LV} {st : List Value} {pc : Nat} {σ : Hs} {post : Option Value → Hs → Prop} {M' : MI} {idx n : Nat} {b ci N : Nat} {T : u_T} {ty : Nat → FieldType} {As : List Value} {φ : Int64 → Hs → Prop} (hw : Wv M') (hlk' : Cond.methodLink M.1.cls idx M'.1 ∈ wsL_law) (hok : okM M' n = true) (hdp : M'.2.2.2.2 + 1 ≤ M.2.2.2.2) (hn : As.length = n) (hst : (st.map fun v => v.category).sum ≤ 8) (hd : decode M.2.1 pc = .ok (.invokevirtual idx, 3)) (hz : Z.2.2.1 ≤ Z.1 ∧ Z.2.2.2 ≤ Z.2.1) (hc : Kc ci M'.1.cls T N ty) (hrc : Rc σ b ci) (hW : Do g M' 0 0 (.ref b :: As) σ (kL φ)) (kk : ∀ r σ', φ r σ' → Fr g M Z lv (.long r :: st) (pc + 3) σ' post) : Fr g M Z lv (As.reverse ++ .ref b :: st) pc σ post :=
  fr_callV hw hlk' hok hdp hn hst hd hz hc hrc hW (by rintro _ σ' ⟨r, rfl, h⟩; exact kk r σ' h)
theorem fr_callV_La {g : GG} {M : MI} {Z : ZZ} {lv : LV} {st : List Value} {pc : Nat} {σ : Hs} {post : Option Value → Hs → Prop} {M' : MI} {idx n mc ms : Nat} {b ci N : Nat} {T : u_T} {ty : Nat → FieldType} {As : List Value} {φ : Int64 → Hs → Prop} {Z' : ZZ} (hw : Wv M') (hlk' : Cond.methodLink M.1.cls idx M'.1 ∈ wsL_law) (hok : okM M' n = true) (hdp : M'.2.2.2.2 + 1 ≤ M.2.2.2.2) (hn : As.length = n) (hst : (st.map fun v => v.category).sum ≤ 8) (hd : decode M.2.1 pc = .ok (.invokevirtual idx, 3)) (hz : Z.2.2.1 + mc ≤ Z.1 ∧ Z.2.2.2 + ms ≤ Z.2.1) (hZ' : (Z.1, Z.2.1, Z.2.2.1 + mc, Z.2.2.2 + ms) = Z') (hc : Kc ci M'.1.cls T N ty) (hrc : Rc σ b ci) (hW : Do g M' mc ms (.ref b :: As) σ (kL φ)) (kk : ∀ r σ', φ r σ' → Fr g M Z' lv (.long r :: st) (pc + 3) σ' post) : Fr g M Z lv (As.reverse ++ .ref b :: st) pc σ post := by
  subst hZ'
  exact fr_callV hw hlk' hok hdp hn hst hd hz hc hrc hW (by rintro _ σ' ⟨r, rfl, h⟩; exact kk r σ' h)
theorem fr_callV_V {g : GG} {M : MI} {Z : ZZ} {lv : LV} {st : List Value} {pc : Nat} {σ : Hs} {post : Option Value → Hs → Prop} {M' : MI} {idx n : Nat} {b ci N : Nat} {T : u_T} {ty : Nat → FieldType} {As : List Value} {φ : Hs → Prop} (hw : Wv M') (hlk' : Cond.methodLink M.1.cls idx M'.1 ∈ wsL_law) (hok : okM M' n = true) (hdp : M'.2.2.2.2 + 1 ≤ M.2.2.2.2) (hn : As.length = n) (hst : (st.map fun v => v.category).sum ≤ 8) (hd : decode M.2.1 pc = .ok (.invokevirtual idx, 3)) (hz : Z.2.2.1 ≤ Z.1 ∧ Z.2.2.2 ≤ Z.2.1) (hc : Kc ci M'.1.cls T N ty) (hrc : Rc σ b ci) (hW : Do g M' 0 0 (.ref b :: As) σ (kV φ)) (kk : ∀ σ', φ σ' → Fr g M Z lv st (pc + 3) σ' post) : Fr g M Z lv (As.reverse ++ .ref b :: st) pc σ post :=
  fr_callV hw hlk' hok hdp hn hst hd hz hc hrc hW (by rintro _ σ' ⟨rfl, h⟩; exact kk σ' h)
theorem fr_callV_Va {g : GG} {M : MI} {Z : ZZ} {lv : LV} {st : List Value} {pc : Nat} {σ : Hs} {post : Option Value → Hs → Prop} {M' : MI} {idx n mc ms : Nat} {b ci N : Nat} {T : u_T} {ty : Nat → FieldType} {As : List Value} {φ : Hs → Prop} {Z' : ZZ} (hw : Wv M') (hlk' : Cond.methodLink M.1.cls idx M'.1 ∈ wsL_law) (hok : okM M' n = true) (hdp : M'.2.2.2.2 + 1 ≤ M.2.2.2.2) (hn : As.length = n) (hst : (st.map fun v => v.category).sum ≤ 8) (hd : decode M.2.1 pc = .ok (.invokevirtual idx, 3)) (hz : Z.2.2.1 + mc ≤ Z.1 ∧ Z.2.2.2 + ms ≤ Z.2.1) (hZ' : (Z.1, Z.2.1, Z.2.2.1 + mc, Z.2.2.2 + ms) = Z') (hc : Kc ci M'.1.cls T N ty) (hrc : Rc σ b ci) (hW : Do g M' mc ms (.ref b :: As) σ (kV φ)) (kk : ∀ σ', φ σ' → Fr g M Z' lv st (pc + 3) σ' post) : Fr g M Z lv (As.reverse ++ .ref b :: st) pc σ post := by
  subst hZ'
  exact fr_callV hw hlk' hok hdp hn hst hd hz hc hrc hW (by rintro _ σ' ⟨rfl, h⟩; exact kk σ' h)
theorem fr_callV_A {g : GG} {M : MI} {Z : ZZ} {lv : LV} {st : List Value} {pc : Nat} {σ : Hs} {post : Option Value → Hs → Prop} {M' : MI} {idx n : Nat} {b ci N : Nat} {T : u_T} {ty : Nat → FieldType} {As : List Value} {φ0 : Hs → Prop} {φ1 : Nat → Hs → Prop} (hw : Wv M') (hlk' : Cond.methodLink M.1.cls idx M'.1 ∈ wsL_law) (hok : okM M' n = true) (hdp : M'.2.2.2.2 + 1 ≤ M.2.2.2.2) (hn : As.length = n) (hst : (st.map fun v => v.category).sum ≤ 8) (hd : decode M.2.1 pc = .ok (.invokevirtual idx, 3)) (hz : Z.2.2.1 ≤ Z.1 ∧ Z.2.2.2 ≤ Z.2.1) (hc : Kc ci M'.1.cls T N ty) (hrc : Rc σ b ci) (hW : Do g M' 0 0 (.ref b :: As) σ (kA φ0 φ1)) (k0 : ∀ σ', φ0 σ' → Fr g M Z lv (.null :: st) (pc + 3) σ' post) (kk : ∀ r σ', φ1 r σ' → Fr g M Z lv (.ref r :: st) (pc + 3) σ' post) : Fr g M Z lv (As.reverse ++ .ref b :: st) pc σ post :=
  fr_callV hw hlk' hok hdp hn hst hd hz hc hrc hW (by rintro _ σ' (⟨rfl, h⟩ | ⟨r, rfl, h⟩) <;> first | exact k0 σ' h | exact kk r σ' h)
theorem fr_callV_Aa {g : GG} {M : MI} {Z : ZZ} {lv : LV} {st : List Value} {pc : Nat} {σ : Hs} {post : Option Value → Hs → Prop} {M' : MI} {idx n mc ms : Nat} {b ci N : Nat} {T : u_T} {ty : Nat → FieldType} {As : List Value} {φ0 : Hs → Prop} {φ1 : Nat → Hs → Prop} {Z' : ZZ} (hw : Wv M') (hlk' : Cond.methodLink M.1.cls idx M'.1 ∈ wsL_law) (hok : okM M' n = true) (hdp : M'.2.2.2.2 + 1 ≤ M.2.2.2.2) (hn : As.length = n) (hst : (st.map fun v => v.category).sum ≤ 8) (hd : decode M.2.1 pc = .ok (.invokevirtual idx, 3)) (hz : Z.2.2.1 + mc ≤ Z.1 ∧ Z.2.2.2 + ms ≤ Z.2.1) (hZ' : (Z.1, Z.2.1, Z.2.2.1 + mc, Z.2.2.2 + ms) = Z') (hc : Kc ci M'.1.cls T N ty) (hrc : Rc σ b ci) (hW : Do g M' mc ms (.ref b :: As) σ (kA φ0 φ1)) (k0 : ∀ σ', φ0 σ' → Fr g M Z' lv (.null :: st) (pc + 3) σ' post) (kk : ∀ r σ', φ1 r σ' → Fr g M Z' lv (.ref r :: st) (pc + 3) σ' post) : Fr g M Z lv (As.reverse ++ .ref b :: st) pc σ post := by
  subst hZ'
  exact fr_callV hw hlk' hok hdp hn hst hd hz hc hrc hW (by rintro _ σ' (⟨rfl, h⟩ | ⟨r, rfl, h⟩) <;> first | exact k0 σ' h | exact kk r σ' h)
theorem fr_callVN_I {g : GG} {M : MI} {Z : ZZ} {lv : LV} {st : List Value} {pc : Nat} {σ : Hs} {post : Option Value → Hs → Prop} {M' : MI} {idx n : Nat} {b ci N : Nat} {T : u_T} {ty : Nat → FieldType} {As : List Value} {φ : Int32 → Hs → Prop} (hw : Wv M') (hlk' : ∃ host, (M.1.cls, idx, M'.1, host) ∈ nwM) (hok : okM M' n = true) (hdp : M'.2.2.2.2 + 1 ≤ M.2.2.2.2) (hn : As.length = n) (hst : (st.map fun v => v.category).sum ≤ 8) (hd : decode M.2.1 pc = .ok (.invokevirtual idx, 3)) (hz : Z.2.2.1 ≤ Z.1 ∧ Z.2.2.2 ≤ Z.2.1) (hc : Kc ci M'.1.cls T N ty) (hrc : Rc σ b ci) (hW : Do g M' 0 0 (.ref b :: As) σ (kI φ)) (kk : ∀ r σ', φ r σ' → Fr g M Z lv (.int r :: st) (pc + 3) σ' post) : Fr g M Z lv (As.reverse ++ .ref b :: st) pc σ post :=
  fr_callVN hw hlk' hok hdp hn hst hd hz hc hrc hW (by rintro _ σ' ⟨r, rfl, h⟩; exact kk r σ' h)
theorem fr_callVN_Ia {g : GG} {M : MI} {Z : ZZ} {lv : LV} {st : List Value} {pc : Nat} {σ : Hs} {post : Option Value → Hs → Prop} {M' : MI} {idx n mc ms : Nat} {b ci N : Nat} {T : u_T} {ty : Nat → FieldType} {As : List Value} {φ : Int32 → Hs → Prop} {Z' : ZZ} (hw : Wv M') (hlk' : ∃ host, (M.1.cls, idx, M'.1, host) ∈ nwM) (hok : okM M' n = true) (hdp : M'.2.2.2.2 + 1 ≤ M.2.2.2.2) (hn : As.length = n) (hst : (st.map fun v => v.category).sum ≤ 8) (hd : decode M.2.1 pc = .ok (.invokevirtual idx, 3)) (hz : Z.2.2.1 + mc ≤ Z.1 ∧ Z.2.2.2 + ms ≤ Z.2.1) (hZ' : (Z.1, Z.2.1, Z.2.2.1 + mc, Z.2.2.2 + ms) = Z') (hc : Kc ci M'.1.cls T N ty) (hrc : Rc σ b ci) (hW : Do g M' mc ms (.ref b :: As) σ (kI φ)) (kk : ∀ r σ', φ r σ' → Fr g M Z' lv (.int r :: st) (pc + 3) σ' post) : Fr g M Z lv (As.reverse ++ .ref b :: st) pc σ post := by
  subst hZ'
  exact fr_callVN hw hlk' hok hdp hn hst hd hz hc hrc hW (by rintro _ σ' ⟨r, rfl, h⟩; exact kk r σ' h)
theorem fr_callVN_L {g : GG} {M : MI} {Z : ZZ} {lv : LV} {st : List Value} {pc : Nat} {σ : Hs} {post : Option Value → Hs → Prop} {M' : MI} {idx n : Nat} {b ci N : Nat} {T : u_T} {ty : Nat → FieldType} {As : List Value} {φ : Int64 → Hs → Prop} (hw : Wv M') (hlk' : ∃ host, (M.1.cls, idx, M'.1, host) ∈ nwM) (hok : okM M' n = true) (hdp : M'.2.2.2.2 + 1 ≤ M.2.2.2.2) (hn : As.length = n) (hst : (st.map fun v => v.category).sum ≤ 8) (hd : decode M.2.1 pc = .ok (.invokevirtual idx, 3)) (hz : Z.2.2.1 ≤ Z.1 ∧ Z.2.2.2 ≤ Z.2.1) (hc : Kc ci M'.1.cls T N ty) (hrc : Rc σ b ci) (hW : Do g M' 0 0 (.ref b :: As) σ (kL φ)) (kk : ∀ r σ', φ r σ' → Fr g M Z lv (.long r :: st) (pc + 3) σ' post) : Fr g M Z lv (As.reverse ++ .ref b :: st) pc σ post :=
  fr_callVN hw hlk' hok hdp hn hst hd hz hc hrc hW (by rintro _ σ' ⟨r, rfl, h⟩; exact kk r σ' h)
theorem fr_callVN_La {g : GG} {M : MI} {Z : ZZ} {lv : LV} {st : List Value} {pc : Nat} {σ : Hs} {post : Option Value → Hs → Prop} {M' : MI} {idx n mc ms : Nat} {b ci N : Nat} {T : u_T} {ty : Nat → FieldType} {As : List Value} {φ : Int64 → Hs → Prop} {Z' : ZZ} (hw : Wv M') (hlk' : ∃ host, (M.1.cls, idx, M'.1, host) ∈ nwM) (hok : okM M' n = true) (hdp : M'.2.2.2.2 + 1 ≤ M.2.2.2.2) (hn : As.length = n) (hst : (st.map fun v => v.category).sum ≤ 8) (hd : decode M.2.1 pc = .ok (.invokevirtual idx, 3)) (hz : Z.2.2.1 + mc ≤ Z.1 ∧ Z.2.2.2 + ms ≤ Z.2.1) (hZ' : (Z.1, Z.2.1, Z.2.2.1 + mc, Z.2.2.2 + ms) = Z') (hc : Kc ci M'.1.cls T N ty) (hrc : Rc σ b ci) (hW : Do g M' mc ms (.ref b :: As) σ (kL φ)) (kk : ∀ r σ', φ r σ' → Fr g M Z' lv (.long r :: st) (pc + 3) σ' post) : Fr g M Z lv (As.reverse ++ .ref b :: st) pc σ post := by
  subst hZ'
  exact fr_callVN hw hlk' hok hdp hn hst hd hz hc hrc hW (by rintro _ σ' ⟨r, rfl, h⟩; exact kk r σ' h)
theorem fr_callVN_V {g : GG} {M : MI} {Z : ZZ} {lv : LV} {st : List Value} {pc : Nat} {σ : Hs} {post : Option Value → Hs → Prop} {M' : MI} {idx n : Nat} {b ci N : Nat} {T : u_T} {ty : Nat → FieldType} {As : List Value} {φ : Hs → Prop} (hw : Wv M') (hlk' : ∃ host, (M.1.cls, idx, M'.1, host) ∈ nwM) (hok : okM M' n = true) (hdp : M'.2.2.2.2 + 1 ≤ M.2.2.2.2) (hn : As.length = n) (hst : (st.map fun v => v.category).sum ≤ 8) (hd : decode M.2.1 pc = .ok (.invokevirtual idx, 3)) (hz : Z.2.2.1 ≤ Z.1 ∧ Z.2.2.2 ≤ Z.2.1) (hc : Kc ci M'.1.cls T N ty) (hrc : Rc σ b ci) (hW : Do g M' 0 0 (.ref b :: As) σ (kV φ)) (kk : ∀ σ', φ σ' → Fr g M Z lv st (pc + 3) σ' post) : Fr g M Z lv (As.reverse ++ .ref b :: st) pc σ post :=
  fr_callVN hw hlk' hok hdp hn hst hd hz hc hrc hW (by rintro _ σ' ⟨rfl, h⟩; exact kk σ' h)
theorem fr_callVN_Va {g : GG} {M : MI} {Z : ZZ} {lv : LV} {st : List Value} {pc : Nat} {σ : Hs} {post : Option Value → Hs → Prop} {M' : MI} {idx n mc ms : Nat} {b ci N : Nat} {T : u_T} {ty : Nat → FieldType} {As : List Value} {φ : Hs → Prop} {Z' : ZZ} (hw : Wv M') (hlk' : ∃ host, (M.1.cls, idx, M'.1, host) ∈ nwM) (hok : okM M' n = true) (hdp : M'.2.2.2.2 + 1 ≤ M.2.2.2.2) (hn : As.length = n) (hst : (st.map fun v => v.category).sum ≤ 8) (hd : decode M.2.1 pc = .ok (.invokevirtual idx, 3)) (hz : Z.2.2.1 + mc ≤ Z.1 ∧ Z.2.2.2 + ms ≤ Z.2.1) (hZ' : (Z.1, Z.2.1, Z.2.2.1 + mc, Z.2.2.2 + ms) = Z') (hc : Kc ci M'.1.cls T N ty) (hrc : Rc σ b ci) (hW : Do g M' mc ms (.ref b :: As) σ (kV φ)) (kk : ∀ σ', φ σ' → Fr g M Z' lv st (pc + 3) σ' post) : Fr g M Z lv (As.reverse ++ .ref b :: st) pc σ post := by
  subst hZ'
  exact fr_callVN hw hlk' hok hdp hn hst hd hz hc hrc hW (by rintro _ σ' ⟨rfl, h⟩; exact kk σ' h)
theorem fr_callVN_A {g : GG} {M : MI} {Z : ZZ} {lv : LV} {st : List Value} {pc : Nat} {σ : Hs} {post : Option Value → Hs → Prop} {M' : MI} {idx n : Nat} {b ci N : Nat} {T : u_T} {ty : Nat → FieldType} {As : List Value} {φ0 : Hs → Prop} {φ1 : Nat → Hs → Prop} (hw : Wv M') (hlk' : ∃ host, (M.1.cls, idx, M'.1, host) ∈ nwM) (hok : okM M' n = true) (hdp : M'.2.2.2.2 + 1 ≤ M.2.2.2.2) (hn : As.length = n) (hst : (st.map fun v => v.category).sum ≤ 8) (hd : decode M.2.1 pc = .ok (.invokevirtual idx, 3)) (hz : Z.2.2.1 ≤ Z.1 ∧ Z.2.2.2 ≤ Z.2.1) (hc : Kc ci M'.1.cls T N ty) (hrc : Rc σ b ci) (hW : Do g M' 0 0 (.ref b :: As) σ (kA φ0 φ1)) (k0 : ∀ σ', φ0 σ' → Fr g M Z lv (.null :: st) (pc + 3) σ' post) (kk : ∀ r σ', φ1 r σ' → Fr g M Z lv (.ref r :: st) (pc + 3) σ' post) : Fr g M Z lv (As.reverse ++ .ref b :: st) pc σ post :=
  fr_callVN hw hlk' hok hdp hn hst hd hz hc hrc hW (by rintro _ σ' (⟨rfl, h⟩ | ⟨r, rfl, h⟩) <;> first | exact k0 σ' h | exact kk r σ' h)
theorem fr_callVN_Aa {g : GG} {M : MI} {Z : ZZ} {lv : LV} {st : List Value} {pc : Nat} {σ : Hs} {post : Option Value → Hs → Prop} {M' : MI} {idx n mc ms : Nat} {b ci N : Nat} {T : u_T} {ty : Nat → FieldType} {As : List Value} {φ0 : Hs → Prop} {φ1 : Nat → Hs → Prop} {Z' : ZZ} (hw : Wv M') (hlk' : ∃ host, (M.1.cls, idx, M'.1, host) ∈ nwM) (hok : okM M' n = true) (hdp : M'.2.2.2.2 + 1 ≤ M.2.2.2.2) (hn : As.length = n) (hst : (st.map fun v => v.category).sum ≤ 8) (hd : decode M.2.1 pc = .ok (.invokevirtual idx, 3)) (hz : Z.2.2.1 + mc ≤ Z.1 ∧ Z.2.2.2 + ms ≤ Z.2.1) (hZ' : (Z.1, Z.2.1, Z.2.2.1 + mc, Z.2.2.2 + ms) = Z') (hc : Kc ci M'.1.cls T N ty) (hrc : Rc σ b ci) (hW : Do g M' mc ms (.ref b :: As) σ (kA φ0 φ1)) (k0 : ∀ σ', φ0 σ' → Fr g M Z' lv (.null :: st) (pc + 3) σ' post) (kk : ∀ r σ', φ1 r σ' → Fr g M Z' lv (.ref r :: st) (pc + 3) σ' post) : Fr g M Z lv (As.reverse ++ .ref b :: st) pc σ post := by
  subst hZ'
  exact fr_callVN hw hlk' hok hdp hn hst hd hz hc hrc hW (by rintro _ σ' (⟨rfl, h⟩ | ⟨r, rfl, h⟩) <;> first | exact k0 σ' h | exact kk r σ' h)
theorem fr_callS_I {g : GG} {M : MI} {Z : ZZ} {lv : LV} {st : List Value} {pc : Nat} {σ : Hs} {post : Option Value → Hs → Prop} {M' : MI} {idx n : Nat} {As : List Value} {φ : Int32 → Hs → Prop} (hw : Ws M') (hlk' : Cond.methodLink M.1.cls idx M'.1 ∈ wsL_law) (hok : okM M' n = true) (hdp : M'.2.2.2.2 + 1 ≤ M.2.2.2.2) (hn : As.length = n) (hst : (st.map fun v => v.category).sum ≤ 8) (hd : decode M.2.1 pc = .ok (.invokestatic idx, 3)) (hz : Z.2.2.1 ≤ Z.1 ∧ Z.2.2.2 ≤ Z.2.1) (hW : Do g M' 0 0 (As) σ (kI φ)) (kk : ∀ r σ', φ r σ' → Fr g M Z lv (.int r :: st) (pc + 3) σ' post) : Fr g M Z lv (As.reverse ++ st) pc σ post :=
  fr_callS hw hlk' hok hdp hn hst hd hz hW (by rintro _ σ' ⟨r, rfl, h⟩; exact kk r σ' h)
theorem fr_callS_Ia {g : GG} {M : MI} {Z : ZZ} {lv : LV} {st : List Value} {pc : Nat} {σ : Hs} {post : Option Value → Hs → Prop} {M' : MI} {idx n mc ms : Nat} {As : List Value} {φ : Int32 → Hs → Prop} {Z' : ZZ} (hw : Ws M') (hlk' : Cond.methodLink M.1.cls idx M'.1 ∈ wsL_law) (hok : okM M' n = true) (hdp : M'.2.2.2.2 + 1 ≤ M.2.2.2.2) (hn : As.length = n) (hst : (st.map fun v => v.category).sum ≤ 8) (hd : decode M.2.1 pc = .ok (.invokestatic idx, 3)) (hz : Z.2.2.1 + mc ≤ Z.1 ∧ Z.2.2.2 + ms ≤ Z.2.1) (hZ' : (Z.1, Z.2.1, Z.2.2.1 + mc, Z.2.2.2 + ms) = Z') (hW : Do g M' mc ms (As) σ (kI φ)) (kk : ∀ r σ', φ r σ' → Fr g M Z' lv (.int r :: st) (pc + 3) σ' post) : Fr g M Z lv (As.reverse ++ st) pc σ post := by
  subst hZ'
  exact fr_callS hw hlk' hok hdp hn hst hd hz hW (by rintro _ σ' ⟨r, rfl, h⟩; exact kk r σ' h)
theorem fr_callS_L {g : GG} {M : MI} {Z : ZZ} {lv : LV} {st : List Value} {pc : Nat} {σ : Hs} {post : Option Value → Hs → Prop} {M' : MI} {idx n : Nat} {As : List Value} {φ : Int64 → Hs → Prop} (hw : Ws M') (hlk' : Cond.methodLink M.1.cls idx M'.1 ∈ wsL_law) (hok : okM M' n = true) (hdp : M'.2.2.2.2 + 1 ≤ M.2.2.2.2) (hn : As.length = n) (hst : (st.map fun v => v.category).sum ≤ 8) (hd : decode M.2.1 pc = .ok (.invokestatic idx, 3)) (hz : Z.2.2.1 ≤ Z.1 ∧ Z.2.2.2 ≤ Z.2.1) (hW : Do g M' 0 0 (As) σ (kL φ)) (kk : ∀ r σ', φ r σ' → Fr g M Z lv (.long r :: st) (pc + 3) σ' post) : Fr g M Z lv (As.reverse ++ st) pc σ post :=
  fr_callS hw hlk' hok hdp hn hst hd hz hW (by rintro _ σ' ⟨r, rfl, h⟩; exact kk r σ' h)
theorem fr_callS_La {g : GG} {M : MI} {Z : ZZ} {lv : LV} {st : List Value} {pc : Nat} {σ : Hs} {post : Option Value → Hs → Prop} {M' : MI} {idx n mc ms : Nat} {As : List Value} {φ : Int64 → Hs → Prop} {Z' : ZZ} (hw : Ws M') (hlk' : Cond.methodLink M.1.cls idx M'.1 ∈ wsL_law) (hok : okM M' n = true) (hdp : M'.2.2.2.2 + 1 ≤ M.2.2.2.2) (hn : As.length = n) (hst : (st.map fun v => v.category).sum ≤ 8) (hd : decode M.2.1 pc = .ok (.invokestatic idx, 3)) (hz : Z.2.2.1 + mc ≤ Z.1 ∧ Z.2.2.2 + ms ≤ Z.2.1) (hZ' : (Z.1, Z.2.1, Z.2.2.1 + mc, Z.2.2.2 + ms) = Z') (hW : Do g M' mc ms (As) σ (kL φ)) (kk : ∀ r σ', φ r σ' → Fr g M Z' lv (.long r :: st) (pc + 3) σ' post) : Fr g M Z lv (As.reverse ++ st) pc σ post := by
  subst hZ'
  exact fr_callS hw hlk' hok hdp hn hst hd hz hW (by rintro _ σ' ⟨r, rfl, h⟩; exact kk r σ' h)
theorem fr_callS_V {g : GG} {M : MI} {Z : ZZ} {lv : LV} {st : List Value} {pc : Nat} {σ : Hs} {post : Option Value → Hs → Prop} {M' : MI} {idx n : Nat} {As : List Value} {φ : Hs → Prop} (hw : Ws M') (hlk' : Cond.methodLink M.1.cls idx M'.1 ∈ wsL_law) (hok : okM M' n = true) (hdp : M'.2.2.2.2 + 1 ≤ M.2.2.2.2) (hn : As.length = n) (hst : (st.map fun v => v.category).sum ≤ 8) (hd : decode M.2.1 pc = .ok (.invokestatic idx, 3)) (hz : Z.2.2.1 ≤ Z.1 ∧ Z.2.2.2 ≤ Z.2.1) (hW : Do g M' 0 0 (As) σ (kV φ)) (kk : ∀ σ', φ σ' → Fr g M Z lv st (pc + 3) σ' post) : Fr g M Z lv (As.reverse ++ st) pc σ post :=
  fr_callS hw hlk' hok hdp hn hst hd hz hW (by rintro _ σ' ⟨rfl, h⟩; exact kk σ' h)
theorem fr_callS_Va {g : GG} {M : MI} {Z : ZZ} {lv : LV} {st : List Value} {pc : Nat} {σ : Hs} {post : Option Value → Hs → Prop} {M' : MI} {idx n mc ms : Nat} {As : List Value} {φ : Hs → Prop} {Z' : ZZ} (hw : Ws M') (hlk' : Cond.methodLink M.1.cls idx M'.1 ∈ wsL_law) (hok : okM M' n = true) (hdp : M'.2.2.2.2 + 1 ≤ M.2.2.2.2) (hn : As.length = n) (hst : (st.map fun v => v.category).sum ≤ 8) (hd : decode M.2.1 pc = .ok (.invokestatic idx, 3)) (hz : Z.2.2.1 + mc ≤ Z.1 ∧ Z.2.2.2 + ms ≤ Z.2.1) (hZ' : (Z.1, Z.2.1, Z.2.2.1 + mc, Z.2.2.2 + ms) = Z') (hW : Do g M' mc ms (As) σ (kV φ)) (kk : ∀ σ', φ σ' → Fr g M Z' lv st (pc + 3) σ' post) : Fr g M Z lv (As.reverse ++ st) pc σ post := by
  subst hZ'
  exact fr_callS hw hlk' hok hdp hn hst hd hz hW (by rintro _ σ' ⟨rfl, h⟩; exact kk σ' h)
theorem fr_callS_A {g : GG} {M : MI} {Z : ZZ} {lv : LV} {st : List Value} {pc : Nat} {σ : Hs} {post : Option Value → Hs → Prop} {M' : MI} {idx n : Nat} {As : List Value} {φ0 : Hs → Prop} {φ1 : Nat → Hs → Prop} (hw : Ws M') (hlk' : Cond.methodLink M.1.cls idx M'.1 ∈ wsL_law) (hok : okM M' n = true) (hdp : M'.2.2.2.2 + 1 ≤ M.2.2.2.2) (hn : As.length = n) (hst : (st.map fun v => v.category).sum ≤ 8) (hd : decode M.2.1 pc = .ok (.invokestatic idx, 3)) (hz : Z.2.2.1 ≤ Z.1 ∧ Z.2.2.2 ≤ Z.2.1) (hW : Do g M' 0 0 (As) σ (kA φ0 φ1)) (k0 : ∀ σ', φ0 σ' → Fr g M Z lv (.null :: st) (pc + 3) σ' post) (kk : ∀ r σ', φ1 r σ' → Fr g M Z lv (.ref r :: st) (pc + 3) σ' post) : Fr g M Z lv (As.reverse ++ st) pc σ post :=
  fr_callS hw hlk' hok hdp hn hst hd hz hW (by rintro _ σ' (⟨rfl, h⟩ | ⟨r, rfl, h⟩) <;> first | exact k0 σ' h | exact kk r σ' h)
theorem fr_callS_Aa {g : GG} {M : MI} {Z : ZZ} {lv : LV} {st : List Value} {pc : Nat} {σ : Hs} {post : Option Value → Hs → Prop} {M' : MI} {idx n mc ms : Nat} {As : List Value} {φ0 : Hs → Prop} {φ1 : Nat → Hs → Prop} {Z' : ZZ} (hw : Ws M') (hlk' : Cond.methodLink M.1.cls idx M'.1 ∈ wsL_law) (hok : okM M' n = true) (hdp : M'.2.2.2.2 + 1 ≤ M.2.2.2.2) (hn : As.length = n) (hst : (st.map fun v => v.category).sum ≤ 8) (hd : decode M.2.1 pc = .ok (.invokestatic idx, 3)) (hz : Z.2.2.1 + mc ≤ Z.1 ∧ Z.2.2.2 + ms ≤ Z.2.1) (hZ' : (Z.1, Z.2.1, Z.2.2.1 + mc, Z.2.2.2 + ms) = Z') (hW : Do g M' mc ms (As) σ (kA φ0 φ1)) (k0 : ∀ σ', φ0 σ' → Fr g M Z' lv (.null :: st) (pc + 3) σ' post) (kk : ∀ r σ', φ1 r σ' → Fr g M Z' lv (.ref r :: st) (pc + 3) σ' post) : Fr g M Z lv (As.reverse ++ st) pc σ post := by
  subst hZ'
  exact fr_callS hw hlk' hok hdp hn hst hd hz hW (by rintro _ σ' (⟨rfl, h⟩ | ⟨r, rfl, h⟩) <;> first | exact k0 σ' h | exact kk r σ' h)
theorem fr_callSN_I {g : GG} {M : MI} {Z : ZZ} {lv : LV} {st : List Value} {pc : Nat} {σ : Hs} {post : Option Value → Hs → Prop} {M' : MI} {idx n : Nat} {As : List Value} {φ : Int32 → Hs → Prop} (hw : Ws M') (hlk' : ∃ host, (M.1.cls, idx, M'.1, host) ∈ nwM) (hok : okM M' n = true) (hdp : M'.2.2.2.2 + 1 ≤ M.2.2.2.2) (hn : As.length = n) (hst : (st.map fun v => v.category).sum ≤ 8) (hd : decode M.2.1 pc = .ok (.invokestatic idx, 3)) (hz : Z.2.2.1 ≤ Z.1 ∧ Z.2.2.2 ≤ Z.2.1) (hW : Do g M' 0 0 (As) σ (kI φ)) (kk : ∀ r σ', φ r σ' → Fr g M Z lv (.int r :: st) (pc + 3) σ' post) : Fr g M Z lv (As.reverse ++ st) pc σ post :=
  fr_callSN hw hlk' hok hdp hn hst hd hz hW (by rintro _ σ' ⟨r, rfl, h⟩; exact kk r σ' h)
theorem fr_callSN_Ia {g : GG} {M : MI} {Z : ZZ} {lv : LV} {st : List Value} {pc : Nat} {σ : Hs} {post : Option Value → Hs → Prop} {M' : MI} {idx n mc ms : Nat} {As : List Value} {φ : Int32 → Hs → Prop} {Z' : ZZ} (hw : Ws M') (hlk' : ∃ host, (M.1.cls, idx, M'.1, host) ∈ nwM) (hok : okM M' n = true) (hdp : M'.2.2.2.2 + 1 ≤ M.2.2.2.2) (hn : As.length = n) (hst : (st.map fun v => v.category).sum ≤ 8) (hd : decode M.2.1 pc = .ok (.invokestatic idx, 3)) (hz : Z.2.2.1 + mc ≤ Z.1 ∧ Z.2.2.2 + ms ≤ Z.2.1) (hZ' : (Z.1, Z.2.1, Z.2.2.1 + mc, Z.2.2.2 + ms) = Z') (hW : Do g M' mc ms (As) σ (kI φ)) (kk : ∀ r σ', φ r σ' → Fr g M Z' lv (.int r :: st) (pc + 3) σ' post) : Fr g M Z lv (As.reverse ++ st) pc σ post := by
  subst hZ'
  exact fr_callSN hw hlk' hok hdp hn hst hd hz hW (by rintro _ σ' ⟨r, rfl, h⟩; exact kk r σ' h)
theorem fr_callSN_L {g : GG} {M : MI} {Z : ZZ} {lv : LV} {st : List Value} {pc : Nat} {σ : Hs} {post : Option Value → Hs → Prop} {M' : MI} {idx n : Nat} {As : List Value} {φ : Int64 → Hs → Prop} (hw : Ws M') (hlk' : ∃ host, (M.1.cls, idx, M'.1, host) ∈ nwM) (hok : okM M' n = true) (hdp : M'.2.2.2.2 + 1 ≤ M.2.2.2.2) (hn : As.length = n) (hst : (st.map fun v => v.category).sum ≤ 8) (hd : decode M.2.1 pc = .ok (.invokestatic idx, 3)) (hz : Z.2.2.1 ≤ Z.1 ∧ Z.2.2.2 ≤ Z.2.1) (hW : Do g M' 0 0 (As) σ (kL φ)) (kk : ∀ r σ', φ r σ' → Fr g M Z lv (.long r :: st) (pc + 3) σ' post) : Fr g M Z lv (As.reverse ++ st) pc σ post :=
  fr_callSN hw hlk' hok hdp hn hst hd hz hW (by rintro _ σ' ⟨r, rfl, h⟩; exact kk r σ' h)
theorem fr_callSN_La {g : GG} {M : MI} {Z : ZZ} {lv : LV} {st : List Value} {pc : Nat} {σ : Hs} {post : Option Value → Hs → Prop} {M' : MI} {idx n mc ms : Nat} {As : List Value} {φ : Int64 → Hs → Prop} {Z' : ZZ} (hw : Ws M') (hlk' : ∃ host, (M.1.cls, idx, M'.1, host) ∈ nwM) (hok : okM M' n = true) (hdp : M'.2.2.2.2 + 1 ≤ M.2.2.2.2) (hn : As.length = n) (hst : (st.map fun v => v.category).sum ≤ 8) (hd : decode M.2.1 pc = .ok (.invokestatic idx, 3)) (hz : Z.2.2.1 + mc ≤ Z.1 ∧ Z.2.2.2 + ms ≤ Z.2.1) (hZ' : (Z.1, Z.2.1, Z.2.2.1 + mc, Z.2.2.2 + ms) = Z') (hW : Do g M' mc ms (As) σ (kL φ)) (kk : ∀ r σ', φ r σ' → Fr g M Z' lv (.long r :: st) (pc + 3) σ' post) : Fr g M Z lv (As.reverse ++ st) pc σ post := by
  subst hZ'
  exact fr_callSN hw hlk' hok hdp hn hst hd hz hW (by rintro _ σ' ⟨r, rfl, h⟩; exact kk r σ' h)
theorem fr_callSN_V {g : GG} {M : MI} {Z : ZZ} {lv : LV} {st : List Value} {pc : Nat} {σ : Hs} {post : Option Value → Hs → Prop} {M' : MI} {idx n : Nat} {As : List Value} {φ : Hs → Prop} (hw : Ws M') (hlk' : ∃ host, (M.1.cls, idx, M'.1, host) ∈ nwM) (hok : okM M' n = true) (hdp : M'.2.2.2.2 + 1 ≤ M.2.2.2.2) (hn : As.length = n) (hst : (st.map fun v => v.category).sum ≤ 8) (hd : decode M.2.1 pc = .ok (.invokestatic idx, 3)) (hz : Z.2.2.1 ≤ Z.1 ∧ Z.2.2.2 ≤ Z.2.1) (hW : Do g M' 0 0 (As) σ (kV φ)) (kk : ∀ σ', φ σ' → Fr g M Z lv st (pc + 3) σ' post) : Fr g M Z lv (As.reverse ++ st) pc σ post :=
  fr_callSN hw hlk' hok hdp hn hst hd hz hW (by rintro _ σ' ⟨rfl, h⟩; exact kk σ' h)
theorem fr_callSN_Va {g : GG} {M : MI} {Z : ZZ} {lv : LV} {st : List Value} {pc : Nat} {σ : Hs} {post : Option Value → Hs → Prop} {M' : MI} {idx n mc ms : Nat} {As : List Value} {φ : Hs → Prop} {Z' : ZZ} (hw : Ws M') (hlk' : ∃ host, (M.1.cls, idx, M'.1, host) ∈ nwM) (hok : okM M' n = true) (hdp : M'.2.2.2.2 + 1 ≤ M.2.2.2.2) (hn : As.length = n) (hst : (st.map fun v => v.category).sum ≤ 8) (hd : decode M.2.1 pc = .ok (.invokestatic idx, 3)) (hz : Z.2.2.1 + mc ≤ Z.1 ∧ Z.2.2.2 + ms ≤ Z.2.1) (hZ' : (Z.1, Z.2.1, Z.2.2.1 + mc, Z.2.2.2 + ms) = Z') (hW : Do g M' mc ms (As) σ (kV φ)) (kk : ∀ σ', φ σ' → Fr g M Z' lv st (pc + 3) σ' post) : Fr g M Z lv (As.reverse ++ st) pc σ post := by
  subst hZ'
  exact fr_callSN hw hlk' hok hdp hn hst hd hz hW (by rintro _ σ' ⟨rfl, h⟩; exact kk σ' h)
theorem fr_callSN_A {g : GG} {M : MI} {Z : ZZ} {lv : LV} {st : List Value} {pc : Nat} {σ : Hs} {post : Option Value → Hs → Prop} {M' : MI} {idx n : Nat} {As : List Value} {φ0 : Hs → Prop} {φ1 : Nat → Hs → Prop} (hw : Ws M') (hlk' : ∃ host, (M.1.cls, idx, M'.1, host) ∈ nwM) (hok : okM M' n = true) (hdp : M'.2.2.2.2 + 1 ≤ M.2.2.2.2) (hn : As.length = n) (hst : (st.map fun v => v.category).sum ≤ 8) (hd : decode M.2.1 pc = .ok (.invokestatic idx, 3)) (hz : Z.2.2.1 ≤ Z.1 ∧ Z.2.2.2 ≤ Z.2.1) (hW : Do g M' 0 0 (As) σ (kA φ0 φ1)) (k0 : ∀ σ', φ0 σ' → Fr g M Z lv (.null :: st) (pc + 3) σ' post) (kk : ∀ r σ', φ1 r σ' → Fr g M Z lv (.ref r :: st) (pc + 3) σ' post) : Fr g M Z lv (As.reverse ++ st) pc σ post :=
  fr_callSN hw hlk' hok hdp hn hst hd hz hW (by rintro _ σ' (⟨rfl, h⟩ | ⟨r, rfl, h⟩) <;> first | exact k0 σ' h | exact kk r σ' h)
theorem fr_callSN_Aa {g : GG} {M : MI} {Z : ZZ} {lv : LV} {st : List Value} {pc : Nat} {σ : Hs} {post : Option Value → Hs → Prop} {M' : MI} {idx n mc ms : Nat} {As : List Value} {φ0 : Hs → Prop} {φ1 : Nat → Hs → Prop} {Z' : ZZ} (hw : Ws M') (hlk' : ∃ host, (M.1.cls, idx, M'.1, host) ∈ nwM) (hok : okM M' n = true) (hdp : M'.2.2.2.2 + 1 ≤ M.2.2.2.2) (hn : As.length = n) (hst : (st.map fun v => v.category).sum ≤ 8) (hd : decode M.2.1 pc = .ok (.invokestatic idx, 3)) (hz : Z.2.2.1 + mc ≤ Z.1 ∧ Z.2.2.2 + ms ≤ Z.2.1) (hZ' : (Z.1, Z.2.1, Z.2.2.1 + mc, Z.2.2.2 + ms) = Z') (hW : Do g M' mc ms (As) σ (kA φ0 φ1)) (k0 : ∀ σ', φ0 σ' → Fr g M Z' lv (.null :: st) (pc + 3) σ' post) (kk : ∀ r σ', φ1 r σ' → Fr g M Z' lv (.ref r :: st) (pc + 3) σ' post) : Fr g M Z lv (As.reverse ++ st) pc σ post := by
  subst hZ'
  exact fr_callSN hw hlk' hok hdp hn hst hd hz hW (by rintro _ σ' (⟨rfl, h⟩ | ⟨r, rfl, h⟩) <;> first | exact k0 σ' h | exact kk r σ' h)
theorem fr_callI_V {g : GG} {M : MI} {Z : ZZ} {lv : LV} {st : List Value} {pc : Nat} {σ : Hs} {post : Option Value → Hs → Prop} {M' : MI} {idx n : Nat} {b : Nat} {As : List Value} {φ : Hs → Prop} (hw : Wi M') (hlk' : Cond.methodLink M.1.cls idx M'.1 ∈ wsL_law) (hok : okM M' n = true) (hdp : M'.2.2.2.2 + 1 ≤ M.2.2.2.2) (hn : As.length = n) (hst : (st.map fun v => v.category).sum ≤ 8) (hd : decode M.2.1 pc = .ok (.invokespecial idx, 3)) (hz : Z.2.2.1 ≤ Z.1 ∧ Z.2.2.2 ≤ Z.2.1) (hr1 : M'.2.2.2.1 = none) (hi1 : M'.1.name = "<init>") (hW : Do g M' 0 0 (.ref b :: As) σ (kV φ)) (kk : ∀ σ', φ σ' → Fr g M Z lv st (pc + 3) σ' post) : Fr g M Z lv (As.reverse ++ .ref b :: st) pc σ post :=
  fr_callI hw hlk' hok hdp hn hst hd hz hr1 hi1 hW (by rintro _ σ' ⟨rfl, h⟩; exact kk σ' h)
theorem fr_callI_Va {g : GG} {M : MI} {Z : ZZ} {lv : LV} {st : List Value} {pc : Nat} {σ : Hs} {post : Option Value → Hs → Prop} {M' : MI} {idx n mc ms : Nat} {b : Nat} {As : List Value} {φ : Hs → Prop} {Z' : ZZ} (hw : Wi M') (hlk' : Cond.methodLink M.1.cls idx M'.1 ∈ wsL_law) (hok : okM M' n = true) (hdp : M'.2.2.2.2 + 1 ≤ M.2.2.2.2) (hn : As.length = n) (hst : (st.map fun v => v.category).sum ≤ 8) (hd : decode M.2.1 pc = .ok (.invokespecial idx, 3)) (hz : Z.2.2.1 + mc ≤ Z.1 ∧ Z.2.2.2 + ms ≤ Z.2.1) (hZ' : (Z.1, Z.2.1, Z.2.2.1 + mc, Z.2.2.2 + ms) = Z') (hr1 : M'.2.2.2.1 = none) (hi1 : M'.1.name = "<init>") (hW : Do g M' mc ms (.ref b :: As) σ (kV φ)) (kk : ∀ σ', φ σ' → Fr g M Z' lv st (pc + 3) σ' post) : Fr g M Z lv (As.reverse ++ .ref b :: st) pc σ post := by
  subst hZ'
  exact fr_callI hw hlk' hok hdp hn hst hd hz hr1 hi1 hW (by rintro _ σ' ⟨rfl, h⟩; exact kk σ' h)
theorem fr_callIN_V {g : GG} {M : MI} {Z : ZZ} {lv : LV} {st : List Value} {pc : Nat} {σ : Hs} {post : Option Value → Hs → Prop} {M' : MI} {idx n : Nat} {b : Nat} {As : List Value} {φ : Hs → Prop} (hw : Wi M') (hlk' : ∃ host, (M.1.cls, idx, M'.1, host) ∈ nwM) (hok : okM M' n = true) (hdp : M'.2.2.2.2 + 1 ≤ M.2.2.2.2) (hn : As.length = n) (hst : (st.map fun v => v.category).sum ≤ 8) (hd : decode M.2.1 pc = .ok (.invokespecial idx, 3)) (hz : Z.2.2.1 ≤ Z.1 ∧ Z.2.2.2 ≤ Z.2.1) (hr1 : M'.2.2.2.1 = none) (hi1 : M'.1.name = "<init>") (hW : Do g M' 0 0 (.ref b :: As) σ (kV φ)) (kk : ∀ σ', φ σ' → Fr g M Z lv st (pc + 3) σ' post) : Fr g M Z lv (As.reverse ++ .ref b :: st) pc σ post :=
  fr_callIN hw hlk' hok hdp hn hst hd hz hr1 hi1 hW (by rintro _ σ' ⟨rfl, h⟩; exact kk σ' h)
theorem fr_callIN_Va {g : GG} {M : MI} {Z : ZZ} {lv : LV} {st : List Value} {pc : Nat} {σ : Hs} {post : Option Value → Hs → Prop} {M' : MI} {idx n mc ms : Nat} {b : Nat} {As : List Value} {φ : Hs → Prop} {Z' : ZZ} (hw : Wi M') (hlk' : ∃ host, (M.1.cls, idx, M'.1, host) ∈ nwM) (hok : okM M' n = true) (hdp : M'.2.2.2.2 + 1 ≤ M.2.2.2.2) (hn : As.length = n) (hst : (st.map fun v => v.category).sum ≤ 8) (hd : decode M.2.1 pc = .ok (.invokespecial idx, 3)) (hz : Z.2.2.1 + mc ≤ Z.1 ∧ Z.2.2.2 + ms ≤ Z.2.1) (hZ' : (Z.1, Z.2.1, Z.2.2.1 + mc, Z.2.2.2 + ms) = Z') (hr1 : M'.2.2.2.1 = none) (hi1 : M'.1.name = "<init>") (hW : Do g M' mc ms (.ref b :: As) σ (kV φ)) (kk : ∀ σ', φ σ' → Fr g M Z' lv st (pc + 3) σ' post) : Fr g M Z lv (As.reverse ++ .ref b :: st) pc σ post := by
  subst hZ'
  exact fr_callIN hw hlk' hok hdp hn hst hd hz hr1 hi1 hW (by rintro _ σ' ⟨rfl, h⟩; exact kk σ' h)
theorem sw_out {x : Int32} (n : Nat) (h2 : n < 2 ^ 31) (h : ∀ k, k < n + 1 → ¬ x = Int32.ofNat k) : x.toInt < 0 ∨ (n : Int) < x.toInt := by
  by_cases h0 : x.toInt < 0
  · exact Or.inl h0
  · refine Or.inr (Int.not_le.mp fun h1 => ?_)
    obtain ⟨j, hj, rfl⟩ := nI_of (x := x) (fun hx => h0 (by have := Int32.lt_iff_toInt_lt.mp hx; simpa using this))
    rw [nI_toInt hj] at h1
    exact h j (by omega) rfl
