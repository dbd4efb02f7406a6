/-! Facts of the calculus for the proofs of contracts. -/
theorem Ce.uniq {σ : Hs} {a : Nat} {e1 e2 : va_E} (h1 : Ce σ a e1) (h2 : Ce σ a e2) : e1 = e2 := h1.2.symm.trans h2.2
theorem Ce.up {σ : Hs} {a : Nat} {e0 : va_E} (h : Ce σ a e0) (e : va_E) : Ce (hup σ a e) a e := ⟨h.1, by simp [hup, va_up]⟩
theorem Ce.upo {σ : Hs} {a b : Nat} {e e' : va_E} (h : Ce σ b e') (hne : b ≠ a) : Ce (hup σ a e) b e' := ⟨h.1, by simp [hup, va_up, hne]; exact h.2⟩
theorem hup_hup (σ : Hs) (a : Nat) (e1 e2 : va_E) : hup (hup σ a e1) a e2 = hup σ a e2 := by
  unfold hup
  congr 1
  funext j
  simp only [va_up]
  split <;> rfl
theorem hup_self {σ : Hs} {a : Nat} {e : va_E} (h : Ce σ a e) : hup σ a e = σ := by
  obtain ⟨L, f⟩ := σ
  unfold hup
  congr 1
  funext j
  simp only [va_up]
  split
  · rename_i hj; subst hj; exact h.2.symm
  · rfl
theorem FI.of {σ : Hs} {a ci k : Nat} {φ : Int32 → Prop} {fs : List Value} {i : Int32} (h : Ce σ a (.inr (ci, fs))) (hk : fs[k]? = some (.int i)) (hφ : φ i) : FI σ a ci k φ := ⟨fs, i, h, hk, hφ⟩
theorem FL.of {σ : Hs} {a ci k : Nat} {φ : Int64 → Prop} {fs : List Value} {i : Int64} (h : Ce σ a (.inr (ci, fs))) (hk : fs[k]? = some (.long i)) (hφ : φ i) : FL σ a ci k φ := ⟨fs, i, h, hk, hφ⟩
theorem FR.of {σ : Hs} {a ci k : Nat} {φ : Nat → Prop} {fs : List Value} {i : Nat} (h : Ce σ a (.inr (ci, fs))) (hk : fs[k]? = some (.ref i)) (hφ : φ i) : FR σ a ci k φ := ⟨fs, i, h, hk, hφ⟩
theorem PF.of {σ : Hs} {a ci k : Nat} {v : Value} {φ : Hs → Prop} {fs fs' : List Value} (h : Ce σ a (.inr (ci, fs))) (hk : k < fs.length) (hs : fs.set k v = fs') (hφ : φ (hup σ a (.inr (ci, fs')))) : PF σ a ci k v φ := ⟨fs, h, hk, by rw [hs]; exact hφ⟩
theorem AN.of {g : GG} {σ : Hs} {a t : Nat} {φ : Int32 → Prop} {x : vp_A} (h : Ce σ a (.inl (g.2.2.1 t, x))) (hφ : φ (nI x.1)) : AN g σ a t φ := ⟨x, h, hφ⟩
theorem AI.of {g : GG} {σ : Hs} {a t k : Nat} {i : Int32} {φ : Int32 → Prop} {n : Nat} {f : Nat → Int32} (h : Ce σ a (.inl (g.2.2.1 t, n, .inl f))) (hi : i = nI k) (hk : k < n) (hn : n < 2 ^ 31) (hφ : φ (f k)) : AI g σ a t i φ := by
  subst hi
  exact ⟨n, f, h, vp_in_nI hk hn, by rw [nI_clamp (by omega)]; exact hφ⟩
theorem SI.of {g : GG} {σ : Hs} {a t k : Nat} {i x : Int32} {φ : Hs → Prop} {n : Nat} {f : Nat → Int32} (h : Ce σ a (.inl (g.2.2.1 t, n, .inl f))) (hi : i = nI k) (hk : k < n) (hn : n < 2 ^ 31) (hφ : φ (hup σ a (.inl (g.2.2.1 t, n, .inl (upd f k x))))) : SI g σ a t i x φ := by
  subst hi
  exact ⟨n, f, h, vp_in_nI hk hn, by rw [nI_clamp (by omega)]; exact hφ⟩
theorem AJ.of {g : GG} {σ : Hs} {a k : Nat} {i : Int32} {φ : Int64 → Prop} {n : Nat} {f : Nat → Int64} (h : Ce σ a (.inl (g.2.2.1 3, n, .inr (.inl f)))) (hi : i = nI k) (hk : k < n) (hn : n < 2 ^ 31) (hφ : φ (f k)) : AJ g σ a i φ := by
  subst hi
  exact ⟨n, f, h, vp_in_nI hk hn, by rw [nI_clamp (by omega)]; exact hφ⟩
theorem SJ.of {g : GG} {σ : Hs} {a k : Nat} {i : Int32} {x : Int64} {φ : Hs → Prop} {n : Nat} {f : Nat → Int64} (h : Ce σ a (.inl (g.2.2.1 3, n, .inr (.inl f)))) (hi : i = nI k) (hk : k < n) (hn : n < 2 ^ 31) (hφ : φ (hup σ a (.inl (g.2.2.1 3, n, .inr (.inl (vp_updL f k x)))))) : SJ g σ a i x φ := by
  subst hi
  exact ⟨n, f, h, vp_in_nI hk hn, by rw [nI_clamp (by omega)]; exact hφ⟩
theorem AR.none {g : GG} {σ : Hs} {a t k : Nat} {i : Int32} {φ0 : Prop} {φ1 : Nat → Prop} {n : Nat} {f : Nat → Option Nat} (h : Ce σ a (.inl (g.2.2.1 t, n, .inr (.inr (.inr (.inr f)))))) (hi : i = nI k) (hk : k < n) (hn : n < 2 ^ 31) (hv : f k = none) (hφ : φ0) : AR g σ a t i φ0 φ1 := by
  subst hi
  exact ⟨n, f, h, vp_in_nI hk hn, fun _ => hφ, fun q hq => by rw [nI_clamp (by omega), hv] at hq; cases hq⟩
theorem AR.some {g : GG} {σ : Hs} {a t k q : Nat} {i : Int32} {φ0 : Prop} {φ1 : Nat → Prop} {n : Nat} {f : Nat → Option Nat} (h : Ce σ a (.inl (g.2.2.1 t, n, .inr (.inr (.inr (.inr f)))))) (hi : i = nI k) (hk : k < n) (hn : n < 2 ^ 31) (hv : f k = some q) (hφ : φ1 q) : AR g σ a t i φ0 φ1 := by
  subst hi
  exact ⟨n, f, h, vp_in_nI hk hn, (fun hq => by rw [nI_clamp (by omega), hv] at hq; cases hq), (fun q' hq => by rw [nI_clamp (by omega), hv] at hq; cases hq; exact hφ)⟩
theorem Rc.of {σ : Hs} {a ci : Nat} {fs : List Value} (h : Ce σ a (.inr (ci, fs))) : Rc σ a ci := ⟨fs, h⟩
/-- reads: an int, a long, a reference or null; writes -/
def Rd (g : GG) (M : MI) (as : List Value) (σ : Hs) (r : Int32) : Prop := Do g M 0 0 as σ (kI fun x σ' => σ' = σ ∧ x = r)
def RdL (g : GG) (M : MI) (as : List Value) (σ : Hs) (r : Int64) : Prop := Do g M 0 0 as σ (kL fun x σ' => σ' = σ ∧ x = r)
def RdA (g : GG) (M : MI) (as : List Value) (σ : Hs) (r : Option Nat) : Prop := Do g M 0 0 as σ (kA (fun σ' => σ' = σ ∧ r = none) (fun q σ' => σ' = σ ∧ r = some q))
def Wr (g : GG) (M : MI) (as : List Value) (σ σ2 : Hs) : Prop := Do g M 0 0 as σ (kV fun σ' => σ' = σ2)
theorem Rd.use {g : GG} {M : MI} {as : List Value} {σ : Hs} {r : Int32} {φ : Int32 → Hs → Prop} (h : Rd g M as σ r) (k : φ r σ) : Do g M 0 0 as σ (kI φ) := Do.mono h (by rintro _ σ' ⟨x, rfl, rfl, rfl⟩; exact ⟨_, rfl, k⟩)
theorem RdL.use {g : GG} {M : MI} {as : List Value} {σ : Hs} {r : Int64} {φ : Int64 → Hs → Prop} (h : RdL g M as σ r) (k : φ r σ) : Do g M 0 0 as σ (kL φ) := Do.mono h (by rintro _ σ' ⟨x, rfl, rfl, rfl⟩; exact ⟨_, rfl, k⟩)
theorem RdA.none {g : GG} {M : MI} {as : List Value} {σ : Hs} {φ0 : Hs → Prop} {φ1 : Nat → Hs → Prop} (h : RdA g M as σ none) (k : φ0 σ) : Do g M 0 0 as σ (kA φ0 φ1) := Do.mono h (by rintro _ σ' (⟨rfl, rfl, -⟩ | ⟨q, rfl, rfl, hq⟩); exact Or.inl ⟨rfl, k⟩; cases hq)
theorem RdA.some {g : GG} {M : MI} {as : List Value} {σ : Hs} {q : Nat} {φ0 : Hs → Prop} {φ1 : Nat → Hs → Prop} (h : RdA g M as σ (some q)) (k : φ1 q σ) : Do g M 0 0 as σ (kA φ0 φ1) := Do.mono h (by rintro _ σ' (⟨rfl, rfl, hq⟩ | ⟨q', rfl, rfl, hq⟩); cases hq; cases hq; exact Or.inr ⟨_, rfl, k⟩)
theorem Wr.use {g : GG} {M : MI} {as : List Value} {σ σ2 : Hs} {φ : Hs → Prop} (h : Wr g M as σ σ2) (k : φ σ2) : Do g M 0 0 as σ (kV φ) := Do.mono h (by rintro _ σ' ⟨rfl, rfl⟩; exact ⟨rfl, k⟩)
theorem DoI.use {g : GG} {M : MI} {mc ms : Nat} {as : List Value} {σ : Hs} {P φ : Int32 → Hs → Prop} (h : Do g M mc ms as σ (kI P)) (k : ∀ r σ', P r σ' → φ r σ') : Do g M mc ms as σ (kI φ) := Do.mono h (by rintro _ σ' ⟨x, rfl, hx⟩; exact ⟨_, rfl, k x σ' hx⟩)
theorem DoV.use {g : GG} {M : MI} {mc ms : Nat} {as : List Value} {σ : Hs} {P φ : Hs → Prop} (h : Do g M mc ms as σ (kV P)) (k : ∀ σ', P σ' → φ σ') : Do g M mc ms as σ (kV φ) := Do.mono h (by rintro _ σ' ⟨rfl, hx⟩; exact ⟨rfl, k σ' hx⟩)
theorem rd_i {x r : Int32} {σ : Hs} (h : x = r) : kI (fun y σ' => σ' = σ ∧ y = r) (some (.int x)) σ := ⟨x, rfl, rfl, h⟩
theorem rd_l {x r : Int64} {σ : Hs} (h : x = r) : kL (fun y σ' => σ' = σ ∧ y = r) (some (.long x)) σ := ⟨x, rfl, rfl, h⟩
theorem wr_v {σ : Hs} : kV (fun σ' => σ' = σ) none σ := ⟨rfl, rfl⟩
/-- a boolean as the machine has it -/
def b2 (b : Bool) : Int32 := if b then 1 else 0
theorem b2_t : b2 true = 1 := rfl
theorem b2_f : b2 false = 0 := rfl
theorem b2_0 {b : Bool} : b2 b = 0 ↔ b = false := by cases b <;> decide
theorem b2_n0 {b : Bool} : ¬ b2 b = 0 ↔ b = true := by cases b <;> decide
theorem b2_nar (b : Bool) : narrow .boolean (.int (b2 b)) = .int (b2 b) := by cases b <;> rfl
theorem b2_fit (b : Bool) : fits .boolean (.int (b2 b)) = true := by cases b <;> rfl
/-- ints of small numbers -/
theorem I_lt {x y : Int32} : x < y ↔ x.toInt < y.toInt := Int32.lt_iff_toInt_lt
theorem I_le {x y : Int32} : x ≤ y ↔ x.toInt ≤ y.toInt := Int32.le_iff_toInt_le
theorem I_eq {x y : Int32} : x = y ↔ x.toInt = y.toInt := Int32.toInt_inj.symm
theorem I_n {k : Nat} (h : k < 2 ^ 31) : (nI k).toInt = (k : Int) := nI_toInt h
theorem I_lit (n : Nat) (h : n < 2 ^ 31) : (OfNat.ofNat n : Int32).toInt = (n : Int) := nI_toInt h
theorem I_of {x : Int32} {n : Nat} (h0 : 0 ≤ x.toInt) (h : x.toInt < n) (hn : n ≤ 2 ^ 31) : ∃ k, k < n ∧ x = nI k := by
  refine ⟨x.toInt.toNat, by omega, Int32.toInt_inj.mp ?_⟩
  rw [nI_toInt (by omega)]
  omega
theorem nI_m1 {k : Nat} (h : 0 < k) : nI k + (-1) = nI (k - 1) := by
  obtain ⟨j, rfl⟩ : ∃ j, k = j + 1 := ⟨k - 1, by omega⟩
  exact pk_m1 j
theorem nI_s1 {k : Nat} (h : 0 < k) : nI k - 1 = nI (k - 1) := by
  obtain ⟨j, rfl⟩ : ∃ j, k = j + 1 := ⟨k - 1, by omega⟩
  exact nI_pred j
/-! ===== the class Numbers: a row of ints that tests its indices ===== -/
def aI (g : GG) (n : Nat) (f : Nat → Int32) : va_E := .inl (g.2.2.1 0, n, .inl f)
def NumAt (g : GG) (σ : Hs) (a q n : Nat) (f : Nat → Int32) : Prop := Ce σ a (.inr (1, [.ref q])) ∧ Ce σ q (aI g n f) ∧ n < 2 ^ 31
def atN (n : Nat) (f : Nat → Int32) (i : Int32) : Int32 := if 0 ≤ i.toInt ∧ i.toInt < n then f i.toInt.toNat else 0
theorem atN_n {n : Nat} {f : Nat → Int32} {k : Nat} (h : k < n) (hn : n < 2 ^ 31) : atN n f (nI k) = f k := by
  unfold atN
  rw [I_n (by omega), if_pos (by omega)]
  rfl
theorem NumAt.ne {g : GG} {σ : Hs} {a q n : Nat} {f : Nat → Int32} (h : NumAt g σ a q n f) : a ≠ q := by
  intro e
  subst e
  exact absurd (h.1.uniq h.2.1) (by simp [aI])
theorem rd_at {g : GG} {σ : Hs} {a q n : Nat} {f : Nat → Int32} (h : NumAt g σ a q n f) (i : Int32) : Rd g M_X1_at [.ref a, .int i] σ (atN n f i) := by
  refine q_X1_at a i ⟨fun c => rd_i ?_, fun c => FR.of h.1 rfl (AN.of h.2.1 ⟨fun c2 => rd_i ?_, fun c2 => FR.of h.1 rfl ?_⟩)⟩
  · rw [I_lt] at c
    unfold atN
    rw [if_neg (by intro hh; simp at c; omega)]
  · rw [I_le] at c2
    unfold atN
    rw [I_n h.2.2] at c2
    rw [if_neg (by omega)]
  · rw [I_lt] at c
    rw [I_le, I_n h.2.2] at c2
    obtain ⟨k, hk, rfl⟩ := I_of (x := i) (n := n) (by simp at c; omega) (by omega) (by have := h.2.2; omega)
    exact AI.of h.2.1 rfl hk h.2.2 (rd_i (atN_n hk h.2.2).symm)
theorem rd_atn {g : GG} {σ : Hs} {a q n : Nat} {f : Nat → Int32} (h : NumAt g σ a q n f) {k : Nat} (hk : k < n) : Rd g M_X1_at [.ref a, .int (nI k)] σ (f k) := by
  have h1 := rd_at h (nI k)
  rw [atN_n hk h.2.2] at h1
  exact h1
theorem wr_put {g : GG} {σ : Hs} {a q n : Nat} {f : Nat → Int32} (h : NumAt g σ a q n f) {k : Nat} (hk : k < n) (v : Int32) : Wr g M_X1_put [.ref a, .int (nI k), .int v] σ (hup σ q (aI g n (upd f k v))) := by
  have hn := h.2.2
  refine q_X1_put a (nI k) v ⟨fun c => ?_, fun c => FR.of h.1 rfl (AN.of h.2.1 ⟨fun c2 => ?_, fun c2 => FR.of h.1 rfl ?_⟩)⟩
  · rw [I_lt, I_n (by omega)] at c
    simp at c
    omega
  · rw [I_le, I_n hn, I_n (by omega)] at c2
    simp at c2
    omega
  · exact SI.of h.2.1 rfl hk hn wr_v
theorem NumAt.put {g : GG} {σ : Hs} {a q n : Nat} {f : Nat → Int32} (h : NumAt g σ a q n f) (f' : Nat → Int32) : NumAt g (hup σ q (aI g n f')) a q n f' := ⟨h.1.upo h.ne, h.2.1.up _, h.2.2⟩
theorem wr_raise {g : GG} {σ : Hs} {a q n : Nat} {f : Nat → Int32} (h : NumAt g σ a q n f) {k : Nat} (hk : k < n) (v : Int32) : Wr g M_X1_raise [.ref a, .int (nI k), .int v] σ (hup σ q (aI g n (upd f k (f k + v)))) :=
  q_X1_raise a (nI k) v ⟨Rc.of h.1, (rd_atn h hk).use ⟨Rc.of h.1, (wr_put h hk _).use wr_v⟩⟩
/-- v comes ahead of what stands at i -/
def insF (f : Nat → Int32) (i used : Nat) (v : Int32) : Nat → Int32 := fun j => if j < i then f j else if j = i then v else if j ≤ used then f (j - 1) else f j
def remF (f : Nat → Int32) (i used : Nat) : Nat → Int32 := fun j => if i ≤ j ∧ j + 1 < used then f (j + 1) else f j
theorem wr_insert {g : GG} {σ : Hs} {a q n : Nat} {f : Nat → Int32} (h : NumAt g σ a q n f) {i used : Nat} (hi : i ≤ used) (hu : used < n) (v : Int32) : Wr g M_X1_insert [.ref a, .int (nI i), .int (nI used), .int v] σ (hup σ q (aI g n (insF f i used v))) := by
  have hn := h.2.2
  refine q_X1_insert a (nI i) (nI used) v ?_
  have key : ∀ (d k : Nat) (F : Nat → Int32), k = i + d → k ≤ used → (F = fun j => if k < j ∧ j ≤ used then f (j - 1) else f j) → J_X1_insert_3 g (kV fun σ' => σ' = hup σ q (aI g n (insF f i used v))) (hup σ q (aI g n F)) a (nI i) v (nI k) := by
    intro d
    induction d with
    | zero =>
      intro k F hk hku hF
      have hN := h.put F
      refine q_X1_insert_3 a (nI i) v (nI k) ⟨fun _ => ⟨Rc.of hN.1, (wr_put hN (by omega) v).use ?_⟩, fun c => absurd (nI_le (by omega) (by omega)) c⟩
      rw [hup_hup]
      have e : upd F i v = insF f i used v := by
        funext j
        rw [hF]
        simp only [upd, insF]
        by_cases h1 : j = i
        · subst h1; simp
        · by_cases h2 : j < i
          · simp [h1, h2]; omega
          · simp [h1, h2]
            by_cases h3 : j ≤ used
            · simp [h3]; intro h4; omega
            · simp [h3]
      rw [e]
      exact wr_v
    | succ d ih =>
      intro k F hk hku hF
      have hN := h.put F
      refine q_X1_insert_3 a (nI i) v (nI k) ⟨fun c => absurd ((nI_leI (by omega) (by omega)).mp c) (by omega), fun _ => ⟨Rc.of hN.1, ?_⟩⟩
      rw [nI_s1 (by omega)]
      refine (rd_atn hN (by omega)).use ⟨Rc.of hN.1, (wr_put hN (by omega) _).use ?_⟩
      rw [hup_hup, nI_m1 (by omega)]
      refine ih (k - 1) _ (by omega) (by omega) ?_
      funext j
      rw [hF]
      simp only [upd]
      by_cases h1 : j = k
      · subst h1
        rw [if_pos rfl, if_neg (by omega), if_pos (by omega)]
      · rw [if_neg h1]
        by_cases h2 : k < j ∧ j ≤ used
        · rw [if_pos h2, if_pos (by omega)]
        · rw [if_neg h2, if_neg (by omega)]
  have h0 := key (used - i) used f (by omega) (Nat.le_refl _) (by funext j; rw [if_neg (by omega)])
  rw [hup_self h.2.1] at h0
  exact h0
theorem wr_remove {g : GG} {σ : Hs} {a q n : Nat} {f : Nat → Int32} (h : NumAt g σ a q n f) {i used : Nat} (hi : i < used) (hu : used ≤ n) : Wr g M_X1_remove [.ref a, .int (nI i), .int (nI used)] σ (hup σ q (aI g n (remF f i used))) := by
  have hn := h.2.2
  refine q_X1_remove a (nI i) (nI used) ?_
  have key : ∀ (d k : Nat) (F : Nat → Int32), k + d + 1 = used → i ≤ k → (F = fun j => if i ≤ j ∧ j < k then f (j + 1) else f j) → J_X1_remove_2 g (kV fun σ' => σ' = hup σ q (aI g n (remF f i used))) (hup σ q (aI g n F)) a (nI used) (nI k) := by
    intro d
    induction d with
    | zero =>
      intro k F hk hik hF
      refine q_X1_remove_2 a (nI used) (nI k) ⟨fun _ => ?_, fun c => absurd ?_ c⟩
      · have e : F = remF f i used := by
          rw [hF]
          funext j
          simp only [remF]
          congr 1
          apply propext
          omega
        rw [e]
        exact wr_v
      · rw [nI_s1 (by omega)]
        exact nI_le (by omega) (by omega)
    | succ d ih =>
      intro k F hk hik hF
      have hN := h.put F
      refine q_X1_remove_2 a (nI used) (nI k) ⟨fun c => absurd ?_ (show ¬ False from id), fun _ => ⟨Rc.of hN.1, ?_⟩⟩
      · rw [nI_s1 (by omega)] at c
        have := (nI_leI (by omega) (by omega)).mp c
        omega
      · rw [nI_1]
        refine (rd_atn hN (by omega)).use ⟨Rc.of hN.1, (wr_put hN (by omega) _).use ?_⟩
        rw [hup_hup]
        refine ih (k + 1) _ (by omega) (by omega) ?_
        funext j
        rw [hF]
        simp only [upd]
        by_cases h1 : j = k
        · subst h1
          rw [if_pos rfl, if_neg (by omega), if_pos (by omega)]
        · rw [if_neg h1]
          by_cases h2 : i ≤ j ∧ j < k
          · rw [if_pos h2, if_pos (by omega)]
          · rw [if_neg h2, if_neg (by omega)]
  have h0 := key (used - i - 1) i f (by omega) (Nat.le_refl _) (by funext j; rw [if_neg (by omega)])
  rw [hup_self h.2.1] at h0
  exact h0
