/-! The reference: the best of all ways sought, works. -/
def skP (W : WL) (m : Nat) : Nat × Nat := ((W.getD (bstW W m W.length) (0, 0, 0)).2.2, (W.getD (bstW W m W.length) (0, 0, 0)).1)
theorem getD_app {W V : WL} {i : Nat} (h : i < W.length) : (W ++ V).getD i (0, 0, 0) = W.getD i (0, 0, 0) := by simp [List.getD, List.getElem?_append_left h]
theorem bstW_app {W V : WL} {m : Nat} (h1 : 1 ≤ W.length) : ∀ k, k ≤ W.length → bstW (W ++ V) m k = bstW W m k
  | 0, _ => rfl
  | k + 1, hk => by
    have ih := bstW_app (V := V) (m := m) h1 k (by omega)
    have hb : bstW W m k < W.length := by rcases bstW_lt W m k with h | h <;> omega
    simp only [bstW]
    rw [ih, getD_app (by omega), getD_app hb]
theorem sk_app {W : WL} {x : Nat × Nat × Nat} {m : Nat} (h1 : 1 ≤ W.length) : skP (W ++ [x]) m = if x.2.1 &&& m = x.2.1 ∧ x.2.2 < (skP W m).1 then (x.2.2, x.1) else skP W m := by
  have hb : bstW W m W.length < W.length := by rcases bstW_lt W m W.length with h | h <;> omega
  have gx : (W ++ [x]).getD W.length (0, 0, 0) = x := by simp [List.getD]
  have e : bstW (W ++ [x]) m (W ++ [x]).length = if x.2.1 &&& m = x.2.1 ∧ x.2.2 < (W.getD (bstW W m W.length) (0, 0, 0)).2.2 then W.length else bstW W m W.length := by
    rw [List.length_append, show [x].length = 1 from rfl]
    simp only [bstW]
    rw [bstW_app h1 W.length (Nat.le_refl _), gx, getD_app hb]
  unfold skP
  rw [e]
  by_cases c : x.2.1 &&& m = x.2.1 ∧ x.2.2 < (W.getD (bstW W m W.length) (0, 0, 0)).2.2
  · rw [if_pos c, if_pos c, gx]
  · rw [if_neg c, if_neg c, getD_app hb]
theorem sk_one (x : Nat × Nat × Nat) (m : Nat) : skP [x] m = (x.2.2, x.1) := by
  have : bstW [x] m [x].length = 0 := by
    show bstW [x] m 1 = 0
    simp [bstW]
  unfold skP
  rw [this]
  rfl
section SKW
variable (f : Nat → Int32) (tk : Nat → Bool) (wd told : Nat) (B : Nat → OD) (d : QD)
theorem singW_1 : ∀ o, 1 ≤ (singW f tk wd told B d o).length
  | 0 => by simp [singW]
  | o + 1 => by
    have ih := singW_1 o
    simp only [singW]
    split
    · rw [List.length_append]; omega
    · exact ih
theorem pairW_1 (o : Nat) (W : WL) (h : 1 ≤ W.length) : ∀ k, 1 ≤ (pairW f tk wd told B d o W k).length
  | 0 => h
  | k + 1 => by
    have ih := pairW_1 o W h k
    simp only [pairW]
    split
    · rw [List.length_append]; omega
    · exact ih
theorem allW_1 : ∀ o, 1 ≤ (allW f tk wd told B d o).length
  | 0 => singW_1 f tk wd told B d 8
  | o + 1 => by
    have ih := allW_1 o
    simp only [allW]
    exact pairW_1 f tk wd told B d o _ ih _
theorem keptB_ge {k : Nat} (h : told ≤ k) : keptB told B k = false := by
  unfold keptB
  rw [decide_eq_false (by omega), Bool.false_and]
theorem singW_ge : ∀ j, singW f tk wd told B d (told + j) = singW f tk wd told B d told
  | 0 => rfl
  | j + 1 => by
    have ih := singW_ge j
    rw [← ih]
    show (if keptB told B (told + j) = true then _ else singW f tk wd told B d (told + j)) = _
    rw [keptB_ge told B (by omega)]
    rfl
theorem pairW_ge (o : Nat) (W : WL) {k : Nat} (h : told ≤ o + 1 + k) : ∀ j, pairW f tk wd told B d o W (k + j) = pairW f tk wd told B d o W k
  | 0 => rfl
  | j + 1 => by
    have ih := pairW_ge o W h j
    rw [← ih]
    show (if (keptB told B o && keptB told B (o + 1 + (k + j))) = true then _ else pairW f tk wd told B d o W (k + j)) = _
    rw [keptB_ge told B (show told ≤ o + 1 + (k + j) by omega), Bool.and_false]
    rfl
theorem allW_ge : ∀ j, told + j ≤ 8 → allW f tk wd told B d (told + j) = allW f tk wd told B d told
  | 0, _ => rfl
  | j + 1, hj => by
    have ih := allW_ge j (by omega)
    rw [← ih]
    show pairW f tk wd told B d (told + j) (allW f tk wd told B d (told + j)) (7 - (told + j)) = _
    have := pairW_ge f tk wd told B d (told + j) (allW f tk wd told B d (told + j)) (k := 0) (by omega) (7 - (told + j))
    rw [Nat.zero_add] at this
    exact this
end SKW
theorem bit_one : ∀ m, m < 256 → ∀ i, i < 8 → (2 ^ i &&& m = 2 ^ i ↔ m.testBit i = true) := by decide +kernel
theorem bit_two {m i j : Nat} (hm : m < 256) (hi : i < 8) (hj : j < 8) : (2 ^ i ||| 2 ^ j) &&& m = (2 ^ i ||| 2 ^ j) ↔ m.testBit i = true ∧ m.testBit j = true := by
  have h1 : (2 : Nat) ^ i < 256 := Nat.pow_lt_pow_right (n := 8) (by decide) hi
  have h2 : (2 : Nat) ^ j < 256 := Nat.pow_lt_pow_right (n := 8) (by decide) hj
  rw [and_eq_iff (Nat.or_lt_two_pow (n := 8) h1 h2)]
  constructor
  · intro h
    refine ⟨h i hi ?_, h j hj ?_⟩
    · rw [Nat.testBit_or, Nat.testBit_two_pow_self, Bool.true_or]
    · rw [Nat.testBit_or, Nat.testBit_two_pow_self, Bool.or_true]
  · rintro ⟨a, b⟩ k hk hb
    rw [Nat.testBit_or, Bool.or_eq_true, Nat.testBit_two_pow, Nat.testBit_two_pow, decide_eq_true_eq, decide_eq_true_eq] at hb
    rcases hb with rfl | rfl
    · exact a
    · exact b
theorem bs_two : ∀ m, m < 256 → ∀ i, i < 8 → ∀ j, j < 8 → ((((nI m >>> (nI i &&& 31)) &&& (nI m >>> (nI j &&& 31))) &&& 1) = 1 ↔ (m.testBit i && m.testBit j) = true) := by decide +kernel
theorem keptB_of {S : SS} {o : Nat} (ho : o < zo S) : keptB (zo S) (zB S) o = !(zB S o).2.2 := by
  unfold keptB
  rw [decide_eq_true ho, Bool.true_and]
abbrev sgW (S : SS) (q k : Nat) : WL := singW (zf S) (zt S) (zw S) (zo S) (zB S) (zQ S q) k
abbrev alW (S : SS) (q k : Nat) : WL := allW (zf S) (zt S) (zw S) (zo S) (zB S) (zQ S q) k
abbrev prW (S : SS) (q o k : Nat) : WL := pairW (zf S) (zt S) (zw S) (zo S) (zB S) (zQ S q) o (alW S q o) k
theorem sk_s1 {S : SS} {q k m : Nat} (hm : m < 256) (hk : k < zo S) (h8 : zo S ≤ 8) : skP (sgW S q (k + 1)) m = if ((zB S k).2.2 = false ∧ m.testBit k = true) ∧ w1 S q k < (skP (sgW S q k) m).1 then (w1 S q k, 1 + k) else skP (sgW S q k) m := by
  show skP (if keptB (zo S) (zB S) k = true then sgW S q k ++ [(1 + k, 2 ^ k, w1 S q k)] else sgW S q k) m = _
  rw [keptB_of hk]
  cases hd : (zB S k).2.2
  · rw [Bool.not_false, if_pos rfl, sk_app (singW_1 _ _ _ _ _ _ k)]
    have hb := bit_one m hm k (by omega)
    by_cases c : m.testBit k = true ∧ w1 S q k < (skP (sgW S q k) m).1
    · rw [if_pos ⟨hb.mpr c.1, c.2⟩, if_pos ⟨⟨rfl, c.1⟩, c.2⟩]
    · rw [if_neg (fun z => c ⟨hb.mp z.1, z.2⟩), if_neg (fun z => c ⟨z.1.2, z.2⟩)]
  · rw [Bool.not_true, if_neg (by decide), if_neg (fun z => by cases z.1.1)]
theorem sk_s2 {S : SS} {q o k m : Nat} (hm : m < 256) (hk : o + 1 + k < zo S) (h8 : zo S ≤ 8) : skP (prW S q o (k + 1)) m = if (((zB S o).2.2 = false ∧ (zB S (o + 1 + k)).2.2 = false) ∧ (m.testBit o && m.testBit (o + 1 + k)) = true) ∧ w2 S q o (o + 1 + k) < (skP (prW S q o k) m).1 then (w2 S q o (o + 1 + k), 100 + 10 * o + (o + 1 + k)) else skP (prW S q o k) m := by
  show skP (if (keptB (zo S) (zB S) o && keptB (zo S) (zB S) (o + 1 + k)) = true then prW S q o k ++ [(100 + 10 * o + (o + 1 + k), 2 ^ o ||| 2 ^ (o + 1 + k), w2 S q o (o + 1 + k))] else prW S q o k) m = _
  rw [keptB_of (show o < zo S by omega), keptB_of hk]
  have hl : 1 ≤ (prW S q o k).length := pairW_1 _ _ _ _ _ _ o _ (allW_1 _ _ _ _ _ _ o) k
  cases hd : (zB S o).2.2
  · cases hd2 : (zB S (o + 1 + k)).2.2
    · rw [if_pos (show (!false && !false) = true from rfl), sk_app hl]
      have hb := bit_two hm (show o < 8 by omega) (show o + 1 + k < 8 by omega)
      by_cases c : (m.testBit o = true ∧ m.testBit (o + 1 + k) = true) ∧ w2 S q o (o + 1 + k) < (skP (prW S q o k) m).1
      · rw [if_pos ⟨hb.mpr c.1, c.2⟩, if_pos ⟨⟨⟨rfl, rfl⟩, by rw [c.1.1, c.1.2]; rfl⟩, c.2⟩]
      · rw [if_neg (fun z => c ⟨hb.mp z.1, z.2⟩), if_neg (fun z => c ⟨Bool.and_eq_true_iff.mp z.1.2, z.2⟩)]
    · rw [if_neg (show ¬ (!false && !true) = true by decide), if_neg (fun z => by cases z.1.1.2)]
  · rw [if_neg (show ¬ (!true && !(zB S (o + 1 + k)).2.2) = true by simp), if_neg (fun z => by cases z.1.1.1)]
def Bfr (X X' : Nat → Int32) : Prop := ∀ i, i ≠ 35 → i ≠ 36 → X' i = X i
theorem i100 (o p : Nat) : (100 + 10 * nI o) + nI p = nI (100 + 10 * o + p) := by rw [show 10 * nI o = nI (10 * o) from pk_mul 10 o, show (100 : Int32) + nI (10 * o) = nI (100 + 10 * o) from nI_add 100 _, nI_add]
theorem i1p (o : Nat) : 1 + nI o = nI (1 + o) := nI_add 1 o
section RSK
variable {g : GG} {σ : Hs} {R : Nat → Nat} {S : SS} {X : Nat → Int32} {A : Nat → Nat → Int32} {hh : Int64}
theorem RQ.bfr {σ1 : Hs} {X1 : Nat → Int32} (h : RQ g σ R S X A hh) (h1 : RC g σ1 R X1 A hh) (k1 : Bfr X X1) : RQ g σ1 R S X1 A hh := ⟨h1, h.2.eqs (fun i hi => k1 i (by omega) (by omega)) (fun _ _ => rfl)⟩
theorem chl_lt (v : Iv S) (i : Nat) : wayPl (s_W S i) (nI (s_ch S i)) < (s_W S i).length := by
  have key : ∃ p, p < (s_W S i).length ∧ ((s_W S i).getD p (0, 0, 0)).1 = s_ch S i := by
    have h1 : s_ch S i = 0 ∨ ∃ o, o < 8 ∧ keptB (zo S) (zB S) o = true ∧ s_ch S i = 1 + o := by
      have hh : ∀ k, k ≤ 8 → (chW (zt S) (zw S) (zo S) (zB S) (zP S) (zr S) (zQ S i) k).1 = 0 ∨ ∃ o, o < k ∧ keptB (zo S) (zB S) o = true ∧ (chW (zt S) (zw S) (zo S) (zB S) (zP S) (zr S) (zQ S i) k).1 = 1 + o := by
        intro k
        induction k with
        | zero => intro _; exact Or.inl rfl
        | succ k ih =>
          intro hk
          rw [chW_s]
          by_cases c : keptB (zo S) (zB S) k = true ∧ lkO (zt S) (zw S) (zP S) (zr S) (zQ S i) (zB S k) < (chW (zt S) (zw S) (zo S) (zB S) (zP S) (zr S) (zQ S i) k).2
          · rw [if_pos c]
            exact Or.inr ⟨k, by omega, c.1, rfl⟩
          · rw [if_neg c]
            rcases ih (by omega) with z | ⟨o, z1, z2, z3⟩
            · exact Or.inl z
            · exact Or.inr ⟨o, by omega, z2, z3⟩
      exact hh 8 (Nat.le_refl _)
    have mem : ∃ x, x ∈ s_W S i ∧ x.1 = s_ch S i := by
      rcases h1 with z | ⟨o, z1, z2, z3⟩
      · exact ⟨_, (allW_in _ _ _ _ _ _ 8 (Nat.le_refl _) _).mpr (Or.inl (Or.inl rfl)), z.symm⟩
      · exact ⟨_, (allW_in _ _ _ _ _ _ 8 (Nat.le_refl _) _).mpr (Or.inl (Or.inr ⟨o, z1, z2, rfl⟩)), z3.symm⟩
    obtain ⟨x, hx, hx2⟩ := mem
    obtain ⟨p, hp, he⟩ := List.mem_iff_getElem.mp hx
    exact ⟨p, hp, by rw [getD_at hp, he]; exact hx2⟩
  obtain ⟨p, hp, he⟩ := key
  unfold wayPl
  rcases Nat.lt_or_ge (fa_first (fun j => decide (nI ((s_W S i).getD j (0, 0, 0)).1 = nI (s_ch S i))) (s_W S i).length) (s_W S i).length with z | z
  · exact z
  · have := fa_first_no (fun j => decide (nI ((s_W S i).getD j (0, 0, 0)).1 = nI (s_ch S i))) (s_W S i).length p (by omega)
    exact absurd (by rw [he]) (of_decide_eq_false this)
theorem wT_lt (S : SS) (q : Nat) : wT S q ≤ 400 := by
  have := tabL_le (zf S) (zt S) (zw S) (zQ S q)
  show tabL (zf S) (zt S) (zw S) (zQ S q) ≤ 400
  omega
theorem Iv.w1 (v : Iv S) (q : Nat) {o : Nat} (ho : o < zo S) : w1 S q o ≤ 400 := oneO_le (zf S) (zt S) (zw S) (zQ S q) (v.os ho)
theorem Iv.w2 (v : Iv S) (q : Nat) {o p : Nat} (ho : o < zo S) (hp : p < zo S) : w2 S q o p ≤ 400 := twoO_le (zf S) (zt S) (zw S) (zQ S q) (v.os ho) (v.os hp)
theorem wr_better (h : RC g σ R X A hh) {P : Nat × Nat} {c w : Nat} (h35 : X 35 = nI P.1) (h36 : X 36 = nI P.2) (hP : P.1 ≤ 400) (hc : c ≤ 400) {φ : Hs → Prop} (z : ∀ σ' X', RC g σ' R X' A hh → Bfr X X' → X' 35 = nI (if c < P.1 then (c, w) else P).1 → X' 36 = nI (if c < P.1 then (c, w) else P).2 → Sm R T3 σ σ' → φ σ') : Do g M_X12_better 0 0 [.ref (R 300), .int (nI c), .int (nI w)] σ (kV φ) := by
  refine q_X12_better _ _ _ (h.x 35 (fun _ _ _ => rfl) ?_)
  rw [h35]
  refine ⟨fun y => ⟨rfl, z σ X h (fun _ _ _ => rfl) ?_ ?_ Sm.refl⟩, fun y => h.px 35 _ (by omega) (fun _ _ _ => rfl) fun σ2 h2 s2 => h2.px 36 _ (by omega) (fun _ _ _ => rfl) fun σ3 h3 s3 => ⟨rfl, z σ3 _ h3 (fun i a b => (upd_ne _ _ b).trans (upd_ne _ _ a)) ?_ ?_ (s2.trans s3)⟩⟩
  · have y := (nI_leI (by omega) (by omega)).mp y
    rw [if_neg (by omega)]; exact h35
  · have y := (nI_leI (by omega) (by omega)).mp y
    rw [if_neg (by omega)]; exact h36
  · rw [if_pos (Nat.lt_of_not_le fun x => y (nI_le x (by omega)))]
    exact (upd_ne _ _ (by decide)).trans (upd_same _ _ _)
  · rw [if_pos (Nat.lt_of_not_le fun x => y (nI_le x (by omega)))]
    exact upd_same _ _ _
def SkP (g : GG) (σ : Hs) (R : Nat → Nat) (S : SS) (q m : Nat) (X : Nat → Int32) (A : Nat → Nat → Int32) (hh : Int64) : Option Value → Hs → Prop := kV fun σ' => ∃ X', RC g σ' R X' A hh ∧ Bfr X X' ∧ X' 35 = nI (s_cost S q (s_bpl S q m)) ∧ X' 36 = nI (s_num S q (s_bpl S q m)) ∧ Sm R T3 σ σ'
theorem wr_seekBest (h : RQ g σ R S X A hh) (v : Iv S) {q m : Nat} (hq : q < zq S) (ht : TbQ S q (A 34)) (hm : m < 256) : Do g M_X12_seekBest 0 0 [.ref (R 300), .int (nI q), .int (nI m)] σ (SkP g σ R S q m X A hh) := by
  have h8 := v.o8
  have q8 := v.q8
  have e6 := fun j (hj : j < zo S) => (h.ord.2 j hj).2.1
  have x4 : ∀ {X1}, Bfr X X1 → X1 4 = nI (zo S) := fun b => (b 4 (by decide) (by decide)).trans h.ord.1
  -- pairs
  have inner : ∀ (o : Nat), o < zo S → (∀ (σ1 : Hs) (X1 : Nat → Int32), RC g σ1 R X1 A hh → Bfr X X1 → X1 35 = nI (skP (alW S q (o + 1)) m).1 → X1 36 = nI (skP (alW S q (o + 1)) m).2 → (skP (alW S q (o + 1)) m).1 ≤ 400 → Sm R T3 σ σ1 → J_X12_seekBest_74 g (SkP g σ R S q m X A hh) σ1 (R 300) (nI q) (nI m) (nI (o + 1))) → ∀ (e k : Nat) (σ1 : Hs) (X1 : Nat → Int32), o + 1 + k + e = zo S → RC g σ1 R X1 A hh → Bfr X X1 → X1 35 = nI (skP (prW S q o k) m).1 → X1 36 = nI (skP (prW S q o k) m).2 → (skP (prW S q o k) m).1 ≤ 400 → Sm R T3 σ σ1 → J_X12_seekBest_87 g (SkP g σ R S q m X A hh) σ1 (R 300) (nI q) (nI m) (nI o) (nI (o + 1 + k)) := by
    intro o ho next e
    induction e with
    | zero =>
      intro k σ1 X1 hk h1 b1 a35 a36 l1 s1
      refine q_X12_seekBest_87 _ _ _ _ _ (h1.x 4 (fun _ _ _ => rfl) ?_)
      rw [x4 b1]
      refine ⟨fun _ => ?_, fun c => absurd (nI_le (by omega) (by omega)) c⟩
      rw [nI_1]
      have e : alW S q (o + 1) = prW S q o k := by
        have := pairW_ge (zf S) (zt S) (zw S) (zo S) (zB S) (zQ S q) o (alW S q o) (k := k) (by omega) (7 - o - k)
        rw [show k + (7 - o - k) = 7 - o by omega] at this
        exact this
      rw [← e] at a35 a36 l1
      exact next σ1 X1 h1 b1 a35 a36 l1 s1
    | succ e ih =>
      intro k σ1 X1 hk h1 b1 a35 a36 l1 s1
      have hp : o + 1 + k < zo S := by omega
      have hs := sk_s2 (S := S) (q := q) (o := o) (k := k) hm hp h8
      have ih := ih (k + 1)
      have stay : ¬ (((zB S o).2.2 = false ∧ (zB S (o + 1 + k)).2.2 = false) ∧ (m.testBit o && m.testBit (o + 1 + k)) = true) → J_X12_seekBest_87 g (SkP g σ R S q m X A hh) σ1 (R 300) (nI q) (nI m) (nI o) (nI (o + 1 + k) + 1) := by
        intro z
        rw [if_neg (fun y => z y.1)] at hs
        rw [hs] at ih
        rw [nI_1]
        exact ih σ1 X1 (by omega) h1 b1 a35 a36 l1 s1
      refine q_X12_seekBest_87 _ _ _ _ _ (h1.x 4 (fun _ _ _ => rfl) ?_)
      rw [x4 b1]
      refine ⟨fun c => absurd ((nI_leI (by omega) (by omega)).mp c) (by omega), fun _ => ⟨fun c => stay fun y => c ((bs_two m hm o (by omega) (o + 1 + k) (by omega)).mpr y.2), fun c => h1.r 6 (fun _ _ _ => rfl) (h1.a 6 rfl rfl rfl (show o < 8 by omega) ?_)⟩⟩
      have c := (bs_two m hm o (by omega) (o + 1 + k) (by omega)).mp c
      rw [e6 o ho]
      refine ⟨fun c1 => stay fun y => ?_, fun c1 => h1.r 6 (fun _ _ _ => rfl) (h1.a 6 rfl rfl rfl (show o + 1 + k < 8 by omega) ?_)⟩
      · have := y.1.1; rw [b2_n0.mp c1] at this; cases this
      · rw [e6 _ hp]
        refine ⟨fun c2 => stay fun y => ?_, fun c2 => h1.r 34 (fun _ _ _ => rfl) (h1.a 34 rfl rfl (i819 q o (o + 1 + k)) (show _ < 648 by omega) ⟨h1.rc, ?_⟩)⟩
        · have := y.1.2; rw [b2_n0.mp c2] at this; cases this
        · have hd : (zB S o).2.2 = false ∧ (zB S (o + 1 + k)).2.2 = false := ⟨b2_0.mp c1, b2_0.mp c2⟩
          have hl := v.w2 q ho hp
          rw [ht.2.2 o (o + 1 + k) (by omega) hp hd.1 hd.2, i100]
          refine wr_better h1 a35 a36 l1 hl fun σ2 X2 h2 b2 a2 a3 s2 => ?_
          have e2 : skP (prW S q o (k + 1)) m = if w2 S q o (o + 1 + k) < (skP (prW S q o k) m).1 then (w2 S q o (o + 1 + k), 100 + 10 * o + (o + 1 + k)) else skP (prW S q o k) m := by
            rw [hs]
            by_cases y : w2 S q o (o + 1 + k) < (skP (prW S q o k) m).1
            · rw [if_pos ⟨⟨hd, c⟩, y⟩, if_pos y]
            · rw [if_neg (fun w => y w.2), if_neg y]
          rw [← e2] at a2 a3
          rw [nI_1]
          refine ih σ2 X2 (by omega) h2 (fun i i1 i2 => (b2 i i1 i2).trans (b1 i i1 i2)) a2 a3 ?_ (s1.trans s2)
          rw [e2]
          split
          · exact hl
          · exact l1
  have outer : ∀ (e o : Nat) (σ1 : Hs) (X1 : Nat → Int32), o + e = zo S → RC g σ1 R X1 A hh → Bfr X X1 → X1 35 = nI (skP (alW S q o) m).1 → X1 36 = nI (skP (alW S q o) m).2 → (skP (alW S q o) m).1 ≤ 400 → Sm R T3 σ σ1 → J_X12_seekBest_74 g (SkP g σ R S q m X A hh) σ1 (R 300) (nI q) (nI m) (nI o) := by
    intro e
    induction e with
    | zero =>
      intro o σ1 X1 ho h1 b1 a35 a36 l1 s1
      have ho : o = zo S := ho
      subst ho
      refine q_X12_seekBest_74 _ _ _ _ (h1.x 4 (fun _ _ _ => rfl) ?_)
      rw [x4 b1]
      have e : s_W S q = alW S q (zo S) := by
        have := allW_ge (zf S) (zt S) (zw S) (zo S) (zB S) (zQ S q) (8 - zo S) (by omega)
        rw [show zo S + (8 - zo S) = 8 by omega] at this
        exact this
      rw [← e] at a35 a36
      exact ⟨fun _ => ⟨rfl, X1, h1, b1, a35, a36, s1⟩, fun c => absurd (nI_le (Nat.le_refl _) (by omega)) c⟩
    | succ e ih =>
      intro o σ1 X1 ho h1 b1 a35 a36 l1 s1
      refine q_X12_seekBest_74 _ _ _ _ (h1.x 4 (fun _ _ _ => rfl) ?_)
      rw [x4 b1]
      refine ⟨fun c => absurd ((nI_leI (by omega) (by omega)).mp c) (by omega), fun _ => ?_⟩
      rw [nI_1]
      exact inner o (by omega) (fun σ3 X3 h3 b3 c35 c36 l3 s3 => ih (o + 1) σ3 X3 (by omega) h3 b3 c35 c36 l3 s3) (zo S - (o + 1)) 0 σ1 X1 (by omega) h1 b1 a35 a36 l1 s1
  have single : ∀ (e k : Nat) (σ1 : Hs) (X1 : Nat → Int32), k + e = zo S → RC g σ1 R X1 A hh → Bfr X X1 → X1 35 = nI (skP (sgW S q k) m).1 → X1 36 = nI (skP (sgW S q k) m).2 → (skP (sgW S q k) m).1 ≤ 400 → Sm R T3 σ σ1 → J_X12_seekBest_20 g (SkP g σ R S q m X A hh) σ1 (R 300) (nI q) (nI m) (nI k) := by
    intro e
    induction e with
    | zero =>
      intro k σ1 X1 hk h1 b1 a35 a36 l1 s1
      have hk : k = zo S := hk
      subst hk
      refine q_X12_seekBest_20 _ _ _ _ (h1.x 4 (fun _ _ _ => rfl) ?_)
      rw [x4 b1]
      have e : alW S q 0 = sgW S q (zo S) := by
        have := singW_ge (zf S) (zt S) (zw S) (zo S) (zB S) (zQ S q) (8 - zo S)
        rw [show zo S + (8 - zo S) = 8 by omega] at this
        exact this
      rw [← e] at a35 a36 l1
      exact ⟨fun _ => outer (zo S) 0 σ1 X1 (by omega) h1 b1 a35 a36 l1 s1, fun c => absurd (nI_le (Nat.le_refl _) (by omega)) c⟩
    | succ e ih =>
      intro k σ1 X1 hk h1 b1 a35 a36 l1 s1
      have hk2 : k < zo S := by omega
      have hs := sk_s1 (S := S) (q := q) (k := k) hm hk2 h8
      have ih := ih (k + 1)
      have stay : ¬ ((zB S k).2.2 = false ∧ m.testBit k = true) → J_X12_seekBest_20 g (SkP g σ R S q m X A hh) σ1 (R 300) (nI q) (nI m) (nI k + 1) := by
        intro z
        rw [if_neg (fun y => z y.1)] at hs
        rw [hs] at ih
        rw [nI_1]
        exact ih σ1 X1 (by omega) h1 b1 a35 a36 l1 s1
      refine q_X12_seekBest_20 _ _ _ _ (h1.x 4 (fun _ _ _ => rfl) ?_)
      rw [x4 b1]
      refine ⟨fun c => absurd ((nI_leI (by omega) (by omega)).mp c) (by omega), fun _ => ⟨fun c => stay fun y => c ((bs_one m hm k (by omega)).mpr y.2), fun c => h1.r 6 (fun _ _ _ => rfl) (h1.a 6 rfl rfl rfl (show k < 8 by omega) ?_)⟩⟩
      have c := (bs_one m hm k (by omega)).mp c
      rw [e6 k hk2]
      refine ⟨fun c1 => stay fun y => ?_, fun c1 => h1.r 34 (fun _ _ _ => rfl) (h1.a 34 rfl rfl (i811 q k) (show _ < 648 by omega) ⟨h1.rc, ?_⟩)⟩
      · have := y.1; rw [b2_n0.mp c1] at this; cases this
      · have hd : (zB S k).2.2 = false := b2_0.mp c1
        have hl := v.w1 q hk2
        rw [ht.2.1 k hk2 hd, i1p]
        refine wr_better h1 a35 a36 l1 hl fun σ2 X2 h2 b2 a2 a3 s2 => ?_
        have e2 : skP (sgW S q (k + 1)) m = if w1 S q k < (skP (sgW S q k) m).1 then (w1 S q k, 1 + k) else skP (sgW S q k) m := by
          rw [hs]
          by_cases y : w1 S q k < (skP (sgW S q k) m).1
          · rw [if_pos ⟨⟨hd, c⟩, y⟩, if_pos y]
          · rw [if_neg (fun w => y w.2), if_neg y]
        rw [← e2] at a2 a3
        rw [nI_1]
        refine ih σ2 X2 (by omega) h2 (fun i i1 i2 => (b2 i i1 i2).trans (b1 i i1 i2)) a2 a3 ?_ (s1.trans s2)
        rw [e2]
        split
        · exact hl
        · exact l1
  refine q_X12_seekBest _ _ _ (h.1.r 34 (fun _ _ _ => rfl) (h.1.a 34 rfl rfl (i81 q) (show _ < 648 by omega) (h.1.px 35 _ (by omega) (fun _ _ _ => rfl) fun σ2 h2 s2 => h2.px 36 _ (by omega) (fun _ _ _ => rfl) fun σ3 h3 s3 => ?_)))
  have hT := wT_lt S q
  have e0 : skP (sgW S q 0) m = (wT S q, 0) := sk_one _ m
  refine single (zo S) 0 σ3 _ (by omega) h3 (fun i a b => (upd_ne _ _ b).trans (upd_ne _ _ a)) ?_ ?_ ?_ (s2.trans s3)
  · rw [e0]
    exact ((upd_ne _ _ (by decide)).trans (upd_same _ _ _)).trans ht.1
  · rw [e0]
    exact upd_same _ _ _
  · rw [e0]
    exact hT
theorem rw_best (h : RQ g σ R S X A hh) (v : Iv S) (x y : Int32) : Do g M_X12_best 0 0 [.ref (R 300), .int x, .int y] σ (RP g σ R (v_best S x y, S)) := by
  have q8 := v.q8
  unfold v_best
  refine q_X12_best _ _ _ ⟨h.1.rc, (rr_isQuestion h q8 x).use ⟨fun c => (rd_inR y 255 (by decide)).use ⟨fun c2 => ⟨h.1.rc, ?_⟩, fun c2 => ?_⟩, fun c => ?_⟩⟩
  · have c := b2_n0.mp c
    have c2 := b2_n0.mp c2
    obtain ⟨q, hq, rfl⟩ := inR_of c (by omega)
    obtain ⟨m, hm, rfl⟩ := inR_of c2 (by decide)
    rw [if_t c, if_t c2, nn_i (by omega), nn_i (by omega)]
    refine DoV.use (wr_lookAll h v hq) ?_
    rintro σ2 ⟨A2, h2, k2, t2, -, s2⟩
    have r2 := h.a34 h2 k2
    refine ⟨h2.rc, DoV.use (wr_seekBest r2 v hq t2 hm) ?_⟩
    rintro σ3 ⟨X3, h3, b3, a35, a36, s3⟩
    exact h3.x 36 (fun _ _ _ => rfl) (RP.go h3 (r2.bfr h3 b3).2 (s2.trans s3) a36)
  · rw [if_t (b2_n0.mp c), if_f (b2_0.mp c2)]; exact RP.no h
  · rw [if_f (b2_0.mp c)]; exact RP.no h
theorem rw_regret (h : RQ g σ R S X A hh) (v : Iv S) (x : Int32) : Do g M_X12_regret 0 0 [.ref (R 300), .int x] σ (RP g σ R (v_regret S x, S)) := by
  have q8 := v.q8
  unfold v_regret
  refine q_X12_regret _ _ ⟨h.1.rc, (rr_isQuestion h q8 x).use ⟨fun c => ⟨h.1.rc, ?_⟩, fun c => ?_⟩⟩
  · have c := b2_n0.mp c
    obtain ⟨q, hq, rfl⟩ := inR_of c (by omega)
    rw [if_t c, nn_i (by omega)]
    refine (rr_chosenOf h v hq).use ⟨h.1.rc, (rr_looksOf h v hq (nI (s_ch S q))).use ⟨h.1.rc, DoV.use (wr_lookAll h v hq) ?_⟩⟩
    rintro σ2 ⟨A2, h2, k2, t2, -, s2⟩
    have r2 := h.a34 h2 k2
    refine ⟨h2.rc, DoV.use (wr_seekBest (m := 255) r2 v hq t2 (by decide)) ?_⟩
    rintro σ3 ⟨X3, h3, b3, a35, a36, s3⟩
    refine h3.x 35 (fun _ _ _ => rfl) (RP.go h3 (r2.bfr h3 b3).2 (s2.trans s3) ?_)
    rw [a35]
    show lkR S q (nI (s_ch S q)) - _ = nI (s_cost S q (wayPl (s_W S q) (nI (s_ch S q)))) - _
    unfold lkR
    rw [if_pos (chl_lt v q)]
  · rw [if_f (b2_0.mp c)]; exact RP.no h
/-- what the questions' best ways cost together -/
def qsm (S : SS) (m : Nat) : Nat → Nat
  | 0 => 0
  | i + 1 => qsm S m i + hf (zQ S i) * s_cost S i (s_bpl S i m)
theorem wrk_split (S : SS) (m : Nat) : ∀ i, wrk (zf S) (zt S) (zw S) (zo S) (zB S) (zQ S) (zu S) m i = qsm S m i + zu S * brdO (zB S) (zo S) m
  | 0 => (Nat.zero_add _).symm
  | i + 1 => by
    have ih := wrk_split S m i
    have e : mnQ (zf S) (zt S) (zw S) (zo S) (zB S) (zQ S i) m = s_cost S i (s_bpl S i m) := mnW_bst (s_W S i) m (s_W S i).length
    show wrk (zf S) (zt S) (zw S) (zo S) (zB S) (zQ S) (zu S) m i + hf (zQ S i) * mnQ (zf S) (zt S) (zw S) (zo S) (zB S) (zQ S i) m = qsm S m i + hf (zQ S i) * s_cost S i (s_bpl S i m) + _
    rw [ih, e]
    omega
def WkP (g : GG) (σ : Hs) (R : Nat → Nat) (S : SS) (m : Nat) (X : Nat → Int32) (A : Nat → Nat → Int32) (hh : Int64) : Option Value → Hs → Prop := kI fun x σ' => x = nI (s_wrk S m) ∧ ∃ X', RC g σ' R X' A hh ∧ Bfr X X' ∧ Sm R T3 σ σ'
theorem rk_workOf (h : RQ g σ R S X A hh) (v : Iv S) (ht : ∀ q, q < zq S → TbQ S q (A 34)) {m : Nat} (hm : m < 256) : Do g M_X12_workOf 0 0 [.ref (R 300), .int (nI m)] σ (WkP g σ R S m X A hh) := by
  have h8 := v.o8
  have q8 := v.q8
  have x4 : ∀ {X1}, Bfr X X1 → X1 4 = nI (zo S) := fun b => (b 4 (by decide) (by decide)).trans h.ord.1
  have x14 : ∀ {X1}, Bfr X X1 → X1 14 = nI (zq S) := fun b => (b 14 (by decide) (by decide)).trans h.que.1
  have l40 : ∀ (e k : Nat) (σ1 : Hs) (X1 : Nat → Int32), k + e = zo S → RC g σ1 R X1 A hh → Bfr X X1 → Sm R T3 σ σ1 → J_X12_workOf_40 g (WkP g σ R S m X A hh) σ1 (R 300) (nI m) (nI (qsm S m (zq S) + zu S * sumO (fun w => hgt w.2.2.1 + 2) (zB S) m k)) (nI k) := by
    intro e
    induction e with
    | zero =>
      intro k σ1 X1 hk h1 b1 s1
      have hk : k = zo S := hk
      subst hk
      refine q_X12_workOf_40 _ _ _ _ (h1.x 4 (fun _ _ _ => rfl) ?_)
      rw [x4 b1]
      exact ⟨fun _ => ⟨_, rfl, congrArg nI (wrk_split S m (zq S)).symm, X1, h1, b1, s1⟩, fun c => absurd (nI_le (Nat.le_refl _) (by omega)) c⟩
    | succ e ih =>
      intro k σ1 X1 hk h1 b1 s1
      have hk2 : k < zo S := by omega
      have ih := ih (k + 1)
      have e6 := (h.ord.2 k hk2).2.1
      have stay : ¬ (m.testBit k = true ∧ (zB S k).2.2 = false) → J_X12_workOf_40 g (WkP g σ R S m X A hh) σ1 (R 300) (nI m) (nI (qsm S m (zq S) + zu S * sumO (fun w => hgt w.2.2.1 + 2) (zB S) m k) + 0) (nI k + 1) := by
        intro z
        simp only [sumO] at ih
        rw [if_neg z, Nat.add_zero] at ih
        rw [nI_1, nI_p0]
        exact ih σ1 X1 (by omega) h1 b1 s1
      refine q_X12_workOf_40 _ _ _ _ (h1.x 4 (fun _ _ _ => rfl) ?_)
      rw [x4 b1]
      refine ⟨fun c => absurd ((nI_leI (by omega) (by omega)).mp c) (by omega), fun _ => ⟨fun c => stay fun y => c ((bs_one m hm k (by omega)).mpr y.1), fun c => h1.r 6 (fun _ _ _ => rfl) (h1.a 6 rfl rfl rfl (show k < 8 by omega) ?_)⟩⟩
      have c := (bs_one m hm k (by omega)).mp c
      rw [e6]
      refine ⟨fun c1 => stay fun y => ?_, fun c1 => h1.x 19 (fun _ _ _ => rfl) ⟨h1.rc, ?_⟩⟩
      · have := y.2; rw [b2_n0.mp c1] at this; cases this
      · obtain ⟨-, -, -, e11, -⟩ := h.ord.2 k hk2
        have hl : (zB S k).2.1.2.2.1 ≤ 64 := by have := (v.os hk2).l_le; have := (v.os hk2).1; omega
        rw [(b1 19 (by decide) (by decide)).trans h.num.1]
        refine (rr_heightOf h1 (by omega) e11 hl).use ?_
        rw [nI_1, show nI (hgt (zB S k).2.1.2.2.1) + 2 = nI (hgt (zB S k).2.1.2.2.1 + 2) from nI_add _ 2, show nI (zu S) * nI (hgt (zB S k).2.1.2.2.1 + 2) = nI (zu S * (hgt (zB S k).2.1.2.2.1 + 2)) from pk_mul _ _, nI_add]
        simp only [sumO] at ih
        rw [if_pos ⟨c, b2_0.mp c1⟩, Nat.mul_add, ← Nat.add_assoc] at ih
        exact ih σ1 X1 (by omega) h1 b1 s1
  have l4 : ∀ (e k : Nat) (σ1 : Hs) (X1 : Nat → Int32), k + e = zq S → RC g σ1 R X1 A hh → Bfr X X1 → Sm R T3 σ σ1 → J_X12_workOf_4 g (WkP g σ R S m X A hh) σ1 (R 300) (nI m) (nI (qsm S m k)) (nI k) := by
    intro e
    induction e with
    | zero =>
      intro k σ1 X1 hk h1 b1 s1
      have hk : k = zq S := hk
      subst hk
      refine q_X12_workOf_4 _ _ _ _ (h1.x 14 (fun _ _ _ => rfl) ?_)
      rw [x14 b1]
      exact ⟨fun _ => l40 (zo S) 0 σ1 X1 (by omega) h1 b1 s1, fun c => absurd (nI_le (Nat.le_refl _) (by omega)) c⟩
    | succ e ih =>
      intro k σ1 X1 hk h1 b1 s1
      have hk2 : k < zq S := by omega
      refine q_X12_workOf_4 _ _ _ _ (h1.x 14 (fun _ _ _ => rfl) ?_)
      rw [x14 b1]
      refine ⟨fun c => absurd ((nI_leI (by omega) (by omega)).mp c) (by omega), fun _ => ⟨h1.rc, DoV.use (wr_seekBest (h.bfr h1 b1) v hk2 (ht k hk2) hm) ?_⟩⟩
      rintro σ2 ⟨X2, h2, b2, a35, a36, s2⟩
      have bb : Bfr X X2 := fun i i1 i2 => (b2 i i1 i2).trans (b1 i i1 i2)
      refine h2.r 18 (fun _ _ _ => rfl) (h2.a 18 rfl rfl rfl (show k < 8 by omega) (h2.x 35 (fun _ _ _ => rfl) ?_))
      rw [a35, (h.que.2 k hk2).2.2.2, (v.2.2.1 k hk2).2.1, show nI (hf (zQ S k)) * nI (s_cost S k (s_bpl S k m)) = nI (hf (zQ S k) * s_cost S k (s_bpl S k m)) from pk_mul _ _, nI_add, nI_1]
      exact ih (k + 1) σ2 X2 (by omega) h2 bb (s1.trans s2)
  exact q_X12_workOf _ _ (l4 (zq S) 0 σ X (by omega) h.1 (fun _ _ _ => rfl) Sm.refl)
theorem rw_work (h : RQ g σ R S X A hh) (v : Iv S) (y : Int32) : Do g M_X12_work 0 0 [.ref (R 300), .int y] σ (RP g σ R (v_work S y, S)) := by
  unfold v_work
  refine q_X12_work _ _ ((rd_inR y 255 (by decide)).use ⟨fun c => ⟨h.1.rc, DoV.use (wr_lookAtAll h v) ?_⟩, fun c => ?_⟩)
  · have c := b2_n0.mp c
    obtain ⟨m, hm, rfl⟩ := inR_of c (by decide)
    rw [if_t c, nn_i (by omega)]
    rintro σ2 ⟨A2, h2, k2, t2, s2⟩
    have r2 := h.a34 h2 k2
    refine ⟨h2.rc, DoI.use (rk_workOf r2 v t2 hm) ?_⟩
    rintro x σ3 ⟨rfl, X3, h3, b3, s3⟩
    exact RP.go h3 (r2.bfr h3 b3).2 (s2.trans s3) rfl
  · rw [if_f (b2_0.mp c)]; exact RP.no h
theorem rw_worth (h : RQ g σ R S X A hh) (v : Iv S) (y x : Int32) : Do g M_X12_worth 0 0 [.ref (R 300), .int y, .int x] σ (RP g σ R (v_worth S y x, S)) := by
  have h8 := v.o8
  unfold v_worth
  refine q_X12_worth _ _ _ ⟨h.1.rc, (rr_isOrder h h8 x).use ⟨fun c => (rd_inR y 255 (by decide)).use ⟨fun c2 => ?_, fun c2 => ?_⟩, fun c => ?_⟩⟩
  · have c := b2_n0.mp c
    have c2 := b2_n0.mp c2
    obtain ⟨o, ho, h8', hd, rfl⟩ := isO_of h8 c
    obtain ⟨m, hm, rfl⟩ := inR_of c2 (by decide)
    rw [if_t c, if_t c2, nn_i (by omega), nn_i (by omega)]
    have hb := bs_has m hm o h8'
    refine ⟨fun z => ⟨h.1.rc, DoV.use (wr_lookAtAll h v) ?_⟩, fun z => ?_⟩
    · have z : m.testBit o = true := by
        rcases Bool.eq_false_or_eq_true (m.testBit o) with w | w
        · exact w
        · exact absurd (hb.mpr w) z
      rw [if_t z]
      rintro σ2 ⟨A2, h2, k2, t2, s2⟩
      have r2 := h.a34 h2 k2
      refine ⟨h2.rc, DoI.use (rk_workOf r2 v t2 hm) ?_⟩
      rintro x2 σ3 ⟨rfl, X3, h3, b3, s3⟩
      have r3 := r2.bfr h3 b3
      rw [bs_without m hm o h8']
      refine ⟨h3.rc, DoI.use (rk_workOf (m := wout m o) r3 v t2 (wout_lt hm)) ?_⟩
      rintro x3 σ4 ⟨rfl, X4, h4, b4, s4⟩
      exact RP.go h4 (r3.bfr h4 b4).2 ((s2.trans s3).trans s4) rfl
    · rw [if_f (hb.mp z)]; exact RP.no h
  · rw [if_t (b2_n0.mp c), if_f (b2_0.mp c2)]; exact RP.no h
  · rw [if_f (b2_0.mp c)]; exact RP.no h
end RSK
