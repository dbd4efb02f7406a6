/-! The class's picture, mark, back. -/
def s_srt (S : SS) (c : Nat) : Nat × (Nat → Int32) := tkI (zf S) (zt S) c (fun _ => 0) 64
def s_pict (S : SS) (c : Nat) : SS := (S.1, S.2.1, S.2.2.1, ((s_srt S c).1, setP (zP S) c (tkP (s_srt S c).1 (s_srt S c).2 (zP S c) 4)), S.2.2.2.2)
def s_picture (S : SS) (x : Int32) : Int32 × SS := if inR x 4 then (nI (tkN (s_srt S x.toInt.toNat).1 4), s_pict S x.toInt.toNat) else (-101, S)
def zMk (S : SS) (mk : Nat) (M : Nat → MT) : SS := (S.1, S.2.1, S.2.2.1, S.2.2.2.1, S.2.2.2.2.1, (mk, M), S.2.2.2.2.2.2)
def s_mark (S : SS) : Int32 × SS := if zm S < 3 then (nI (zm S + 1), zMk S (zm S + 1) (setM (zM S) (zm S) (cpT (zM S (zm S)).1 (zf S, zt S)))) else (-104, S)
def B_reb (f : Nat → Int32) (tk : Nat → Bool) (B : Nat → OD) : Nat → OD := eachO (fun key w => rebS f key tk w) B
def s_bk (S : SS) (i : Nat) : SS := zMk (zTO S (cpT (zf S) (zM S i)).1 (zM S i).2 (B_reb (cpT (zf S) (zM S i)).1 (zM S i).2 (zB S))) (i + 1) (zM S)
def s_back (S : SS) (x : Int32) : Int32 × SS := if inR x (zm S) then (nI (fa_cnt (zM S x.toInt.toNat).2 64), s_bk S x.toInt.toNat) else (-101, S)
theorem insF_cong {F G : Nat → Int32} {p n : Nat} {v : Int32} (hp : p ≤ n) (h : ∀ j, j < n → F j = G j) : ∀ j, j < n + 1 → insF F p n v j = insF G p n v j := fun j hj => by
  unfold insF
  by_cases c : j < p
  · rw [if_pos c, if_pos c]; exact h j (by omega)
  · rw [if_neg c, if_neg c]
    by_cases c2 : j = p
    · rw [if_pos c2, if_pos c2]
    · rw [if_neg c2, if_neg c2, if_pos (by omega), if_pos (by omega)]; exact h _ (by omega)
theorem plF_cong {F G : Nat → Int32} {n : Nat} {v : Int32} (h : ∀ j, j < n → F j = G j) : plF F n v = plF G n v := fa_first_cong fun k hk => by rw [h k hk]
theorem tkI_cong (f : Nat → Int32) (tk : Nat → Bool) (c : Nat) (F G : Nat → Int32) : ∀ s, (tkI f tk c F s).1 = (tkI f tk c G s).1 ∧ ∀ j, j < (tkI f tk c G s).1 → (tkI f tk c F s).2 j = (tkI f tk c G s).2 j
  | 0 => ⟨rfl, fun j hj => absurd hj (Nat.not_lt_zero _)⟩
  | s + 1 => by
    obtain ⟨a1, a2⟩ := tkI_cong f tk c F G s
    rw [tkI_s f tk c F s, tkI_s f tk c G s]
    by_cases ht : tk s = true
    · rw [if_pos ht, if_pos ht]
      refine ⟨by show _ + 1 = _ + 1; rw [a1], fun j hj => ?_⟩
      show insF _ _ _ _ j = insF _ _ _ _ j
      rw [a1, plF_cong a2]
      exact insF_cong (plF_le _ _ _) a2 j hj
    · rw [if_neg ht, if_neg ht]
      exact ⟨a1, a2⟩
theorem tkP_cong {n : Nat} {S T : Nat → Int32} (P : PD) (h : ∀ j, j < n → S j = T j) : ∀ i, i ≤ 4 → tkP n S P i = tkP n T P i
  | 0, _ => rfl
  | i + 1, hi => by
    have ih := tkP_cong P h i (by omega)
    have e1 : (i + 1) * n = i * n + n := Nat.succ_mul i n
    have hin : i * n ≤ 3 * n := Nat.mul_le_mul_right n (by omega)
    show (true, setN (tkP n S P i).2.1 i _, if i * n / 4 < (i + 1) * n / 4 then upd (tkP n S P i).2.2.1 i (S (i * n / 4)) else (tkP n S P i).2.2.1, if i * n / 4 < (i + 1) * n / 4 then upd (tkP n S P i).2.2.2 i (S ((i + 1) * n / 4 - 1)) else (tkP n S P i).2.2.2) = (true, setN (tkP n T P i).2.1 i _, if i * n / 4 < (i + 1) * n / 4 then upd (tkP n T P i).2.2.1 i (T (i * n / 4)) else (tkP n T P i).2.2.1, if i * n / 4 < (i + 1) * n / 4 then upd (tkP n T P i).2.2.2 i (T ((i + 1) * n / 4 - 1)) else (tkP n T P i).2.2.2)
    rw [ih]
    by_cases c : i * n / 4 < (i + 1) * n / 4
    · rw [if_pos c, if_pos c, if_pos c, if_pos c, h _ (by omega), h _ (by omega)]
    · rw [if_neg c, if_neg c, if_neg c, if_neg c]
theorem Inv.picture {S : SS} (h : Inv S) (x : Int32) : Inv (s_picture S x).2 := by
  unfold s_picture
  by_cases c : inR x 4 = true
  · rw [if_pos c]
    obtain ⟨k, hk, rfl⟩ := inR_of c (by decide)
    rw [nn_i (by omega)]
    have hle := tkI_le (zf S) (zt S) k (fun _ => 0) 64
    have hs : srtF (s_srt S k).2 (s_srt S k).1 (fun v => 0 ≤ v.toInt ∧ v.toInt ≤ 99) := tkI_srt 64 fun t ht h2 => h.1.2.1 t ht h2 k hk
    refine ⟨h.1, h.2.1, ⟨fun j hj => ?_, hle⟩, h.2.2.2⟩
    show PicOk (setP (zP S) k _ j)
    unfold setP
    by_cases e : j = k
    · rw [if_pos e]
      exact tkP_ok (h.2.2.1.1 k hk) hle hs 4 (Nat.le_refl _)
    · rw [if_neg e]; exact h.2.2.1.1 j hj
  · rw [if_neg c]; exact h
theorem Cells.cp {f0 : Nat → Int32} {T : MT} (h : Cells T.1 T.2) : Cells (cpT f0 T).1 (cpT f0 T).2 := fun s hs h2 c hc => by
  rw [cpT_f (by omega)]
  exact h s hs h2 c hc
theorem Inv.mark {S : SS} (h : Inv S) : Inv (s_mark S).2 := by
  unfold s_mark
  by_cases c : zm S < 3
  · rw [if_pos c]
    refine ⟨h.1, h.2.1, h.2.2.1, h.2.2.2.1, ⟨by show zm S + 1 ≤ 3; omega, fun i hi => ?_⟩, h.2.2.2.2.2⟩
    have hi : i < zm S + 1 := hi
    show Cells (setM (zM S) (zm S) (cpT (zM S (zm S)).1 (zf S, zt S)) i).1 (setM (zM S) (zm S) (cpT (zM S (zm S)).1 (zf S, zt S)) i).2
    unfold setM
    by_cases e : i = zm S
    · rw [if_pos e]; exact Cells.cp (T := (zf S, zt S)) h.1.2.1
    · rw [if_neg e]; exact h.2.2.2.2.1.2 i (by omega)
  · rw [if_neg c]; exact h
theorem Inv.back {S : SS} (h : Inv S) (x : Int32) : Inv (s_back S x).2 := by
  unfold s_back
  have h3 := h.2.2.2.2.1.1
  by_cases c : inR x (zm S) = true
  · rw [if_pos c]
    obtain ⟨i, hi, rfl⟩ := inR_of c (by omega)
    rw [nn_i (by omega)]
    refine ⟨⟨h.1.1.each fun key w _ => rebS_in _ _ _ _, Cells.cp (h.2.2.2.2.1.2 i hi), h.1.2.2⟩, h.2.1, h.2.2.1, h.2.2.2.1, ⟨by show i + 1 ≤ 3; omega, fun j hj => h.2.2.2.2.1.2 j (by have hj : j < i + 1 := hj; omega)⟩, h.2.2.2.2.2⟩
  · rw [if_neg c]; exact h
section MRK
variable {g : GG} {σ σ' : Hs} {R : Nat → Nat} {S : SS}
end MRK
theorem Inv.choose {S : SS} (h : Inv S) (x y : Int32) : Inv (s_choose S x y).2 := by
  unfold s_choose
  by_cases c : inR x 10000 = true
  · rw [if_pos c]
    by_cases c2 : inR y 3 = true
    · rw [if_pos c2]
      by_cases c3 : zc S < 20
      · rw [if_pos c3]
        exact ⟨h.1, h.2.1, h.2.2.1, h.2.2.2.1, h.2.2.2.2.1, by show zc S + 1 ≤ 20; omega, h.2.2.2.2.2.2⟩
      · rw [if_neg c3]; exact h
    · rw [if_neg c2]; exact h
  · rw [if_neg c]; exact h
theorem Inv.steps {S : SS} (h : Inv S) (x y : Int32) : Inv (s_steps S x y).2 := by
  unfold s_steps
  by_cases c : inR x 10000 = true
  · rw [if_pos c]
    by_cases c2 : (inR y 3 || (decide (10 ≤ y.toInt) && decide (y.toInt < 18))) = true
    · rw [if_pos c2]
      by_cases c3 : zs S < 20
      · rw [if_pos c3]
        exact ⟨h.1, h.2.1, h.2.2.1, h.2.2.2.1, h.2.2.2.2.1, h.2.2.2.2.2.1, by show zs S + 1 ≤ 20; omega⟩
      · rw [if_neg c3]; exact h
    · rw [if_neg c2]; exact h
  · rw [if_neg c]; exact h
theorem Inv.wide {S : SS} (h : Inv S) (x : Int32) : Inv (s_wide S x).2 := by
  unfold s_wide
  by_cases c : inL x 2 8 = true
  · rw [if_pos c]; exact h
  · rw [if_neg c]; exact h
