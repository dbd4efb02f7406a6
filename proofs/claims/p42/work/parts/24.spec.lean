/-! The mathematical side of orders: keys, who is ahead, entries and leaves as functions on numbers. -/
def kw (key : Nat) : Nat := if 25 ≤ key then 3 else if 5 ≤ key then 2 else 1
def rmk (key : Nat) : Nat := if 25 ≤ key then 3 else if 5 ≤ key then 4 else 6
/-- the i-th figure of a key, from the front, and the column that it names -/
def kfig (key i : Nat) : Nat := key / 5 ^ (kw key - 1 - i) % 5
def kcol (key i : Nat) : Nat := kfig key i - 1
def kok (key : Nat) : Prop := 1 ≤ key ∧ key ≤ 124 ∧ (∀ i, i < kw key → 1 ≤ kfig key i) ∧ ∀ i j, i < kw key → j < kw key → kfig key i = kfig key j → i = j
def kmaskN (key : Nat) : Nat → Nat
  | 0 => 0
  | i + 1 => kmaskN key i ||| 2 ^ kcol key i
def kmask (key : Nat) : Nat := kmaskN key (kw key)
theorem kw_le (key : Nat) : 1 ≤ kw key ∧ kw key ≤ 3 := by unfold kw; split; omega; split <;> omega
theorem rmk_le (key : Nat) : 3 ≤ rmk key ∧ rmk key ≤ 6 := by unfold rmk; split; omega; split <;> omega
theorem kfig_le (key i : Nat) : kfig key i < 5 := Nat.mod_lt _ (by decide)
theorem kcol_lt (key i : Nat) : kcol key i < 4 := by have := kfig_le key i; unfold kcol; omega
/-- the row of slot s is ahead of the row of slot t, by the key's columns from i on, r of them -/
def ahG (f : Nat → Int32) (key s t : Nat) : Nat → Nat → Bool
  | _, 0 => decide (s < t)
  | i, r + 1 => if f (4 * s + kcol key i) = f (4 * t + kcol key i) then ahG f key s t (i + 1) r else decide (f (4 * s + kcol key i) < f (4 * t + kcol key i))
def ah (f : Nat → Int32) (key s t : Nat) : Bool := ahG f key s t 0 (kw key)
theorem ahG_trans {f : Nat → Int32} {key s t u : Nat} : ∀ (r i : Nat), ahG f key s t i r = true → ahG f key t u i r = true → ahG f key s u i r = true
  | 0, i, h1, h2 => by
    simp only [ahG, decide_eq_true_eq] at *
    omega
  | r + 1, i, h1, h2 => by
    simp only [ahG] at *
    by_cases e1 : f (4 * s + kcol key i) = f (4 * t + kcol key i)
    · rw [if_pos e1] at h1
      by_cases e2 : f (4 * t + kcol key i) = f (4 * u + kcol key i)
      · rw [if_pos e2] at h2
        rw [if_pos (e1.trans e2)]
        exact ahG_trans r (i + 1) h1 h2
      · rw [if_neg e2] at h2
        rw [e1, if_neg e2]
        exact h2
    · rw [if_neg e1] at h1
      by_cases e2 : f (4 * t + kcol key i) = f (4 * u + kcol key i)
      · rw [if_pos e2] at h2
        rw [← e2, if_neg e1]
        exact h1
      · rw [if_neg e2] at h2
        have a1 := of_decide_eq_true h1
        have a2 := of_decide_eq_true h2
        rw [I_lt] at a1 a2
        rw [if_neg (by rw [I_eq]; omega)]
        exact decide_eq_true (by rw [I_lt]; omega)
theorem ahG_tot {f : Nat → Int32} {key s t : Nat} (hne : s ≠ t) : ∀ (r i : Nat), ahG f key s t i r = !ahG f key t s i r
  | 0, i => by
    simp only [ahG]
    rcases Nat.lt_or_gt_of_ne hne with h | h
    · rw [decide_eq_true h, decide_eq_false (by omega)]; rfl
    · rw [decide_eq_false (by omega), decide_eq_true h]; rfl
  | r + 1, i => by
    simp only [ahG]
    by_cases e1 : f (4 * s + kcol key i) = f (4 * t + kcol key i)
    · rw [if_pos e1, if_pos e1.symm]
      exact ahG_tot hne r (i + 1)
    · rw [if_neg e1, if_neg (fun h => e1 h.symm)]
      rw [I_eq] at e1
      by_cases h : f (4 * s + kcol key i) < f (4 * t + kcol key i)
      · rw [decide_eq_true h]
        rw [I_lt] at h
        rw [decide_eq_false (by rw [I_lt]; omega)]; rfl
      · rw [decide_eq_false h]
        rw [I_lt] at h
        rw [decide_eq_true (by rw [I_lt]; omega)]; rfl
theorem ah_trans {f : Nat → Int32} {key s t u : Nat} (h1 : ah f key s t = true) (h2 : ah f key t u = true) : ah f key s u = true := ahG_trans _ _ h1 h2
theorem ah_tot {f : Nat → Int32} {key s t : Nat} (h : s ≠ t) : ah f key s t = !ah f key t s := ahG_tot h _ _
theorem ahG_cong {f f2 : Nat → Int32} {key s t : Nat} (hs : ∀ c, c < 4 → f (4 * s + c) = f2 (4 * s + c)) (ht : ∀ c, c < 4 → f (4 * t + c) = f2 (4 * t + c)) : ∀ (r i : Nat), ahG f key s t i r = ahG f2 key s t i r
  | 0, _ => rfl
  | r + 1, i => by
    simp only [ahG]
    rw [hs _ (kcol_lt key i), ht _ (kcol_lt key i), ahG_cong hs ht r (i + 1)]
theorem ah_cong {f f2 : Nat → Int32} {key s t : Nat} (hs : ∀ c, c < 4 → f (4 * s + c) = f2 (4 * s + c)) (ht : ∀ c, c < 4 → f (4 * t + c) = f2 (4 * t + c)) : ah f key s t = ah f2 key s t := ahG_cong hs ht _ _
/-! rows of numbers: a number comes in at p, one goes -/
def insN (e : Nat → Nat) (p n v : Nat) : Nat → Nat := fun j => if j < p then e j else if j = p then v else if j ≤ n then e (j - 1) else e j
def remN (e : Nat → Nat) (p n : Nat) : Nat → Nat := fun j => if p ≤ j ∧ j + 1 < n then e (j + 1) else e j
def setN (e : Nat → Nat) (k v : Nat) : Nat → Nat := fun j => if j = k then v else e j
def nF (e : Nat → Nat) : Nat → Int32 := fun j => nI (e j)
theorem nF_ins (e : Nat → Nat) (p n v : Nat) : insF (nF e) p n (nI v) = nF (insN e p n v) := by
  funext j
  simp only [insF, nF, insN]
  split
  · rfl
  · split
    · rfl
    · split <;> rfl
theorem nF_rem (e : Nat → Nat) (p n : Nat) : remF (nF e) p n = nF (remN e p n) := by
  funext j
  simp only [remF, nF, remN]
  split <;> rfl
theorem nF_set (e : Nat → Nat) (k v : Nat) : upd (nF e) k (nI v) = nF (setN e k v) := by
  funext j
  simp only [upd, nF, setN]
  split <;> rfl
/-- sums of the first sizes; the leaf of a place -/
def psum (z : Nat → Nat) : Nat → Nat
  | 0 => 0
  | k + 1 => psum z k + z k
def lfAt (z : Nat → Nat) (l place : Nat) : Nat := if fa_first (fun k => decide (place < psum z (k + 1))) l < l then fa_first (fun k => decide (place < psum z (k + 1))) l else 0
/-- an order's entries e (n of them), leaves z (l of them), how often a leaf was cut -/
abbrev OS : Type := Nat × (Nat → Nat) × Nat × (Nat → Nat) × Nat
/-- how many entries from the front are ahead of slot s -/
def plc (f : Nat → Int32) (key : Nat) (w : OS) (s : Nat) : Nat := fa_first (fun i => !ah f key (w.2.1 i) s) w.1
def lfFor (w : OS) (p : Nat) : Nat := if 0 < p then lfAt w.2.2.2.1 w.2.2.1 (p - 1) else 0
def cutS (w : OS) (leaf : Nat) : OS := (w.1, w.2.1, w.2.2.1 + 1, insN (setN w.2.2.2.1 leaf ((w.2.2.2.1 leaf + 1) / 2)) (leaf + 1) w.2.2.1 (w.2.2.2.1 leaf - (w.2.2.2.1 leaf + 1) / 2), w.2.2.2.2 + 1)
def come1 (w : OS) (p leaf s : Nat) : OS := (w.1 + 1, insN w.2.1 p w.1 s, if w.2.2.1 = 0 then 1 else w.2.2.1, setN (if w.2.2.1 = 0 then setN w.2.2.2.1 0 0 else w.2.2.2.1) leaf ((if w.2.2.1 = 0 then setN w.2.2.2.1 0 0 else w.2.2.2.1) leaf + 1), w.2.2.2.2)
def comeS (f : Nat → Int32) (key : Nat) (w : OS) (s : Nat) : OS :=
  if rmk key < (come1 w (plc f key w s) (lfFor w (plc f key w s)) s).2.2.2.1 (lfFor w (plc f key w s)) then cutS (come1 w (plc f key w s) (lfFor w (plc f key w s)) s) (lfFor w (plc f key w s)) else come1 w (plc f key w s) (lfFor w (plc f key w s)) s
def go1 (w : OS) (p leaf : Nat) : OS := (w.1 - 1, remN w.2.1 p w.1, w.2.2.1, setN w.2.2.2.1 leaf (w.2.2.2.1 leaf - 1), w.2.2.2.2)
def go2 (w : OS) (leaf : Nat) : OS := (w.1, w.2.1, w.2.2.1 - 1, remN w.2.2.2.1 leaf w.2.2.1, w.2.2.2.2)
def goAt (w : OS) (p : Nat) : OS := if (go1 w p (lfAt w.2.2.2.1 w.2.2.1 p)).2.2.2.1 (lfAt w.2.2.2.1 w.2.2.1 p) = 0 then go2 (go1 w p (lfAt w.2.2.2.1 w.2.2.1 p)) (lfAt w.2.2.2.1 w.2.2.1 p) else go1 w p (lfAt w.2.2.2.1 w.2.2.1 p)
def goS (w : OS) (s : Nat) : OS := if fa_first (fun i => decide (w.2.1 i = s)) w.1 < w.1 then goAt w (fa_first (fun i => decide (w.2.1 i = s)) w.1) else w
/-- all rows anew -/
def reb1 (f : Nat → Int32) (key : Nat) (tk : Nat → Bool) (w : OS) : Nat → OS
  | 0 => (0, w.2.1, w.2.2.1, w.2.2.2.1, w.2.2.2.2)
  | s + 1 => if tk s then ((reb1 f key tk w s).1 + 1, insN (reb1 f key tk w s).2.1 (plc f key (reb1 f key tk w s) s) (reb1 f key tk w s).1 s, w.2.2.1, w.2.2.2.1, w.2.2.2.2) else reb1 f key tk w s
/-- leaves of rm entries each over n entries: k leaves laid -/
def lay1 (z : Nat → Nat) (rm n : Nat) : Nat → Nat → Nat
  | 0 => z
  | k + 1 => setN (lay1 z rm n k) k (min rm (n - k * rm))
def lvs (rm n : Nat) : Nat := (n + rm - 1) / rm
def packS (key : Nat) (w : OS) : OS := (w.1, w.2.1, lvs (rmk key) w.1, lay1 w.2.2.2.1 (rmk key) w.1 (lvs (rmk key) w.1), w.2.2.2.2)
def rebS (f : Nat → Int32) (key : Nat) (tk : Nat → Bool) (w : OS) : OS := packS key (reb1 f key tk w 64)
def hgtN : Nat → Nat → Nat
  | 0, _ => 0
  | d + 1, n => if 1 < n then hgtN d ((n + 3) / 4) + 1 else 0
def szN : Nat → Nat → Nat
  | 0, _ => 0
  | d + 1, n => if 1 < n then szN d ((n + 3) / 4) + (n + 3) / 4 else 0
/-- height and size of l leaves (l at most 64: four divisions are more than enough) -/
def hgt (l : Nat) : Nat := hgtN 8 l
def szO (l : Nat) : Nat := l + szN 8 l
