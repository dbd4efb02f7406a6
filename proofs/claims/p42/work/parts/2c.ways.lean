/-! ===== the class Ways: R 6 itself; numbers R 7 over R 8, sets R 9 over R 10, costs R 11 over R 12, reaches R 13 over R 14, left R 15 ===== -/
def aJ (g : GG) (n : Nat) (f : Nat → Int64) : va_E := .inl (g.2.2.1 3, n, .inr (.inl f))
theorem ne_aJ {g : GG} {σ : Hs} {a b n m : Nat} {f : Nat → Int64} {f2 : Nat → Int32} (h1 : Ce σ a (aJ g n f)) (h2 : Ce σ b (aI g m f2)) : a ≠ b := fun e => by subst e; exact absurd (h1.uniq h2) (by simp [aI, aJ])
theorem ne_oJ {g : GG} {σ : Hs} {a b n ci : Nat} {fs : List Value} {f : Nat → Int64} (h1 : Ce σ a (.inr (ci, fs))) (h2 : Ce σ b (aJ g n f)) : a ≠ b := fun e => by subst e; exact absurd (h1.uniq h2) (by simp [aJ])
theorem ne_QJ {g : GG} {σ : Hs} {a b n t m : Nat} {f : Nat → Int64} {f2 : Nat → Option Nat} (h1 : Ce σ a (aJ g n f)) (h2 : Ce σ b (aQ g t m f2)) : a ≠ b := fun e => by subst e; exact absurd (h1.uniq h2) (by simp [aQ, aJ])
/-- what Ways holds: how many are listed; numbers, sets, costs; reaches, left -/
abbrev WS : Type := Nat × (Nat → Int32) × (Nat → Int32) × (Nat → Int32) × (Nat → Int32) × (Nat → Int64)
def wc (R : Nat → Nat) (n : Nat) : va_E := .inr (9, [.ref (R 1), .ref (R 4), .ref (R 7), .ref (R 9), .ref (R 11), .ref (R 13), .ref (R 15), .int (nI n)])
def WayC (g : GG) (σ : Hs) (R : Nat → Nat) (u : WS) : Prop := Ce σ (R 6) (wc R u.1) ∧ NumAt g σ (R 7) (R 8) 37 u.2.1 ∧ NumAt g σ (R 9) (R 10) 37 u.2.2.1 ∧ NumAt g σ (R 11) (R 12) 37 u.2.2.2.1 ∧ NumAt g σ (R 13) (R 14) 8 u.2.2.2.2.1 ∧ Ce σ (R 15) (aJ g 8 u.2.2.2.2.2) ∧ R 8 ≠ R 10 ∧ R 8 ≠ R 12 ∧ R 10 ≠ R 12
def wup (g : GG) (σ : Hs) (R : Nat → Nat) (u : WS) : Hs := hup (hup (hup (hup (hup (hup σ (R 8) (aI g 37 u.2.1)) (R 10) (aI g 37 u.2.2.1)) (R 12) (aI g 37 u.2.2.2.1)) (R 14) (aI g 8 u.2.2.2.2.1)) (R 15) (aJ g 8 u.2.2.2.2.2)) (R 6) (wc R u.1)
section WAY
variable {g : GG} {σ : Hs} {R : Nat → Nat} {u : WS}
theorem NumAt.wup {a q n : Nat} {f : Nat → Int32} (h : NumAt g σ a q n f) (hw : WayC g σ R u) (h37 : n ≠ 37) (h8 : n ≠ 8) (u' : WS) : NumAt g (wup g σ R u') a q n f := by
  obtain ⟨w0, w1, w2, w3, w4, w5, -⟩ := hw
  exact (((((h.upo _ (ne_oa h.1 w1.2.1) (ne_len h.2.1 w1.2.1 h37)).upo _ (ne_oa h.1 w2.2.1) (ne_len h.2.1 w2.2.1 h37)).upo _ (ne_oa h.1 w3.2.1) (ne_len h.2.1 w3.2.1 h37)).upo _ (ne_oa h.1 w4.2.1) (ne_len h.2.1 w4.2.1 h8)).upo _ (ne_oJ h.1 w5) (ne_aJ w5 h.2.1).symm).upo _ (ne_cl h.1 w0 (by decide)) (ne_oa w0 h.2.1).symm
theorem Ce.wup {a ci : Nat} {fs : List Value} (h : Ce σ a (.inr (ci, fs))) (hw : WayC g σ R u) (hc : ci ≠ 9) (u' : WS) : Ce (wup g σ R u') a (.inr (ci, fs)) := by
  obtain ⟨w0, w1, w2, w3, w4, w5, -⟩ := hw
  exact (((((h.upo (ne_oa h w1.2.1)).upo (ne_oa h w2.2.1)).upo (ne_oa h w3.2.1)).upo (ne_oa h w4.2.1)).upo (ne_oJ h w5)).upo (ne_cl h w0 hc)
theorem way_aQ {a t n : Nat} {f : Nat → Option Nat} (h : Ce σ a (aQ g t n f)) (hw : WayC g σ R u) (u' : WS) : Ce (wup g σ R u') a (aQ g t n f) := by
  obtain ⟨w0, w1, w2, w3, w4, w5, -⟩ := hw
  exact (((((h.upo (ne_aQ h w1.2.1)).upo (ne_aQ h w2.2.1)).upo (ne_aQ h w3.2.1)).upo (ne_aQ h w4.2.1)).upo (ne_QJ w5 h).symm).upo (ne_oQ w0 h).symm
theorem way_tab {t q tq wd : Nat} {f : Nat → Int32} {tk : Nat → Bool} (h : TabAt g σ t q tq f tk wd) (hw : WayC g σ R u) (u' : WS) : TabAt g (wup g σ R u') t q tq f tk wd := ⟨h.1.wup hw (by decide) u', h.2.wup hw (by decide) (by decide) u'⟩
theorem way_ord {a : Nat → Nat} {key : Nat} {w : OS} {dr : Bool} (h : OrdC g σ a key w dr) (hw : WayC g σ R u) (u' : WS) : OrdC g (wup g σ R u') a key w dr := by
  obtain ⟨h0, ⟨A, hA, hA2⟩, h3, h4, h67⟩ := h
  exact ⟨Ce.wup h0 hw (by decide) u', ⟨A, hA.wup hw (by decide) (by decide) u', hA2⟩, h3.wup hw (by decide) (by decide) u', h4.wup hw (by decide) (by decide) u', h67⟩
theorem way_ords {told : Nat} {B : Nat → OD} (h : OrdsC g σ R told B) (hw : WayC g σ R u) (u' : WS) : OrdsC g (wup g σ R u') R told B := ⟨h.1.wup hw (by decide) u', way_aQ h.2.1 hw u', h.2.2.1, fun o ho => way_ord (h.2.2.2.1 o ho) hw u', h.2.2.2.2.1, h.2.2.2.2.2⟩
theorem way_que {b : Nat → Nat} {d : QD} (h : QAt g σ b d) (hw : WayC g σ R u) (u' : WS) : QAt g (wup g σ R u') b d := ⟨Ce.wup h.1 hw (by decide) u', h.2.1.wup hw (by decide) (by decide) u', h.2.2.1.wup hw (by decide) (by decide) u', h.2.2.2⟩
theorem WayC.keep (h : WayC g σ R u) (u' : WS) : WayC g (wup g σ R u') R u' := by
  obtain ⟨w0, w1, w2, w3, w4, w5, d1, d2, d3⟩ := h
  have o8 := ne_oa w0 w1.2.1
  have o10 := ne_oa w0 w2.2.1
  have o12 := ne_oa w0 w3.2.1
  have o14 := ne_oa w0 w4.2.1
  have o15 := ne_oJ w0 w5
  have d4 := ne_len w4.2.1 w1.2.1 (by decide)
  have d5 := ne_len w4.2.1 w2.2.1 (by decide)
  have d6 := ne_len w4.2.1 w3.2.1 (by decide)
  have j8 := ne_aJ w5 w1.2.1
  have j10 := ne_aJ w5 w2.2.1
  have j12 := ne_aJ w5 w3.2.1
  have j14 := ne_aJ w5 w4.2.1
  have nob : ∀ {a q n : Nat} {f : Nat → Int32}, NumAt g σ a q n f → Ce (wup g σ R u') a (.inr (1, [.ref q])) := fun hn => (((((hn.1.upo (ne_oa hn.1 w1.2.1)).upo (ne_oa hn.1 w2.2.1)).upo (ne_oa hn.1 w3.2.1)).upo (ne_oa hn.1 w4.2.1)).upo (ne_oJ hn.1 w5)).upo (ne_cl hn.1 w0 (by decide))
  refine ⟨(((((w0.upo o8).upo o10).upo o12).upo o14).upo o15).up _, ⟨nob w1, ?_, w1.2.2⟩, ⟨nob w2, ?_, w2.2.2⟩, ⟨nob w3, ?_, w3.2.2⟩, ⟨nob w4, ?_, w4.2.2⟩, ?_, d1, d2, d3⟩
  · exact (((((w1.2.1.up _).upo d1).upo d2).upo d4.symm).upo j8.symm).upo o8.symm
  · exact (((((w2.2.1.upo d1.symm).up _).upo d3).upo d5.symm).upo j10.symm).upo o10.symm
  · exact (((((w3.2.1.upo d2.symm).upo d3.symm).up _).upo d6.symm).upo j12.symm).upo o12.symm
  · exact (((((w4.2.1.upo d4).upo d5).upo d6).up _).upo j14.symm).upo o14.symm
  · exact (((((w5.upo j8).upo j10).upo j12).upo j14).up _).upo o15.symm
theorem wup_wup (u1 u2 : WS) : wup g (wup g σ R u1) R u2 = wup g σ R u2 := by
  unfold wup hup
  congr 1
  funext j
  simp only [va_up]
  by_cases h1 : j = R 6
  · simp [h1]
  · by_cases h2 : j = R 15
    · simp [h1, h2]
    · by_cases h3 : j = R 14
      · simp [h1, h2, h3]
      · by_cases h4 : j = R 12
        · simp [h1, h2, h3, h4]
        · by_cases h5 : j = R 10
          · simp [h1, h2, h3, h4, h5]
          · by_cases h6 : j = R 8
            · simp [h1, h2, h3, h4, h5, h6]
            · simp [h1, h2, h3, h4, h5, h6]
theorem WayC.self (h : WayC g σ R u) : wup g σ R u = σ := by
  obtain ⟨w0, w1, w2, w3, w4, w5, d1, d2, d3⟩ := h
  unfold wup
  rw [hup_self w1.2.1, hup_self w2.2.1, hup_self w3.2.1, hup_self w4.2.1, hup_self w5, hup_self w0]
theorem WayC.set8 (h : WayC g σ R u) (F : Nat → Int32) : hup σ (R 8) (aI g 37 F) = wup g σ R (u.1, F, u.2.2) := by
  obtain ⟨w0, w1, w2, w3, w4, w5, d1, d2, d3⟩ := h
  show _ = hup (hup (hup (hup (hup (hup σ (R 8) (aI g 37 F)) (R 10) (aI g 37 u.2.2.1)) (R 12) (aI g 37 u.2.2.2.1)) (R 14) (aI g 8 u.2.2.2.2.1)) (R 15) (aJ g 8 u.2.2.2.2.2)) (R 6) (wc R u.1)
  rw [hup_self (w2.2.1.upo d1.symm), hup_self (w3.2.1.upo d2.symm), hup_self (w4.2.1.upo (ne_len w4.2.1 w1.2.1 (by decide))), hup_self (w5.upo (ne_aJ w5 w1.2.1)), hup_self (w0.upo (ne_oa w0 w1.2.1))]
theorem WayC.set10 (h : WayC g σ R u) (F : Nat → Int32) : hup σ (R 10) (aI g 37 F) = wup g σ R (u.1, u.2.1, F, u.2.2.2) := by
  obtain ⟨w0, w1, w2, w3, w4, w5, d1, d2, d3⟩ := h
  show _ = hup (hup (hup (hup (hup (hup σ (R 8) (aI g 37 u.2.1)) (R 10) (aI g 37 F)) (R 12) (aI g 37 u.2.2.2.1)) (R 14) (aI g 8 u.2.2.2.2.1)) (R 15) (aJ g 8 u.2.2.2.2.2)) (R 6) (wc R u.1)
  rw [hup_self w1.2.1, hup_self (w3.2.1.upo d3.symm), hup_self (w4.2.1.upo (ne_len w4.2.1 w2.2.1 (by decide))), hup_self (w5.upo (ne_aJ w5 w2.2.1)), hup_self (w0.upo (ne_oa w0 w2.2.1))]
theorem WayC.set12 (h : WayC g σ R u) (F : Nat → Int32) : hup σ (R 12) (aI g 37 F) = wup g σ R (u.1, u.2.1, u.2.2.1, F, u.2.2.2.2) := by
  obtain ⟨w0, w1, w2, w3, w4, w5, d1, d2, d3⟩ := h
  show _ = hup (hup (hup (hup (hup (hup σ (R 8) (aI g 37 u.2.1)) (R 10) (aI g 37 u.2.2.1)) (R 12) (aI g 37 F)) (R 14) (aI g 8 u.2.2.2.2.1)) (R 15) (aJ g 8 u.2.2.2.2.2)) (R 6) (wc R u.1)
  rw [hup_self w1.2.1, hup_self w2.2.1, hup_self (w4.2.1.upo (ne_len w4.2.1 w3.2.1 (by decide))), hup_self (w5.upo (ne_aJ w5 w3.2.1)), hup_self (w0.upo (ne_oa w0 w3.2.1))]
theorem WayC.set14 (h : WayC g σ R u) (F : Nat → Int32) : hup σ (R 14) (aI g 8 F) = wup g σ R (u.1, u.2.1, u.2.2.1, u.2.2.2.1, F, u.2.2.2.2.2) := by
  obtain ⟨w0, w1, w2, w3, w4, w5, d1, d2, d3⟩ := h
  show _ = hup (hup (hup (hup (hup (hup σ (R 8) (aI g 37 u.2.1)) (R 10) (aI g 37 u.2.2.1)) (R 12) (aI g 37 u.2.2.2.1)) (R 14) (aI g 8 F)) (R 15) (aJ g 8 u.2.2.2.2.2)) (R 6) (wc R u.1)
  rw [hup_self w1.2.1, hup_self w2.2.1, hup_self w3.2.1, hup_self (w5.upo (ne_aJ w5 w4.2.1)), hup_self (w0.upo (ne_oa w0 w4.2.1))]
theorem WayC.set15 (h : WayC g σ R u) (F : Nat → Int64) : hup σ (R 15) (aJ g 8 F) = wup g σ R (u.1, u.2.1, u.2.2.1, u.2.2.2.1, u.2.2.2.2.1, F) := by
  obtain ⟨w0, w1, w2, w3, w4, w5, d1, d2, d3⟩ := h
  show _ = hup (hup (hup (hup (hup (hup σ (R 8) (aI g 37 u.2.1)) (R 10) (aI g 37 u.2.2.1)) (R 12) (aI g 37 u.2.2.2.1)) (R 14) (aI g 8 u.2.2.2.2.1)) (R 15) (aJ g 8 F)) (R 6) (wc R u.1)
  rw [hup_self w1.2.1, hup_self w2.2.1, hup_self w3.2.1, hup_self w4.2.1, hup_self (w0.upo (ne_oJ w0 w5))]
theorem WayC.setN (h : WayC g σ R u) (n : Nat) : hup σ (R 6) (wc R n) = wup g σ R (n, u.2) := by
  obtain ⟨w0, w1, w2, w3, w4, w5, d1, d2, d3⟩ := h
  show _ = hup (hup (hup (hup (hup (hup σ (R 8) (aI g 37 u.2.1)) (R 10) (aI g 37 u.2.2.1)) (R 12) (aI g 37 u.2.2.2.1)) (R 14) (aI g 8 u.2.2.2.2.1)) (R 15) (aJ g 8 u.2.2.2.2.2)) (R 6) (wc R n)
  rw [hup_self w1.2.1, hup_self w2.2.1, hup_self w3.2.1, hup_self w4.2.1, hup_self w5]
theorem WayC.pn (h : WayC g σ R u) (n : Nat) {φ : Hs → Prop} (k : φ (wup g σ R (n, u.2))) : PF σ (R 6) 9 7 (.int (nI n)) φ := by
  refine PF.of h.1 (by show 7 < 8; decide) rfl ?_
  show φ (hup σ (R 6) (wc R n))
  rw [h.setN]
  exact k
/-- one more way is listed -/
def addW (u : WS) (x y z : Int32) : WS := (u.1 + 1, upd u.2.1 u.1 x, upd u.2.2.1 u.1 y, upd u.2.2.2.1 u.1 z, u.2.2.2.2)
theorem wr_wadd (h : WayC g σ R u) (hn : u.1 < 37) (x y z : Int32) : Wr g M_X9_add [.ref (R 6), .int x, .int y, .int z] σ (wup g σ R (addW u x y z)) := by
  have p1 := wr_put h.2.1 hn x
  rw [h.set8] at p1
  refine q_X9_add _ _ _ _ (FR.of h.1 rfl (FI.of h.1 rfl ⟨Rc.of h.2.1.1, p1.use ?_⟩))
  have h1 := h.keep (u.1, upd u.2.1 u.1 x, u.2.2)
  have p2 := wr_put h1.2.2.1 hn y
  rw [h1.set10, wup_wup] at p2
  refine FR.of h1.1 rfl (FI.of h1.1 rfl ⟨Rc.of h1.2.2.1.1, p2.use ?_⟩)
  have h2 := h.keep (u.1, upd u.2.1 u.1 x, upd u.2.2.1 u.1 y, u.2.2.2)
  have p3 := wr_put h2.2.2.2.1 hn z
  rw [h2.set12, wup_wup] at p3
  refine FR.of h2.1 rfl (FI.of h2.1 rfl ⟨Rc.of h2.2.2.2.1.1, p3.use ?_⟩)
  have h3 := h.keep (u.1, upd u.2.1 u.1 x, upd u.2.2.1 u.1 y, upd u.2.2.2.1 u.1 z, u.2.2.2.2)
  refine FI.of h3.1 rfl ?_
  show PF _ _ 9 7 (.int (nI u.1 + 1)) _
  rw [nI_1]
  refine h3.pn _ ?_
  rw [wup_wup]
  exact wr_v
end WAY
