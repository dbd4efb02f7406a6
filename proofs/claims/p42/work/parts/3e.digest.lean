/-! The class's digest. -/
section DIG
variable {g : GG} {σ : Hs} {R : Nat → Nat} {S : SS}
theorem v_about_n {o : Nat} {y : Int32} (ho : o < zo S) (h8 : o < 8) (hd : (zB S o).2.2 = false) : v_about S (nI o) y = v_abo (zB S o) y := by
  unfold v_about
  rw [if_t (isO_y ho h8 hd), nn_i (by omega)]
theorem mixN_0 (e : Nat → Int32) (x : Int64) : mixN e 0 x = x := rfl
theorem mixQs_0 (S : SS) (x : Int64) : mixQs S 0 x = x := rfl
theorem mixOs_0 (S : SS) (x : Int64) : mixOs S 0 x = x := rfl
end DIG
