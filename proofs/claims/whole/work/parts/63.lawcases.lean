/-! The law: one call, of both. -/
theorem vin {n L k : Nat} (h : n + 5 ≤ L) (hL : L ≤ 2560) (hk : k < 5) : vp_in (nI n + nI k) L := by
  rw [nI_add]
  intro z
  rcases z with z | z
  · have := (lt_n (n := 0) (by decide)).mp z
    rw [I_n (by omega)] at this
    omega
  · rw [nI_clamp (by omega)] at z
    omega
theorem lg_cmp_self (x : Int64) : lg_cmp x x = 0 := by
  unfold lg_cmp
  simp
section PAI
variable {g : GG} {σ σ1 σ2 : Hs} {R R1 : Nat → Nat} {S : SS}
theorem pair_ok {p : Int32 × SS} (ko : KO g σ R S) (rm : RM g σ R S) {v : Option Value} (h : KP g σ R S p v σ1) : ∃ R1, v = some (.int p.1) ∧ KO g σ1 R1 p.2 ∧ RM g σ1 R1 S ∧ R1 0 = R 0 ∧ R1 300 = R 300 := by
  obtain ⟨x, rfl, rfl, R1, k1, e, e0, s⟩ := h
  exact ⟨R1, rfl, k1, rm.cls ko s e, e0, e 300 (Nat.le_refl _)⟩
theorem pair_2 {p : Int32 × SS} (ko : KO g σ1 R1 p.2) {v : Option Value} (h : RP g σ1 R1 p v σ2) : v = some (.int p.1) ∧ KO g σ2 R1 p.2 ∧ RM g σ2 R1 p.2 := by
  obtain ⟨x, rfl, rfl, rm, s⟩ := h
  exact ⟨rfl, ko.t3 s, rm⟩
end PAI
def LC (g : GG) (b L : Nat) (xs : Nat → Int32) (n kc ks : Nat) (σ : Hs) (R : Nat → Nat) (S : SS) : Prop := KO g σ R S ∧ RM g σ R S ∧ Inv S ∧ n + 5 ≤ L ∧ L ≤ 2560 ∧ kc + 7 ≤ 600000 ∧ ks + 146 ≤ 7302249 ∧ ∀ (σ' : Hs) (R' : Nat → Nat) (S' : SS) (kc' ks' : Nat), KO g σ' R' S' → RM g σ' R' S' → Inv S' → R' 0 = R 0 → R' 300 = R 300 → kc' ≤ kc + 7 → ks' ≤ ks + 146 → Fs g (SL b L xs g) (600000, 7302249, kc', ks') [(3, .int (nI n)), (2, .ref (R 300)), (1, .ref (R 0)), (0, .ref b)] [] 1352 σ'
section LCS
variable {g : GG} {b L n kc ks : Nat} {xs : Nat → Int32} {σ : Hs} {R : Nat → Nat} {S : SS}
theorem lw_row (h : LC g b L xs n kc ks σ R S) : Fs g (SL b L xs g) (600000, 7302249, kc, ks) [(3, .int (nI n)), (2, .ref (R 300)), (1, .ref (R 0)), (0, .ref b)] [] 204 σ := by
  obtain ⟨ko, rm, iv, hn, hL, hz1, hz2, next⟩ := h
  have v : Iv S := ⟨iv, ko.wide, ko.qok, ko.upk⟩
  refine fs_aload_n (pc := 204) 2 rfl rfl dl_204 ?_
  refine fs_aload_n (pc := 205) 3 rfl rfl dl_205 ?_
  refine fs_iload_n (pc := 206) 0 rfl rfl dl_206 ?_
  refine fs_iconst (pc := 207) 1 (by decide) dl_207 ?_
  refine fs_iadd (pc := 208) dl_208 ?_
  refine fs_sld (pc := 209) (vin (k := 1) hn hL (by decide)) dl_209 ?_
  refine fs_aload_n (pc := 210) 3 rfl rfl dl_210 ?_
  refine fs_iload_n (pc := 211) 0 rfl rfl dl_211 ?_
  refine fs_iconst (pc := 212) 2 (by decide) dl_212 ?_
  refine fs_iadd (pc := 213) dl_213 ?_
  refine fs_sld (pc := 214) (vin (k := 2) hn hL (by decide)) dl_214 ?_
  refine fs_aload_n (pc := 215) 3 rfl rfl dl_215 ?_
  refine fs_iload_n (pc := 216) 0 rfl rfl dl_216 ?_
  refine fs_iconst (pc := 217) 3 (by decide) dl_217 ?_
  refine fs_iadd (pc := 218) dl_218 ?_
  refine fs_sld (pc := 219) (vin (k := 3) hn hL (by decide)) dl_219 ?_
  refine fs_aload_n (pc := 220) 3 rfl rfl dl_220 ?_
  refine fs_iload_n (pc := 221) 0 rfl rfl dl_221 ?_
  refine fs_iconst (pc := 222) 4 (by decide) dl_222 ?_
  refine fs_iadd (pc := 223) dl_223 ?_
  refine fs_sld (pc := 224) (vin (k := 4) hn hL (by decide)) dl_224 ?_
  refine fs_callV (pc := 225) (As := [.int (xs (nI n + 1).toNatClampNeg), .int (xs (nI n + 2).toNatClampNeg), .int (xs (nI n + 3).toNatClampNeg), .int (xs (nI n + 4).toNatClampNeg)]) (st := []) (mc := 0) (ms := 0) wd_X11_row lk_13 ok_X11_row (by decide) rfl (Nat.le_of_ble_eq_true rfl) dl_225 ⟨show kc + 0 ≤ 600000 by omega, show ks + 0 ≤ 7302249 by omega⟩ kc_X11 (Rc.of ko.1) (do_row ko iv (xs (nI n + 1).toNatClampNeg) (xs (nI n + 2).toNatClampNeg) (xs (nI n + 3).toNatClampNeg) (xs (nI n + 4).toNatClampNeg)) (fun v1 σ1 h1 => ?_)
  obtain ⟨R1, rfl, ko1, rm1, f0, f3⟩ := pair_ok ko rm h1
  obtain ⟨X1, A1, hh1, rq⟩ := rm1
  have d2 := rw_row rq v (xs (nI n + 1).toNatClampNeg) (xs (nI n + 2).toNatClampNeg) (xs (nI n + 3).toNatClampNeg) (xs (nI n + 4).toNatClampNeg)
  rw [f3] at d2
  have rc2 := rq.1.rc
  rw [f3] at rc2
  refine fs_aload_n (pc := 228) 1 rfl rfl dl_228 ?_
  refine fs_aload_n (pc := 229) 3 rfl rfl dl_229 ?_
  refine fs_iload_n (pc := 230) 0 rfl rfl dl_230 ?_
  refine fs_iconst (pc := 231) 1 (by decide) dl_231 ?_
  refine fs_iadd (pc := 232) dl_232 ?_
  refine fs_sld (pc := 233) (vin (k := 1) hn hL (by decide)) dl_233 ?_
  refine fs_aload_n (pc := 234) 3 rfl rfl dl_234 ?_
  refine fs_iload_n (pc := 235) 0 rfl rfl dl_235 ?_
  refine fs_iconst (pc := 236) 2 (by decide) dl_236 ?_
  refine fs_iadd (pc := 237) dl_237 ?_
  refine fs_sld (pc := 238) (vin (k := 2) hn hL (by decide)) dl_238 ?_
  refine fs_aload_n (pc := 239) 3 rfl rfl dl_239 ?_
  refine fs_iload_n (pc := 240) 0 rfl rfl dl_240 ?_
  refine fs_iconst (pc := 241) 3 (by decide) dl_241 ?_
  refine fs_iadd (pc := 242) dl_242 ?_
  refine fs_sld (pc := 243) (vin (k := 3) hn hL (by decide)) dl_243 ?_
  refine fs_aload_n (pc := 244) 3 rfl rfl dl_244 ?_
  refine fs_iload_n (pc := 245) 0 rfl rfl dl_245 ?_
  refine fs_iconst (pc := 246) 4 (by decide) dl_246 ?_
  refine fs_iadd (pc := 247) dl_247 ?_
  refine fs_sld (pc := 248) (vin (k := 4) hn hL (by decide)) dl_248 ?_
  refine fs_callV (pc := 249) (As := [.int (xs (nI n + 1).toNatClampNeg), .int (xs (nI n + 2).toNatClampNeg), .int (xs (nI n + 3).toNatClampNeg), .int (xs (nI n + 4).toNatClampNeg)]) (st := [_]) (mc := 0) (ms := 0) wd_X12_row lk_17 ok_X12_row (by decide) rfl (Nat.le_of_ble_eq_true rfl) dl_249 ⟨show kc + 0 + 0 ≤ 600000 by omega, show ks + 0 + 0 ≤ 7302249 by omega⟩ kc_X12 rc2 d2 (fun v2 σ2 h2 => ?_)
  obtain ⟨rfl, ko2, rm2⟩ := pair_2 ko1 h2
  refine fs_icmp_eq (pc := 252) (tgt := 1352) (φ := True) (ψ := False) (by decide) dl_252 ⟨fun _ => trivial, fun z => z rfl⟩ (fun _ => ?_) (fun z => z.elim)
  exact next σ2 R1 _ (kc + 0 + 0) (ks + 0 + 0) ko2 rm2 (iv.row (xs (nI n + 1).toNatClampNeg) (xs (nI n + 2).toNatClampNeg) (xs (nI n + 3).toNatClampNeg) (xs (nI n + 4).toNatClampNeg)) f0 f3 (by omega) (by omega)
theorem lw_set (h : LC g b L xs n kc ks σ R S) : Fs g (SL b L xs g) (600000, 7302249, kc, ks) [(3, .int (nI n)), (2, .ref (R 300)), (1, .ref (R 0)), (0, .ref b)] [] 257 σ := by
  obtain ⟨ko, rm, iv, hn, hL, hz1, hz2, next⟩ := h
  have v : Iv S := ⟨iv, ko.wide, ko.qok, ko.upk⟩
  refine fs_aload_n (pc := 257) 2 rfl rfl dl_257 ?_
  refine fs_aload_n (pc := 258) 3 rfl rfl dl_258 ?_
  refine fs_iload_n (pc := 259) 0 rfl rfl dl_259 ?_
  refine fs_iconst (pc := 260) 1 (by decide) dl_260 ?_
  refine fs_iadd (pc := 261) dl_261 ?_
  refine fs_sld (pc := 262) (vin (k := 1) hn hL (by decide)) dl_262 ?_
  refine fs_aload_n (pc := 263) 3 rfl rfl dl_263 ?_
  refine fs_iload_n (pc := 264) 0 rfl rfl dl_264 ?_
  refine fs_iconst (pc := 265) 2 (by decide) dl_265 ?_
  refine fs_iadd (pc := 266) dl_266 ?_
  refine fs_sld (pc := 267) (vin (k := 2) hn hL (by decide)) dl_267 ?_
  refine fs_aload_n (pc := 268) 3 rfl rfl dl_268 ?_
  refine fs_iload_n (pc := 269) 0 rfl rfl dl_269 ?_
  refine fs_iconst (pc := 270) 3 (by decide) dl_270 ?_
  refine fs_iadd (pc := 271) dl_271 ?_
  refine fs_sld (pc := 272) (vin (k := 3) hn hL (by decide)) dl_272 ?_
  refine fs_callV (pc := 273) (As := [.int (xs (nI n + 1).toNatClampNeg), .int (xs (nI n + 2).toNatClampNeg), .int (xs (nI n + 3).toNatClampNeg)]) (st := []) (mc := 0) (ms := 0) wd_X11_set lk_18 ok_X11_set (by decide) rfl (Nat.le_of_ble_eq_true rfl) dl_273 ⟨show kc + 0 ≤ 600000 by omega, show ks + 0 ≤ 7302249 by omega⟩ kc_X11 (Rc.of ko.1) (do_set ko iv (xs (nI n + 1).toNatClampNeg) (xs (nI n + 2).toNatClampNeg) (xs (nI n + 3).toNatClampNeg)) (fun v1 σ1 h1 => ?_)
  obtain ⟨R1, rfl, ko1, rm1, f0, f3⟩ := pair_ok ko rm h1
  obtain ⟨X1, A1, hh1, rq⟩ := rm1
  have d2 := rw_set rq v (xs (nI n + 1).toNatClampNeg) (xs (nI n + 2).toNatClampNeg) (xs (nI n + 3).toNatClampNeg)
  rw [f3] at d2
  have rc2 := rq.1.rc
  rw [f3] at rc2
  refine fs_aload_n (pc := 276) 1 rfl rfl dl_276 ?_
  refine fs_aload_n (pc := 277) 3 rfl rfl dl_277 ?_
  refine fs_iload_n (pc := 278) 0 rfl rfl dl_278 ?_
  refine fs_iconst (pc := 279) 1 (by decide) dl_279 ?_
  refine fs_iadd (pc := 280) dl_280 ?_
  refine fs_sld (pc := 281) (vin (k := 1) hn hL (by decide)) dl_281 ?_
  refine fs_aload_n (pc := 282) 3 rfl rfl dl_282 ?_
  refine fs_iload_n (pc := 283) 0 rfl rfl dl_283 ?_
  refine fs_iconst (pc := 284) 2 (by decide) dl_284 ?_
  refine fs_iadd (pc := 285) dl_285 ?_
  refine fs_sld (pc := 286) (vin (k := 2) hn hL (by decide)) dl_286 ?_
  refine fs_aload_n (pc := 287) 3 rfl rfl dl_287 ?_
  refine fs_iload_n (pc := 288) 0 rfl rfl dl_288 ?_
  refine fs_iconst (pc := 289) 3 (by decide) dl_289 ?_
  refine fs_iadd (pc := 290) dl_290 ?_
  refine fs_sld (pc := 291) (vin (k := 3) hn hL (by decide)) dl_291 ?_
  refine fs_callV (pc := 292) (As := [.int (xs (nI n + 1).toNatClampNeg), .int (xs (nI n + 2).toNatClampNeg), .int (xs (nI n + 3).toNatClampNeg)]) (st := [_]) (mc := 0) (ms := 0) wd_X12_set lk_22 ok_X12_set (by decide) rfl (Nat.le_of_ble_eq_true rfl) dl_292 ⟨show kc + 0 + 0 ≤ 600000 by omega, show ks + 0 + 0 ≤ 7302249 by omega⟩ kc_X12 rc2 d2 (fun v2 σ2 h2 => ?_)
  obtain ⟨rfl, ko2, rm2⟩ := pair_2 ko1 h2
  refine fs_icmp_eq (pc := 295) (tgt := 1352) (φ := True) (ψ := False) (by decide) dl_295 ⟨fun _ => trivial, fun z => z rfl⟩ (fun _ => ?_) (fun z => z.elim)
  exact next σ2 R1 _ (kc + 0 + 0) (ks + 0 + 0) ko2 rm2 (iv.set (xs (nI n + 1).toNatClampNeg) (xs (nI n + 2).toNatClampNeg) (xs (nI n + 3).toNatClampNeg)) f0 f3 (by omega) (by omega)
theorem lw_drop (h : LC g b L xs n kc ks σ R S) : Fs g (SL b L xs g) (600000, 7302249, kc, ks) [(3, .int (nI n)), (2, .ref (R 300)), (1, .ref (R 0)), (0, .ref b)] [] 300 σ := by
  obtain ⟨ko, rm, iv, hn, hL, hz1, hz2, next⟩ := h
  have v : Iv S := ⟨iv, ko.wide, ko.qok, ko.upk⟩
  refine fs_aload_n (pc := 300) 2 rfl rfl dl_300 ?_
  refine fs_aload_n (pc := 301) 3 rfl rfl dl_301 ?_
  refine fs_iload_n (pc := 302) 0 rfl rfl dl_302 ?_
  refine fs_iconst (pc := 303) 1 (by decide) dl_303 ?_
  refine fs_iadd (pc := 304) dl_304 ?_
  refine fs_sld (pc := 305) (vin (k := 1) hn hL (by decide)) dl_305 ?_
  refine fs_callV (pc := 306) (As := [.int (xs (nI n + 1).toNatClampNeg)]) (st := []) (mc := 0) (ms := 0) wd_X11_drop lk_23 ok_X11_drop (by decide) rfl (Nat.le_of_ble_eq_true rfl) dl_306 ⟨show kc + 0 ≤ 600000 by omega, show ks + 0 ≤ 7302249 by omega⟩ kc_X11 (Rc.of ko.1) (do_drop ko iv (xs (nI n + 1).toNatClampNeg)) (fun v1 σ1 h1 => ?_)
  obtain ⟨R1, rfl, ko1, rm1, f0, f3⟩ := pair_ok ko rm h1
  obtain ⟨X1, A1, hh1, rq⟩ := rm1
  have d2 := rw_drop rq v (xs (nI n + 1).toNatClampNeg)
  rw [f3] at d2
  have rc2 := rq.1.rc
  rw [f3] at rc2
  refine fs_aload_n (pc := 309) 1 rfl rfl dl_309 ?_
  refine fs_aload_n (pc := 310) 3 rfl rfl dl_310 ?_
  refine fs_iload_n (pc := 311) 0 rfl rfl dl_311 ?_
  refine fs_iconst (pc := 312) 1 (by decide) dl_312 ?_
  refine fs_iadd (pc := 313) dl_313 ?_
  refine fs_sld (pc := 314) (vin (k := 1) hn hL (by decide)) dl_314 ?_
  refine fs_callV (pc := 315) (As := [.int (xs (nI n + 1).toNatClampNeg)]) (st := [_]) (mc := 0) (ms := 0) wd_X12_drop lk_27 ok_X12_drop (by decide) rfl (Nat.le_of_ble_eq_true rfl) dl_315 ⟨show kc + 0 + 0 ≤ 600000 by omega, show ks + 0 + 0 ≤ 7302249 by omega⟩ kc_X12 rc2 d2 (fun v2 σ2 h2 => ?_)
  obtain ⟨rfl, ko2, rm2⟩ := pair_2 ko1 h2
  refine fs_icmp_eq (pc := 318) (tgt := 1352) (φ := True) (ψ := False) (by decide) dl_318 ⟨fun _ => trivial, fun z => z rfl⟩ (fun _ => ?_) (fun z => z.elim)
  exact next σ2 R1 _ (kc + 0 + 0) (ks + 0 + 0) ko2 rm2 (iv.drop (xs (nI n + 1).toNatClampNeg)) f0 f3 (by omega) (by omega)
theorem lw_fill (h : LC g b L xs n kc ks σ R S) : Fs g (SL b L xs g) (600000, 7302249, kc, ks) [(3, .int (nI n)), (2, .ref (R 300)), (1, .ref (R 0)), (0, .ref b)] [] 323 σ := by
  obtain ⟨ko, rm, iv, hn, hL, hz1, hz2, next⟩ := h
  have v : Iv S := ⟨iv, ko.wide, ko.qok, ko.upk⟩
  refine fs_aload_n (pc := 323) 2 rfl rfl dl_323 ?_
  refine fs_aload_n (pc := 324) 3 rfl rfl dl_324 ?_
  refine fs_iload_n (pc := 325) 0 rfl rfl dl_325 ?_
  refine fs_iconst (pc := 326) 1 (by decide) dl_326 ?_
  refine fs_iadd (pc := 327) dl_327 ?_
  refine fs_sld (pc := 328) (vin (k := 1) hn hL (by decide)) dl_328 ?_
  refine fs_aload_n (pc := 329) 3 rfl rfl dl_329 ?_
  refine fs_iload_n (pc := 330) 0 rfl rfl dl_330 ?_
  refine fs_iconst (pc := 331) 2 (by decide) dl_331 ?_
  refine fs_iadd (pc := 332) dl_332 ?_
  refine fs_sld (pc := 333) (vin (k := 2) hn hL (by decide)) dl_333 ?_
  refine fs_aload_n (pc := 334) 3 rfl rfl dl_334 ?_
  refine fs_iload_n (pc := 335) 0 rfl rfl dl_335 ?_
  refine fs_iconst (pc := 336) 3 (by decide) dl_336 ?_
  refine fs_iadd (pc := 337) dl_337 ?_
  refine fs_sld (pc := 338) (vin (k := 3) hn hL (by decide)) dl_338 ?_
  refine fs_callV (pc := 339) (As := [.int (xs (nI n + 1).toNatClampNeg), .int (xs (nI n + 2).toNatClampNeg), .int (xs (nI n + 3).toNatClampNeg)]) (st := []) (mc := 0) (ms := 0) wd_X11_fill lk_28 ok_X11_fill (by decide) rfl (Nat.le_of_ble_eq_true rfl) dl_339 ⟨show kc + 0 ≤ 600000 by omega, show ks + 0 ≤ 7302249 by omega⟩ kc_X11 (Rc.of ko.1) (do_fill ko iv (xs (nI n + 1).toNatClampNeg) (xs (nI n + 2).toNatClampNeg) (xs (nI n + 3).toNatClampNeg)) (fun v1 σ1 h1 => ?_)
  obtain ⟨R1, rfl, ko1, rm1, f0, f3⟩ := pair_ok ko rm h1
  obtain ⟨X1, A1, hh1, rq⟩ := rm1
  have d2 := rw_fill rq v (xs (nI n + 1).toNatClampNeg) (xs (nI n + 2).toNatClampNeg) (xs (nI n + 3).toNatClampNeg)
  rw [f3] at d2
  have rc2 := rq.1.rc
  rw [f3] at rc2
  refine fs_aload_n (pc := 342) 1 rfl rfl dl_342 ?_
  refine fs_aload_n (pc := 343) 3 rfl rfl dl_343 ?_
  refine fs_iload_n (pc := 344) 0 rfl rfl dl_344 ?_
  refine fs_iconst (pc := 345) 1 (by decide) dl_345 ?_
  refine fs_iadd (pc := 346) dl_346 ?_
  refine fs_sld (pc := 347) (vin (k := 1) hn hL (by decide)) dl_347 ?_
  refine fs_aload_n (pc := 348) 3 rfl rfl dl_348 ?_
  refine fs_iload_n (pc := 349) 0 rfl rfl dl_349 ?_
  refine fs_iconst (pc := 350) 2 (by decide) dl_350 ?_
  refine fs_iadd (pc := 351) dl_351 ?_
  refine fs_sld (pc := 352) (vin (k := 2) hn hL (by decide)) dl_352 ?_
  refine fs_aload_n (pc := 353) 3 rfl rfl dl_353 ?_
  refine fs_iload_n (pc := 354) 0 rfl rfl dl_354 ?_
  refine fs_iconst (pc := 355) 3 (by decide) dl_355 ?_
  refine fs_iadd (pc := 356) dl_356 ?_
  refine fs_sld (pc := 357) (vin (k := 3) hn hL (by decide)) dl_357 ?_
  refine fs_callV (pc := 358) (As := [.int (xs (nI n + 1).toNatClampNeg), .int (xs (nI n + 2).toNatClampNeg), .int (xs (nI n + 3).toNatClampNeg)]) (st := [_]) (mc := 0) (ms := 0) wd_X12_fill lk_31 ok_X12_fill (by decide) rfl (Nat.le_of_ble_eq_true rfl) dl_358 ⟨show kc + 0 + 0 ≤ 600000 by omega, show ks + 0 + 0 ≤ 7302249 by omega⟩ kc_X12 rc2 d2 (fun v2 σ2 h2 => ?_)
  obtain ⟨rfl, ko2, rm2⟩ := pair_2 ko1 h2
  refine fs_icmp_eq (pc := 361) (tgt := 1352) (φ := True) (ψ := False) (by decide) dl_361 ⟨fun _ => trivial, fun z => z rfl⟩ (fun _ => ?_) (fun z => z.elim)
  exact next σ2 R1 _ (kc + 0 + 0) (ks + 0 + 0) ko2 rm2 (iv.fill (xs (nI n + 1).toNatClampNeg) (xs (nI n + 2).toNatClampNeg) (xs (nI n + 3).toNatClampNeg)) f0 f3 (by omega) (by omega)
theorem lw_get (h : LC g b L xs n kc ks σ R S) : Fs g (SL b L xs g) (600000, 7302249, kc, ks) [(3, .int (nI n)), (2, .ref (R 300)), (1, .ref (R 0)), (0, .ref b)] [] 366 σ := by
  obtain ⟨ko, rm, iv, hn, hL, hz1, hz2, next⟩ := h
  have v : Iv S := ⟨iv, ko.wide, ko.qok, ko.upk⟩
  refine fs_aload_n (pc := 366) 2 rfl rfl dl_366 ?_
  refine fs_aload_n (pc := 367) 3 rfl rfl dl_367 ?_
  refine fs_iload_n (pc := 368) 0 rfl rfl dl_368 ?_
  refine fs_iconst (pc := 369) 1 (by decide) dl_369 ?_
  refine fs_iadd (pc := 370) dl_370 ?_
  refine fs_sld (pc := 371) (vin (k := 1) hn hL (by decide)) dl_371 ?_
  refine fs_aload_n (pc := 372) 3 rfl rfl dl_372 ?_
  refine fs_iload_n (pc := 373) 0 rfl rfl dl_373 ?_
  refine fs_iconst (pc := 374) 2 (by decide) dl_374 ?_
  refine fs_iadd (pc := 375) dl_375 ?_
  refine fs_sld (pc := 376) (vin (k := 2) hn hL (by decide)) dl_376 ?_
  refine fs_callV (pc := 377) (As := [.int (xs (nI n + 1).toNatClampNeg), .int (xs (nI n + 2).toNatClampNeg)]) (st := []) (mc := 0) (ms := 0) wd_X11_get lk_32 ok_X11_get (by decide) rfl (Nat.le_of_ble_eq_true rfl) dl_377 ⟨show kc + 0 ≤ 600000 by omega, show ks + 0 ≤ 7302249 by omega⟩ kc_X11 (Rc.of ko.1) (KP.rd ko (rd_get ko (xs (nI n + 1).toNatClampNeg) (xs (nI n + 2).toNatClampNeg))) (fun v1 σ1 h1 => ?_)
  obtain ⟨R1, rfl, ko1, rm1, f0, f3⟩ := pair_ok ko rm h1
  obtain ⟨X1, A1, hh1, rq⟩ := rm1
  have d2 := RP.rd rq (rr_get rq (xs (nI n + 1).toNatClampNeg) (xs (nI n + 2).toNatClampNeg))
  rw [f3] at d2
  have rc2 := rq.1.rc
  rw [f3] at rc2
  refine fs_aload_n (pc := 380) 1 rfl rfl dl_380 ?_
  refine fs_aload_n (pc := 381) 3 rfl rfl dl_381 ?_
  refine fs_iload_n (pc := 382) 0 rfl rfl dl_382 ?_
  refine fs_iconst (pc := 383) 1 (by decide) dl_383 ?_
  refine fs_iadd (pc := 384) dl_384 ?_
  refine fs_sld (pc := 385) (vin (k := 1) hn hL (by decide)) dl_385 ?_
  refine fs_aload_n (pc := 386) 3 rfl rfl dl_386 ?_
  refine fs_iload_n (pc := 387) 0 rfl rfl dl_387 ?_
  refine fs_iconst (pc := 388) 2 (by decide) dl_388 ?_
  refine fs_iadd (pc := 389) dl_389 ?_
  refine fs_sld (pc := 390) (vin (k := 2) hn hL (by decide)) dl_390 ?_
  refine fs_callV (pc := 391) (As := [.int (xs (nI n + 1).toNatClampNeg), .int (xs (nI n + 2).toNatClampNeg)]) (st := [_]) (mc := 0) (ms := 0) wd_X12_get lk_36 ok_X12_get (by decide) rfl (Nat.le_of_ble_eq_true rfl) dl_391 ⟨show kc + 0 + 0 ≤ 600000 by omega, show ks + 0 + 0 ≤ 7302249 by omega⟩ kc_X12 rc2 d2 (fun v2 σ2 h2 => ?_)
  obtain ⟨rfl, ko2, rm2⟩ := pair_2 ko1 h2
  refine fs_icmp_eq (pc := 394) (tgt := 1352) (φ := True) (ψ := False) (by decide) dl_394 ⟨fun _ => trivial, fun z => z rfl⟩ (fun _ => ?_) (fun z => z.elim)
  exact next σ2 R1 _ (kc + 0 + 0) (ks + 0 + 0) ko2 rm2 (iv) f0 f3 (by omega) (by omega)
theorem lw_wide (h : LC g b L xs n kc ks σ R S) : Fs g (SL b L xs g) (600000, 7302249, kc, ks) [(3, .int (nI n)), (2, .ref (R 300)), (1, .ref (R 0)), (0, .ref b)] [] 399 σ := by
  obtain ⟨ko, rm, iv, hn, hL, hz1, hz2, next⟩ := h
  have v : Iv S := ⟨iv, ko.wide, ko.qok, ko.upk⟩
  refine fs_aload_n (pc := 399) 2 rfl rfl dl_399 ?_
  refine fs_aload_n (pc := 400) 3 rfl rfl dl_400 ?_
  refine fs_iload_n (pc := 401) 0 rfl rfl dl_401 ?_
  refine fs_iconst (pc := 402) 1 (by decide) dl_402 ?_
  refine fs_iadd (pc := 403) dl_403 ?_
  refine fs_sld (pc := 404) (vin (k := 1) hn hL (by decide)) dl_404 ?_
  refine fs_callV (pc := 405) (As := [.int (xs (nI n + 1).toNatClampNeg)]) (st := []) (mc := 0) (ms := 0) wd_X11_wide lk_37 ok_X11_wide (by decide) rfl (Nat.le_of_ble_eq_true rfl) dl_405 ⟨show kc + 0 ≤ 600000 by omega, show ks + 0 ≤ 7302249 by omega⟩ kc_X11 (Rc.of ko.1) (do_wide ko (xs (nI n + 1).toNatClampNeg)) (fun v1 σ1 h1 => ?_)
  obtain ⟨R1, rfl, ko1, rm1, f0, f3⟩ := pair_ok ko rm h1
  obtain ⟨X1, A1, hh1, rq⟩ := rm1
  have d2 := rw_wide rq (xs (nI n + 1).toNatClampNeg)
  rw [f3] at d2
  have rc2 := rq.1.rc
  rw [f3] at rc2
  refine fs_aload_n (pc := 408) 1 rfl rfl dl_408 ?_
  refine fs_aload_n (pc := 409) 3 rfl rfl dl_409 ?_
  refine fs_iload_n (pc := 410) 0 rfl rfl dl_410 ?_
  refine fs_iconst (pc := 411) 1 (by decide) dl_411 ?_
  refine fs_iadd (pc := 412) dl_412 ?_
  refine fs_sld (pc := 413) (vin (k := 1) hn hL (by decide)) dl_413 ?_
  refine fs_callV (pc := 414) (As := [.int (xs (nI n + 1).toNatClampNeg)]) (st := [_]) (mc := 0) (ms := 0) wd_X12_wide lk_40 ok_X12_wide (by decide) rfl (Nat.le_of_ble_eq_true rfl) dl_414 ⟨show kc + 0 + 0 ≤ 600000 by omega, show ks + 0 + 0 ≤ 7302249 by omega⟩ kc_X12 rc2 d2 (fun v2 σ2 h2 => ?_)
  obtain ⟨rfl, ko2, rm2⟩ := pair_2 ko1 h2
  refine fs_icmp_eq (pc := 417) (tgt := 1352) (φ := True) (ψ := False) (by decide) dl_417 ⟨fun _ => trivial, fun z => z rfl⟩ (fun _ => ?_) (fun z => z.elim)
  exact next σ2 R1 _ (kc + 0 + 0) (ks + 0 + 0) ko2 rm2 (iv.wide (xs (nI n + 1).toNatClampNeg)) f0 f3 (by omega) (by omega)
theorem lw_order (h : LC g b L xs n kc ks σ R S) : Fs g (SL b L xs g) (600000, 7302249, kc, ks) [(3, .int (nI n)), (2, .ref (R 300)), (1, .ref (R 0)), (0, .ref b)] [] 422 σ := by
  obtain ⟨ko, rm, iv, hn, hL, hz1, hz2, next⟩ := h
  have v : Iv S := ⟨iv, ko.wide, ko.qok, ko.upk⟩
  refine fs_aload_n (pc := 422) 2 rfl rfl dl_422 ?_
  refine fs_aload_n (pc := 423) 3 rfl rfl dl_423 ?_
  refine fs_iload_n (pc := 424) 0 rfl rfl dl_424 ?_
  refine fs_iconst (pc := 425) 1 (by decide) dl_425 ?_
  refine fs_iadd (pc := 426) dl_426 ?_
  refine fs_sld (pc := 427) (vin (k := 1) hn hL (by decide)) dl_427 ?_
  refine fs_callV (pc := 428) (As := [.int (xs (nI n + 1).toNatClampNeg)]) (st := []) (mc := 7) (ms := 146) wd_X11_order lk_41 ok_X11_order (by decide) rfl (Nat.le_of_ble_eq_true rfl) dl_428 ⟨show kc + 7 ≤ 600000 by omega, show ks + 146 ≤ 7302249 by omega⟩ kc_X11 (Rc.of ko.1) (do_order ko iv (xs (nI n + 1).toNatClampNeg)) (fun v1 σ1 h1 => ?_)
  obtain ⟨R1, rfl, ko1, rm1, f0, f3⟩ := pair_ok ko rm h1
  obtain ⟨X1, A1, hh1, rq⟩ := rm1
  have d2 := rw_order rq v (xs (nI n + 1).toNatClampNeg)
  rw [f3] at d2
  have rc2 := rq.1.rc
  rw [f3] at rc2
  refine fs_aload_n (pc := 431) 1 rfl rfl dl_431 ?_
  refine fs_aload_n (pc := 432) 3 rfl rfl dl_432 ?_
  refine fs_iload_n (pc := 433) 0 rfl rfl dl_433 ?_
  refine fs_iconst (pc := 434) 1 (by decide) dl_434 ?_
  refine fs_iadd (pc := 435) dl_435 ?_
  refine fs_sld (pc := 436) (vin (k := 1) hn hL (by decide)) dl_436 ?_
  refine fs_callV (pc := 437) (As := [.int (xs (nI n + 1).toNatClampNeg)]) (st := [_]) (mc := 0) (ms := 0) wd_X12_order lk_44 ok_X12_order (by decide) rfl (Nat.le_of_ble_eq_true rfl) dl_437 ⟨show kc + 7 + 0 ≤ 600000 by omega, show ks + 146 + 0 ≤ 7302249 by omega⟩ kc_X12 rc2 d2 (fun v2 σ2 h2 => ?_)
  obtain ⟨rfl, ko2, rm2⟩ := pair_2 ko1 h2
  refine fs_icmp_eq (pc := 440) (tgt := 1352) (φ := True) (ψ := False) (by decide) dl_440 ⟨fun _ => trivial, fun z => z rfl⟩ (fun _ => ?_) (fun z => z.elim)
  exact next σ2 R1 _ (kc + 7 + 0) (ks + 146 + 0) ko2 rm2 (iv.order (xs (nI n + 1).toNatClampNeg)) f0 f3 (by omega) (by omega)
theorem lw_lose (h : LC g b L xs n kc ks σ R S) : Fs g (SL b L xs g) (600000, 7302249, kc, ks) [(3, .int (nI n)), (2, .ref (R 300)), (1, .ref (R 0)), (0, .ref b)] [] 445 σ := by
  obtain ⟨ko, rm, iv, hn, hL, hz1, hz2, next⟩ := h
  have v : Iv S := ⟨iv, ko.wide, ko.qok, ko.upk⟩
  refine fs_aload_n (pc := 445) 2 rfl rfl dl_445 ?_
  refine fs_aload_n (pc := 446) 3 rfl rfl dl_446 ?_
  refine fs_iload_n (pc := 447) 0 rfl rfl dl_447 ?_
  refine fs_iconst (pc := 448) 1 (by decide) dl_448 ?_
  refine fs_iadd (pc := 449) dl_449 ?_
  refine fs_sld (pc := 450) (vin (k := 1) hn hL (by decide)) dl_450 ?_
  refine fs_callV (pc := 451) (As := [.int (xs (nI n + 1).toNatClampNeg)]) (st := []) (mc := 0) (ms := 0) wd_X11_lose lk_45 ok_X11_lose (by decide) rfl (Nat.le_of_ble_eq_true rfl) dl_451 ⟨show kc + 0 ≤ 600000 by omega, show ks + 0 ≤ 7302249 by omega⟩ kc_X11 (Rc.of ko.1) (do_lose ko (xs (nI n + 1).toNatClampNeg)) (fun v1 σ1 h1 => ?_)
  obtain ⟨R1, rfl, ko1, rm1, f0, f3⟩ := pair_ok ko rm h1
  obtain ⟨X1, A1, hh1, rq⟩ := rm1
  have d2 := rw_lose rq v (xs (nI n + 1).toNatClampNeg)
  rw [f3] at d2
  have rc2 := rq.1.rc
  rw [f3] at rc2
  refine fs_aload_n (pc := 454) 1 rfl rfl dl_454 ?_
  refine fs_aload_n (pc := 455) 3 rfl rfl dl_455 ?_
  refine fs_iload_n (pc := 456) 0 rfl rfl dl_456 ?_
  refine fs_iconst (pc := 457) 1 (by decide) dl_457 ?_
  refine fs_iadd (pc := 458) dl_458 ?_
  refine fs_sld (pc := 459) (vin (k := 1) hn hL (by decide)) dl_459 ?_
  refine fs_callV (pc := 460) (As := [.int (xs (nI n + 1).toNatClampNeg)]) (st := [_]) (mc := 0) (ms := 0) wd_X12_lose lk_48 ok_X12_lose (by decide) rfl (Nat.le_of_ble_eq_true rfl) dl_460 ⟨show kc + 0 + 0 ≤ 600000 by omega, show ks + 0 + 0 ≤ 7302249 by omega⟩ kc_X12 rc2 d2 (fun v2 σ2 h2 => ?_)
  obtain ⟨rfl, ko2, rm2⟩ := pair_2 ko1 h2
  refine fs_icmp_eq (pc := 463) (tgt := 1352) (φ := True) (ψ := False) (by decide) dl_463 ⟨fun _ => trivial, fun z => z rfl⟩ (fun _ => ?_) (fun z => z.elim)
  exact next σ2 R1 _ (kc + 0 + 0) (ks + 0 + 0) ko2 rm2 (iv.lose (xs (nI n + 1).toNatClampNeg)) f0 f3 (by omega) (by omega)
theorem lw_pack (h : LC g b L xs n kc ks σ R S) : Fs g (SL b L xs g) (600000, 7302249, kc, ks) [(3, .int (nI n)), (2, .ref (R 300)), (1, .ref (R 0)), (0, .ref b)] [] 468 σ := by
  obtain ⟨ko, rm, iv, hn, hL, hz1, hz2, next⟩ := h
  have v : Iv S := ⟨iv, ko.wide, ko.qok, ko.upk⟩
  refine fs_aload_n (pc := 468) 2 rfl rfl dl_468 ?_
  refine fs_aload_n (pc := 469) 3 rfl rfl dl_469 ?_
  refine fs_iload_n (pc := 470) 0 rfl rfl dl_470 ?_
  refine fs_iconst (pc := 471) 1 (by decide) dl_471 ?_
  refine fs_iadd (pc := 472) dl_472 ?_
  refine fs_sld (pc := 473) (vin (k := 1) hn hL (by decide)) dl_473 ?_
  refine fs_callV (pc := 474) (As := [.int (xs (nI n + 1).toNatClampNeg)]) (st := []) (mc := 0) (ms := 0) wd_X11_pack lk_49 ok_X11_pack (by decide) rfl (Nat.le_of_ble_eq_true rfl) dl_474 ⟨show kc + 0 ≤ 600000 by omega, show ks + 0 ≤ 7302249 by omega⟩ kc_X11 (Rc.of ko.1) (do_pack ko iv (xs (nI n + 1).toNatClampNeg)) (fun v1 σ1 h1 => ?_)
  obtain ⟨R1, rfl, ko1, rm1, f0, f3⟩ := pair_ok ko rm h1
  obtain ⟨X1, A1, hh1, rq⟩ := rm1
  have d2 := rw_pack rq v (xs (nI n + 1).toNatClampNeg)
  rw [f3] at d2
  have rc2 := rq.1.rc
  rw [f3] at rc2
  refine fs_aload_n (pc := 477) 1 rfl rfl dl_477 ?_
  refine fs_aload_n (pc := 478) 3 rfl rfl dl_478 ?_
  refine fs_iload_n (pc := 479) 0 rfl rfl dl_479 ?_
  refine fs_iconst (pc := 480) 1 (by decide) dl_480 ?_
  refine fs_iadd (pc := 481) dl_481 ?_
  refine fs_sld (pc := 482) (vin (k := 1) hn hL (by decide)) dl_482 ?_
  refine fs_callV (pc := 483) (As := [.int (xs (nI n + 1).toNatClampNeg)]) (st := [_]) (mc := 0) (ms := 0) wd_X12_pack lk_52 ok_X12_pack (by decide) rfl (Nat.le_of_ble_eq_true rfl) dl_483 ⟨show kc + 0 + 0 ≤ 600000 by omega, show ks + 0 + 0 ≤ 7302249 by omega⟩ kc_X12 rc2 d2 (fun v2 σ2 h2 => ?_)
  obtain ⟨rfl, ko2, rm2⟩ := pair_2 ko1 h2
  refine fs_icmp_eq (pc := 486) (tgt := 1352) (φ := True) (ψ := False) (by decide) dl_486 ⟨fun _ => trivial, fun z => z rfl⟩ (fun _ => ?_) (fun z => z.elim)
  exact next σ2 R1 _ (kc + 0 + 0) (ks + 0 + 0) ko2 rm2 (iv.pack (xs (nI n + 1).toNatClampNeg)) f0 f3 (by omega) (by omega)
theorem lw_about (h : LC g b L xs n kc ks σ R S) : Fs g (SL b L xs g) (600000, 7302249, kc, ks) [(3, .int (nI n)), (2, .ref (R 300)), (1, .ref (R 0)), (0, .ref b)] [] 491 σ := by
  obtain ⟨ko, rm, iv, hn, hL, hz1, hz2, next⟩ := h
  have v : Iv S := ⟨iv, ko.wide, ko.qok, ko.upk⟩
  refine fs_aload_n (pc := 491) 2 rfl rfl dl_491 ?_
  refine fs_aload_n (pc := 492) 3 rfl rfl dl_492 ?_
  refine fs_iload_n (pc := 493) 0 rfl rfl dl_493 ?_
  refine fs_iconst (pc := 494) 1 (by decide) dl_494 ?_
  refine fs_iadd (pc := 495) dl_495 ?_
  refine fs_sld (pc := 496) (vin (k := 1) hn hL (by decide)) dl_496 ?_
  refine fs_aload_n (pc := 497) 3 rfl rfl dl_497 ?_
  refine fs_iload_n (pc := 498) 0 rfl rfl dl_498 ?_
  refine fs_iconst (pc := 499) 2 (by decide) dl_499 ?_
  refine fs_iadd (pc := 500) dl_500 ?_
  refine fs_sld (pc := 501) (vin (k := 2) hn hL (by decide)) dl_501 ?_
  refine fs_callV (pc := 502) (As := [.int (xs (nI n + 1).toNatClampNeg), .int (xs (nI n + 2).toNatClampNeg)]) (st := []) (mc := 0) (ms := 0) wd_X11_about lk_53 ok_X11_about (by decide) rfl (Nat.le_of_ble_eq_true rfl) dl_502 ⟨show kc + 0 ≤ 600000 by omega, show ks + 0 ≤ 7302249 by omega⟩ kc_X11 (Rc.of ko.1) (KP.rd ko (rd_about ko (xs (nI n + 1).toNatClampNeg) (xs (nI n + 2).toNatClampNeg))) (fun v1 σ1 h1 => ?_)
  obtain ⟨R1, rfl, ko1, rm1, f0, f3⟩ := pair_ok ko rm h1
  obtain ⟨X1, A1, hh1, rq⟩ := rm1
  have d2 := RP.rd rq (rr_about rq v (xs (nI n + 1).toNatClampNeg) (xs (nI n + 2).toNatClampNeg))
  rw [f3] at d2
  have rc2 := rq.1.rc
  rw [f3] at rc2
  refine fs_aload_n (pc := 505) 1 rfl rfl dl_505 ?_
  refine fs_aload_n (pc := 506) 3 rfl rfl dl_506 ?_
  refine fs_iload_n (pc := 507) 0 rfl rfl dl_507 ?_
  refine fs_iconst (pc := 508) 1 (by decide) dl_508 ?_
  refine fs_iadd (pc := 509) dl_509 ?_
  refine fs_sld (pc := 510) (vin (k := 1) hn hL (by decide)) dl_510 ?_
  refine fs_aload_n (pc := 511) 3 rfl rfl dl_511 ?_
  refine fs_iload_n (pc := 512) 0 rfl rfl dl_512 ?_
  refine fs_iconst (pc := 513) 2 (by decide) dl_513 ?_
  refine fs_iadd (pc := 514) dl_514 ?_
  refine fs_sld (pc := 515) (vin (k := 2) hn hL (by decide)) dl_515 ?_
  refine fs_callV (pc := 516) (As := [.int (xs (nI n + 1).toNatClampNeg), .int (xs (nI n + 2).toNatClampNeg)]) (st := [_]) (mc := 0) (ms := 0) wd_X12_about lk_56 ok_X12_about (by decide) rfl (Nat.le_of_ble_eq_true rfl) dl_516 ⟨show kc + 0 + 0 ≤ 600000 by omega, show ks + 0 + 0 ≤ 7302249 by omega⟩ kc_X12 rc2 d2 (fun v2 σ2 h2 => ?_)
  obtain ⟨rfl, ko2, rm2⟩ := pair_2 ko1 h2
  refine fs_icmp_eq (pc := 519) (tgt := 1352) (φ := True) (ψ := False) (by decide) dl_519 ⟨fun _ => trivial, fun z => z rfl⟩ (fun _ => ?_) (fun z => z.elim)
  exact next σ2 R1 _ (kc + 0 + 0) (ks + 0 + 0) ko2 rm2 (iv) f0 f3 (by omega) (by omega)
theorem lw_entry (h : LC g b L xs n kc ks σ R S) : Fs g (SL b L xs g) (600000, 7302249, kc, ks) [(3, .int (nI n)), (2, .ref (R 300)), (1, .ref (R 0)), (0, .ref b)] [] 524 σ := by
  obtain ⟨ko, rm, iv, hn, hL, hz1, hz2, next⟩ := h
  have v : Iv S := ⟨iv, ko.wide, ko.qok, ko.upk⟩
  refine fs_aload_n (pc := 524) 2 rfl rfl dl_524 ?_
  refine fs_aload_n (pc := 525) 3 rfl rfl dl_525 ?_
  refine fs_iload_n (pc := 526) 0 rfl rfl dl_526 ?_
  refine fs_iconst (pc := 527) 1 (by decide) dl_527 ?_
  refine fs_iadd (pc := 528) dl_528 ?_
  refine fs_sld (pc := 529) (vin (k := 1) hn hL (by decide)) dl_529 ?_
  refine fs_aload_n (pc := 530) 3 rfl rfl dl_530 ?_
  refine fs_iload_n (pc := 531) 0 rfl rfl dl_531 ?_
  refine fs_iconst (pc := 532) 2 (by decide) dl_532 ?_
  refine fs_iadd (pc := 533) dl_533 ?_
  refine fs_sld (pc := 534) (vin (k := 2) hn hL (by decide)) dl_534 ?_
  refine fs_callV (pc := 535) (As := [.int (xs (nI n + 1).toNatClampNeg), .int (xs (nI n + 2).toNatClampNeg)]) (st := []) (mc := 0) (ms := 0) wd_X11_entry lk_57 ok_X11_entry (by decide) rfl (Nat.le_of_ble_eq_true rfl) dl_535 ⟨show kc + 0 ≤ 600000 by omega, show ks + 0 ≤ 7302249 by omega⟩ kc_X11 (Rc.of ko.1) (KP.rd ko (rd_entry ko (xs (nI n + 1).toNatClampNeg) (xs (nI n + 2).toNatClampNeg))) (fun v1 σ1 h1 => ?_)
  obtain ⟨R1, rfl, ko1, rm1, f0, f3⟩ := pair_ok ko rm h1
  obtain ⟨X1, A1, hh1, rq⟩ := rm1
  have d2 := RP.rd rq (rr_entry rq v (xs (nI n + 1).toNatClampNeg) (xs (nI n + 2).toNatClampNeg))
  rw [f3] at d2
  have rc2 := rq.1.rc
  rw [f3] at rc2
  refine fs_aload_n (pc := 538) 1 rfl rfl dl_538 ?_
  refine fs_aload_n (pc := 539) 3 rfl rfl dl_539 ?_
  refine fs_iload_n (pc := 540) 0 rfl rfl dl_540 ?_
  refine fs_iconst (pc := 541) 1 (by decide) dl_541 ?_
  refine fs_iadd (pc := 542) dl_542 ?_
  refine fs_sld (pc := 543) (vin (k := 1) hn hL (by decide)) dl_543 ?_
  refine fs_aload_n (pc := 544) 3 rfl rfl dl_544 ?_
  refine fs_iload_n (pc := 545) 0 rfl rfl dl_545 ?_
  refine fs_iconst (pc := 546) 2 (by decide) dl_546 ?_
  refine fs_iadd (pc := 547) dl_547 ?_
  refine fs_sld (pc := 548) (vin (k := 2) hn hL (by decide)) dl_548 ?_
  refine fs_callV (pc := 549) (As := [.int (xs (nI n + 1).toNatClampNeg), .int (xs (nI n + 2).toNatClampNeg)]) (st := [_]) (mc := 0) (ms := 0) wd_X12_entry lk_60 ok_X12_entry (by decide) rfl (Nat.le_of_ble_eq_true rfl) dl_549 ⟨show kc + 0 + 0 ≤ 600000 by omega, show ks + 0 + 0 ≤ 7302249 by omega⟩ kc_X12 rc2 d2 (fun v2 σ2 h2 => ?_)
  obtain ⟨rfl, ko2, rm2⟩ := pair_2 ko1 h2
  refine fs_icmp_eq (pc := 552) (tgt := 1352) (φ := True) (ψ := False) (by decide) dl_552 ⟨fun _ => trivial, fun z => z rfl⟩ (fun _ => ?_) (fun z => z.elim)
  exact next σ2 R1 _ (kc + 0 + 0) (ks + 0 + 0) ko2 rm2 (iv) f0 f3 (by omega) (by omega)
theorem lw_leaf (h : LC g b L xs n kc ks σ R S) : Fs g (SL b L xs g) (600000, 7302249, kc, ks) [(3, .int (nI n)), (2, .ref (R 300)), (1, .ref (R 0)), (0, .ref b)] [] 557 σ := by
  obtain ⟨ko, rm, iv, hn, hL, hz1, hz2, next⟩ := h
  have v : Iv S := ⟨iv, ko.wide, ko.qok, ko.upk⟩
  refine fs_aload_n (pc := 557) 2 rfl rfl dl_557 ?_
  refine fs_aload_n (pc := 558) 3 rfl rfl dl_558 ?_
  refine fs_iload_n (pc := 559) 0 rfl rfl dl_559 ?_
  refine fs_iconst (pc := 560) 1 (by decide) dl_560 ?_
  refine fs_iadd (pc := 561) dl_561 ?_
  refine fs_sld (pc := 562) (vin (k := 1) hn hL (by decide)) dl_562 ?_
  refine fs_aload_n (pc := 563) 3 rfl rfl dl_563 ?_
  refine fs_iload_n (pc := 564) 0 rfl rfl dl_564 ?_
  refine fs_iconst (pc := 565) 2 (by decide) dl_565 ?_
  refine fs_iadd (pc := 566) dl_566 ?_
  refine fs_sld (pc := 567) (vin (k := 2) hn hL (by decide)) dl_567 ?_
  refine fs_callV (pc := 568) (As := [.int (xs (nI n + 1).toNatClampNeg), .int (xs (nI n + 2).toNatClampNeg)]) (st := []) (mc := 0) (ms := 0) wd_X11_leaf lk_61 ok_X11_leaf (by decide) rfl (Nat.le_of_ble_eq_true rfl) dl_568 ⟨show kc + 0 ≤ 600000 by omega, show ks + 0 ≤ 7302249 by omega⟩ kc_X11 (Rc.of ko.1) (KP.rd ko (rd_leaf ko (xs (nI n + 1).toNatClampNeg) (xs (nI n + 2).toNatClampNeg))) (fun v1 σ1 h1 => ?_)
  obtain ⟨R1, rfl, ko1, rm1, f0, f3⟩ := pair_ok ko rm h1
  obtain ⟨X1, A1, hh1, rq⟩ := rm1
  have d2 := RP.rd rq (rr_leaf rq v (xs (nI n + 1).toNatClampNeg) (xs (nI n + 2).toNatClampNeg))
  rw [f3] at d2
  have rc2 := rq.1.rc
  rw [f3] at rc2
  refine fs_aload_n (pc := 571) 1 rfl rfl dl_571 ?_
  refine fs_aload_n (pc := 572) 3 rfl rfl dl_572 ?_
  refine fs_iload_n (pc := 573) 0 rfl rfl dl_573 ?_
  refine fs_iconst (pc := 574) 1 (by decide) dl_574 ?_
  refine fs_iadd (pc := 575) dl_575 ?_
  refine fs_sld (pc := 576) (vin (k := 1) hn hL (by decide)) dl_576 ?_
  refine fs_aload_n (pc := 577) 3 rfl rfl dl_577 ?_
  refine fs_iload_n (pc := 578) 0 rfl rfl dl_578 ?_
  refine fs_iconst (pc := 579) 2 (by decide) dl_579 ?_
  refine fs_iadd (pc := 580) dl_580 ?_
  refine fs_sld (pc := 581) (vin (k := 2) hn hL (by decide)) dl_581 ?_
  refine fs_callV (pc := 582) (As := [.int (xs (nI n + 1).toNatClampNeg), .int (xs (nI n + 2).toNatClampNeg)]) (st := [_]) (mc := 0) (ms := 0) wd_X12_leaf lk_64 ok_X12_leaf (by decide) rfl (Nat.le_of_ble_eq_true rfl) dl_582 ⟨show kc + 0 + 0 ≤ 600000 by omega, show ks + 0 + 0 ≤ 7302249 by omega⟩ kc_X12 rc2 d2 (fun v2 σ2 h2 => ?_)
  obtain ⟨rfl, ko2, rm2⟩ := pair_2 ko1 h2
  refine fs_icmp_eq (pc := 585) (tgt := 1352) (φ := True) (ψ := False) (by decide) dl_585 ⟨fun _ => trivial, fun z => z rfl⟩ (fun _ => ?_) (fun z => z.elim)
  exact next σ2 R1 _ (kc + 0 + 0) (ks + 0 + 0) ko2 rm2 (iv) f0 f3 (by omega) (by omega)
theorem lw_letters (h : LC g b L xs n kc ks σ R S) : Fs g (SL b L xs g) (600000, 7302249, kc, ks) [(3, .int (nI n)), (2, .ref (R 300)), (1, .ref (R 0)), (0, .ref b)] [] 590 σ := by
  obtain ⟨ko, rm, iv, hn, hL, hz1, hz2, next⟩ := h
  have v : Iv S := ⟨iv, ko.wide, ko.qok, ko.upk⟩
  refine fs_aload_n (pc := 590) 2 rfl rfl dl_590 ?_
  refine fs_aload_n (pc := 591) 3 rfl rfl dl_591 ?_
  refine fs_iload_n (pc := 592) 0 rfl rfl dl_592 ?_
  refine fs_iconst (pc := 593) 1 (by decide) dl_593 ?_
  refine fs_iadd (pc := 594) dl_594 ?_
  refine fs_sld (pc := 595) (vin (k := 1) hn hL (by decide)) dl_595 ?_
  refine fs_i2l (pc := 596) dl_596 ?_
  refine fs_bipush (pc := 597) 32 (by decide) dl_597 ?_
  refine fs_lshl (pc := 599) dl_599 ?_
  refine fs_aload_n (pc := 600) 3 rfl rfl dl_600 ?_
  refine fs_iload_n (pc := 601) 0 rfl rfl dl_601 ?_
  refine fs_iconst (pc := 602) 2 (by decide) dl_602 ?_
  refine fs_iadd (pc := 603) dl_603 ?_
  refine fs_sld (pc := 604) (vin (k := 2) hn hL (by decide)) dl_604 ?_
  refine fs_i2l (pc := 605) dl_605 ?_
  refine fs_ldc2 (pc := 606) lk_l65 dl_606 ?_
  refine fs_land (pc := 609) dl_609 ?_
  refine fs_lor (pc := 610) dl_610 ?_
  refine fs_callV (pc := 611) (As := [.long (((xs (nI n + 1).toNatClampNeg).toInt64 <<< ((32 : Int32).toInt64 &&& 63)) ||| ((xs (nI n + 2).toNatClampNeg).toInt64 &&& (4294967295 : Int64)))]) (st := []) (mc := 0) (ms := 0) wd_X11_letters lk_67 ok_X11_letters (by decide) rfl (Nat.le_of_ble_eq_true rfl) dl_611 ⟨show kc + 0 ≤ 600000 by omega, show ks + 0 ≤ 7302249 by omega⟩ kc_X11 (Rc.of ko.1) (do_letters ko iv (((xs (nI n + 1).toNatClampNeg).toInt64 <<< ((32 : Int32).toInt64 &&& 63)) ||| ((xs (nI n + 2).toNatClampNeg).toInt64 &&& (4294967295 : Int64)))) (fun v1 σ1 h1 => ?_)
  obtain ⟨R1, rfl, ko1, rm1, f0, f3⟩ := pair_ok ko rm h1
  obtain ⟨X1, A1, hh1, rq⟩ := rm1
  have d2 := rw_letters rq v (((xs (nI n + 1).toNatClampNeg).toInt64 <<< ((32 : Int32).toInt64 &&& 63)) ||| ((xs (nI n + 2).toNatClampNeg).toInt64 &&& (4294967295 : Int64)))
  rw [f3] at d2
  have rc2 := rq.1.rc
  rw [f3] at rc2
  refine fs_aload_n (pc := 614) 1 rfl rfl dl_614 ?_
  refine fs_aload_n (pc := 615) 3 rfl rfl dl_615 ?_
  refine fs_iload_n (pc := 616) 0 rfl rfl dl_616 ?_
  refine fs_iconst (pc := 617) 1 (by decide) dl_617 ?_
  refine fs_iadd (pc := 618) dl_618 ?_
  refine fs_sld (pc := 619) (vin (k := 1) hn hL (by decide)) dl_619 ?_
  refine fs_i2l (pc := 620) dl_620 ?_
  refine fs_bipush (pc := 621) 32 (by decide) dl_621 ?_
  refine fs_lshl (pc := 623) dl_623 ?_
  refine fs_aload_n (pc := 624) 3 rfl rfl dl_624 ?_
  refine fs_iload_n (pc := 625) 0 rfl rfl dl_625 ?_
  refine fs_iconst (pc := 626) 2 (by decide) dl_626 ?_
  refine fs_iadd (pc := 627) dl_627 ?_
  refine fs_sld (pc := 628) (vin (k := 2) hn hL (by decide)) dl_628 ?_
  refine fs_i2l (pc := 629) dl_629 ?_
  refine fs_ldc2 (pc := 630) lk_l65 dl_630 ?_
  refine fs_land (pc := 633) dl_633 ?_
  refine fs_lor (pc := 634) dl_634 ?_
  refine fs_callV (pc := 635) (As := [.long (((xs (nI n + 1).toNatClampNeg).toInt64 <<< ((32 : Int32).toInt64 &&& 63)) ||| ((xs (nI n + 2).toNatClampNeg).toInt64 &&& (4294967295 : Int64)))]) (st := [_]) (mc := 0) (ms := 0) wd_X12_letters lk_71 ok_X12_letters (by decide) rfl (Nat.le_of_ble_eq_true rfl) dl_635 ⟨show kc + 0 + 0 ≤ 600000 by omega, show ks + 0 + 0 ≤ 7302249 by omega⟩ kc_X12 rc2 d2 (fun v2 σ2 h2 => ?_)
  obtain ⟨rfl, ko2, rm2⟩ := pair_2 ko1 h2
  refine fs_icmp_eq (pc := 638) (tgt := 1352) (φ := True) (ψ := False) (by decide) dl_638 ⟨fun _ => trivial, fun z => z rfl⟩ (fun _ => ?_) (fun z => z.elim)
  exact next σ2 R1 _ (kc + 0 + 0) (ks + 0 + 0) ko2 rm2 (iv.letters (((xs (nI n + 1).toNatClampNeg).toInt64 <<< ((32 : Int32).toInt64 &&& 63)) ||| ((xs (nI n + 2).toNatClampNeg).toInt64 &&& (4294967295 : Int64)))) f0 f3 (by omega) (by omega)
end LCS
