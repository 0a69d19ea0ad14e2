theorem lg_self (r : Int64) : lg_cmp r r = 0 := by
  unfold lg_cmp
  rw [if_neg (fun h => Int64.lt_irrefl h), if_pos rfl]
theorem rkl {d n : Nat} (h : d ≤ 7) (hn : n ≤ 21) : Rok room_1 n d := ⟨by show d + 1 ≤ 10; omega, by show 8 + (n + 11) + 40 * d ≤ 356; omega⟩
section LC
variable {p : Program} {l : Launch} {e : Env} {s : State} {m : MethodId} {below : List Frame} {meth : Method} {c : Code} {H : Heap} {locs : List Loc} {cells slots : Nat} {Q : State → Prop} {D : va_G} {K : Nat → ClassId} {ad : Nat → Nat} {σ : GS} {b L : Nat} {xs : Nat → Int32} {x3 : Int32} {Rel : GS → Prop}
set_option maxHeartbeats 4000000 in
theorem lc_row {ls : Array Slot} (hl : lv_has ls 4 [(0, .ref b), (1, .ref (ad 0)), (2, .ref (ad 63)), (3, .int x3)]) (hC : Ctx p s m #[Value.ref b] meth c D K ad "WideTownLaw" code 4 ret) (hX : va_X b L xs s s.heap) (hbl : b < s.heap.size) (hbA : ¬ GA ad b) (h_1 : vp_in (x3 + 1) L) (h_2 : vp_in (x3 + 2) L) (h_3 : vp_in (x3 + 3) L) (h_4 : vp_in (x3 + 4) L) (h_5 : vp_in (x3 + 5) L) (hf : cells ≤ room_1.cells ∧ slots ≤ room_1.slots) (hst : St_row Rel) (hR : Rel σ) (hP : va_P D vwCl (wG K ad σ) H) (hS : va_S (GA ad) s.heap H locs)
    (kk : ∀ (σ' : GS) (H1 : Heap) (locs1 : List Loc), Rel σ' → va_P D vwCl (wG K ad σ') H1 → va_S (GA ad) s.heap H1 locs1 → W p l e room_1 s m #[Value.ref b] below meth c H1 locs1 cells slots Q (F0 m 1725 ls [])) : W p l e room_1 s m #[Value.ref b] below meth c H locs cells slots Q (F0 m 256 ls []) := by
  obtain ⟨hx, hb, -, hown, hts, -, -, -, -, hj⟩ := id hC
  obtain ⟨r, σ1, σ2, hk1, hk2, hR2⟩ := hst σ hR (xs (x3 + 1).toNatClampNeg) (xs (x3 + 2).toNatClampNeg)
  refine lv_aload_n hx hb d_L_law_256 rfl (lv_at hl 1 rfl) ?_
  refine lv_aload_n hx hb d_L_law_257 rfl (lv_at hl 0 rfl) ?_
  refine lv_iload_n hx hb d_L_law_258 rfl (lv_at hl 3 rfl) ?_
  refine lv_iconst (v := 1) hx hb d_L_law_259 (by decide) ?_
  refine lv_iadd hx hb d_L_law_260 ?_
  refine va_sld hx hb hX hbl hbA hS h_1 d_L_law_261 ?_
  refine lv_aload_n hx hb d_L_law_262 rfl (lv_at hl 0 rfl) ?_
  refine lv_iload_n hx hb d_L_law_263 rfl (lv_at hl 3 rfl) ?_
  refine lv_iconst (v := 2) hx hb d_L_law_264 (by decide) ?_
  refine lv_iadd hx hb d_L_law_265 ?_
  refine va_sld hx hb hX hbl hbA hS h_2 d_L_law_266 ?_
  refine g_calli hS (g_runV (b := 0) (As := [.int (xs (x3 + 1).toNatClampNeg), .int (xs (x3 + 2).toNatClampNeg)]) (rest := []) hC hP (c_X_row hj hk1) (rkl (by decide) (by decide)) nm_X_row cd_X_row it_WideTown ml_L_13 im_X_row sl_X_row o_0 co_X rfl hl.1 rfl (Nat.le_of_ble_eq_true rfl) d_L_law_267 hf) (fun H locs hP hS => ?_)
  refine lv_aload_n hx hb d_L_law_270 rfl (lv_at hl 2 rfl) ?_
  refine lv_aload_n hx hb d_L_law_271 rfl (lv_at hl 0 rfl) ?_
  refine lv_iload_n hx hb d_L_law_272 rfl (lv_at hl 3 rfl) ?_
  refine lv_iconst (v := 1) hx hb d_L_law_273 (by decide) ?_
  refine lv_iadd hx hb d_L_law_274 ?_
  refine va_sld hx hb hX hbl hbA hS h_1 d_L_law_275 ?_
  refine lv_aload_n hx hb d_L_law_276 rfl (lv_at hl 0 rfl) ?_
  refine lv_iload_n hx hb d_L_law_277 rfl (lv_at hl 3 rfl) ?_
  refine lv_iconst (v := 2) hx hb d_L_law_278 (by decide) ?_
  refine lv_iadd hx hb d_L_law_279 ?_
  refine va_sld hx hb hX hbl hbA hS h_2 d_L_law_280 ?_
  refine g_calli hS (g_runV (b := 63) (As := [.int (xs (x3 + 1).toNatClampNeg), .int (xs (x3 + 2).toNatClampNeg)]) (rest := [.int r]) hC hP (c_M_row hj hk2) (rkl (by decide) (by decide)) nm_M_row cd_M_row it_WideTownModel ml_L_17 im_M_row sl_M_row o_63 co_M rfl hl.1 rfl (Nat.le_of_ble_eq_true rfl) d_L_law_281 hf) (fun H locs hP hS => ?_)
  exact lv_icmp_eq (tgt := 1725) hx hb d_L_law_284 (by decide) (fun _ => kk _ _ _ hR2 hP hS) (fun hc => absurd rfl hc)
set_option maxHeartbeats 4000000 in
theorem lc_lay {ls : Array Slot} (hl : lv_has ls 4 [(0, .ref b), (1, .ref (ad 0)), (2, .ref (ad 63)), (3, .int x3)]) (hC : Ctx p s m #[Value.ref b] meth c D K ad "WideTownLaw" code 4 ret) (hX : va_X b L xs s s.heap) (hbl : b < s.heap.size) (hbA : ¬ GA ad b) (h_1 : vp_in (x3 + 1) L) (h_2 : vp_in (x3 + 2) L) (h_3 : vp_in (x3 + 3) L) (h_4 : vp_in (x3 + 4) L) (h_5 : vp_in (x3 + 5) L) (hf : cells ≤ room_1.cells ∧ slots ≤ room_1.slots) (hst : St_lay Rel) (hR : Rel σ) (hP : va_P D vwCl (wG K ad σ) H) (hS : va_S (GA ad) s.heap H locs)
    (kk : ∀ (σ' : GS) (H1 : Heap) (locs1 : List Loc), Rel σ' → va_P D vwCl (wG K ad σ') H1 → va_S (GA ad) s.heap H1 locs1 → W p l e room_1 s m #[Value.ref b] below meth c H1 locs1 cells slots Q (F0 m 1725 ls [])) : W p l e room_1 s m #[Value.ref b] below meth c H locs cells slots Q (F0 m 289 ls []) := by
  obtain ⟨hx, hb, -, hown, hts, -, -, -, -, hj⟩ := id hC
  obtain ⟨r, σ1, σ2, hk1, hk2, hR2⟩ := hst σ hR (xs (x3 + 1).toNatClampNeg) (xs (x3 + 2).toNatClampNeg) (xs (x3 + 3).toNatClampNeg)
  refine lv_aload_n hx hb d_L_law_289 rfl (lv_at hl 1 rfl) ?_
  refine lv_aload_n hx hb d_L_law_290 rfl (lv_at hl 0 rfl) ?_
  refine lv_iload_n hx hb d_L_law_291 rfl (lv_at hl 3 rfl) ?_
  refine lv_iconst (v := 1) hx hb d_L_law_292 (by decide) ?_
  refine lv_iadd hx hb d_L_law_293 ?_
  refine va_sld hx hb hX hbl hbA hS h_1 d_L_law_294 ?_
  refine lv_aload_n hx hb d_L_law_295 rfl (lv_at hl 0 rfl) ?_
  refine lv_iload_n hx hb d_L_law_296 rfl (lv_at hl 3 rfl) ?_
  refine lv_iconst (v := 2) hx hb d_L_law_297 (by decide) ?_
  refine lv_iadd hx hb d_L_law_298 ?_
  refine va_sld hx hb hX hbl hbA hS h_2 d_L_law_299 ?_
  refine lv_aload_n hx hb d_L_law_300 rfl (lv_at hl 0 rfl) ?_
  refine lv_iload_n hx hb d_L_law_301 rfl (lv_at hl 3 rfl) ?_
  refine lv_iconst (v := 3) hx hb d_L_law_302 (by decide) ?_
  refine lv_iadd hx hb d_L_law_303 ?_
  refine va_sld hx hb hX hbl hbA hS h_3 d_L_law_304 ?_
  refine g_calli hS (g_runV (b := 0) (As := [.int (xs (x3 + 1).toNatClampNeg), .int (xs (x3 + 2).toNatClampNeg), .int (xs (x3 + 3).toNatClampNeg)]) (rest := []) hC hP (c_X_lay hj hk1) (rkl (by decide) (by decide)) nm_X_lay cd_X_lay it_WideTown ml_L_18 im_X_lay sl_X_lay o_0 co_X rfl hl.1 rfl (Nat.le_of_ble_eq_true rfl) d_L_law_305 hf) (fun H locs hP hS => ?_)
  refine lv_aload_n hx hb d_L_law_308 rfl (lv_at hl 2 rfl) ?_
  refine lv_aload_n hx hb d_L_law_309 rfl (lv_at hl 0 rfl) ?_
  refine lv_iload_n hx hb d_L_law_310 rfl (lv_at hl 3 rfl) ?_
  refine lv_iconst (v := 1) hx hb d_L_law_311 (by decide) ?_
  refine lv_iadd hx hb d_L_law_312 ?_
  refine va_sld hx hb hX hbl hbA hS h_1 d_L_law_313 ?_
  refine lv_aload_n hx hb d_L_law_314 rfl (lv_at hl 0 rfl) ?_
  refine lv_iload_n hx hb d_L_law_315 rfl (lv_at hl 3 rfl) ?_
  refine lv_iconst (v := 2) hx hb d_L_law_316 (by decide) ?_
  refine lv_iadd hx hb d_L_law_317 ?_
  refine va_sld hx hb hX hbl hbA hS h_2 d_L_law_318 ?_
  refine lv_aload_n hx hb d_L_law_319 rfl (lv_at hl 0 rfl) ?_
  refine lv_iload_n hx hb d_L_law_320 rfl (lv_at hl 3 rfl) ?_
  refine lv_iconst (v := 3) hx hb d_L_law_321 (by decide) ?_
  refine lv_iadd hx hb d_L_law_322 ?_
  refine va_sld hx hb hX hbl hbA hS h_3 d_L_law_323 ?_
  refine g_calli hS (g_runV (b := 63) (As := [.int (xs (x3 + 1).toNatClampNeg), .int (xs (x3 + 2).toNatClampNeg), .int (xs (x3 + 3).toNatClampNeg)]) (rest := [.int r]) hC hP (c_M_lay hj hk2) (rkl (by decide) (by decide)) nm_M_lay cd_M_lay it_WideTownModel ml_L_22 im_M_lay sl_M_lay o_63 co_M rfl hl.1 rfl (Nat.le_of_ble_eq_true rfl) d_L_law_324 hf) (fun H locs hP hS => ?_)
  exact lv_icmp_eq (tgt := 1725) hx hb d_L_law_327 (by decide) (fun _ => kk _ _ _ hR2 hP hS) (fun hc => absurd rfl hc)
set_option maxHeartbeats 4000000 in
theorem lc_at {ls : Array Slot} (hl : lv_has ls 4 [(0, .ref b), (1, .ref (ad 0)), (2, .ref (ad 63)), (3, .int x3)]) (hC : Ctx p s m #[Value.ref b] meth c D K ad "WideTownLaw" code 4 ret) (hX : va_X b L xs s s.heap) (hbl : b < s.heap.size) (hbA : ¬ GA ad b) (h_1 : vp_in (x3 + 1) L) (h_2 : vp_in (x3 + 2) L) (h_3 : vp_in (x3 + 3) L) (h_4 : vp_in (x3 + 4) L) (h_5 : vp_in (x3 + 5) L) (hf : cells ≤ room_1.cells ∧ slots ≤ room_1.slots) (hst : St_at Rel) (hR : Rel σ) (hP : va_P D vwCl (wG K ad σ) H) (hS : va_S (GA ad) s.heap H locs)
    (kk : ∀ (σ' : GS) (H1 : Heap) (locs1 : List Loc), Rel σ' → va_P D vwCl (wG K ad σ') H1 → va_S (GA ad) s.heap H1 locs1 → W p l e room_1 s m #[Value.ref b] below meth c H1 locs1 cells slots Q (F0 m 1725 ls [])) : W p l e room_1 s m #[Value.ref b] below meth c H locs cells slots Q (F0 m 332 ls []) := by
  obtain ⟨hx, hb, -, hown, hts, -, -, -, -, hj⟩ := id hC
  obtain ⟨r, σ1, σ2, hk1, hk2, hR2⟩ := hst σ hR (xs (x3 + 1).toNatClampNeg) (xs (x3 + 2).toNatClampNeg)
  refine lv_aload_n hx hb d_L_law_332 rfl (lv_at hl 1 rfl) ?_
  refine lv_aload_n hx hb d_L_law_333 rfl (lv_at hl 0 rfl) ?_
  refine lv_iload_n hx hb d_L_law_334 rfl (lv_at hl 3 rfl) ?_
  refine lv_iconst (v := 1) hx hb d_L_law_335 (by decide) ?_
  refine lv_iadd hx hb d_L_law_336 ?_
  refine va_sld hx hb hX hbl hbA hS h_1 d_L_law_337 ?_
  refine lv_aload_n hx hb d_L_law_338 rfl (lv_at hl 0 rfl) ?_
  refine lv_iload_n hx hb d_L_law_339 rfl (lv_at hl 3 rfl) ?_
  refine lv_iconst (v := 2) hx hb d_L_law_340 (by decide) ?_
  refine lv_iadd hx hb d_L_law_341 ?_
  refine va_sld hx hb hX hbl hbA hS h_2 d_L_law_342 ?_
  refine g_calli hS (g_runV (b := 0) (As := [.int (xs (x3 + 1).toNatClampNeg), .int (xs (x3 + 2).toNatClampNeg)]) (rest := []) hC hP (c_X_at hj hk1) (rkl (by decide) (by decide)) nm_X_at cd_X_at it_WideTown ml_L_23 im_X_at sl_X_at o_0 co_X rfl hl.1 rfl (Nat.le_of_ble_eq_true rfl) d_L_law_343 hf) (fun H locs hP hS => ?_)
  refine lv_aload_n hx hb d_L_law_346 rfl (lv_at hl 2 rfl) ?_
  refine lv_aload_n hx hb d_L_law_347 rfl (lv_at hl 0 rfl) ?_
  refine lv_iload_n hx hb d_L_law_348 rfl (lv_at hl 3 rfl) ?_
  refine lv_iconst (v := 1) hx hb d_L_law_349 (by decide) ?_
  refine lv_iadd hx hb d_L_law_350 ?_
  refine va_sld hx hb hX hbl hbA hS h_1 d_L_law_351 ?_
  refine lv_aload_n hx hb d_L_law_352 rfl (lv_at hl 0 rfl) ?_
  refine lv_iload_n hx hb d_L_law_353 rfl (lv_at hl 3 rfl) ?_
  refine lv_iconst (v := 2) hx hb d_L_law_354 (by decide) ?_
  refine lv_iadd hx hb d_L_law_355 ?_
  refine va_sld hx hb hX hbl hbA hS h_2 d_L_law_356 ?_
  refine g_calli hS (g_runV (b := 63) (As := [.int (xs (x3 + 1).toNatClampNeg), .int (xs (x3 + 2).toNatClampNeg)]) (rest := [.int r]) hC hP (c_M_at hj hk2) (rkl (by decide) (by decide)) nm_M_at cd_M_at it_WideTownModel ml_L_26 im_M_at sl_M_at o_63 co_M rfl hl.1 rfl (Nat.le_of_ble_eq_true rfl) d_L_law_357 hf) (fun H locs hP hS => ?_)
  exact lv_icmp_eq (tgt := 1725) hx hb d_L_law_360 (by decide) (fun _ => kk _ _ _ hR2 hP hS) (fun hc => absurd rfl hc)
set_option maxHeartbeats 4000000 in
theorem lc_tear {ls : Array Slot} (hl : lv_has ls 4 [(0, .ref b), (1, .ref (ad 0)), (2, .ref (ad 63)), (3, .int x3)]) (hC : Ctx p s m #[Value.ref b] meth c D K ad "WideTownLaw" code 4 ret) (hX : va_X b L xs s s.heap) (hbl : b < s.heap.size) (hbA : ¬ GA ad b) (h_1 : vp_in (x3 + 1) L) (h_2 : vp_in (x3 + 2) L) (h_3 : vp_in (x3 + 3) L) (h_4 : vp_in (x3 + 4) L) (h_5 : vp_in (x3 + 5) L) (hf : cells ≤ room_1.cells ∧ slots ≤ room_1.slots) (hst : St_tear Rel) (hR : Rel σ) (hP : va_P D vwCl (wG K ad σ) H) (hS : va_S (GA ad) s.heap H locs)
    (kk : ∀ (σ' : GS) (H1 : Heap) (locs1 : List Loc), Rel σ' → va_P D vwCl (wG K ad σ') H1 → va_S (GA ad) s.heap H1 locs1 → W p l e room_1 s m #[Value.ref b] below meth c H1 locs1 cells slots Q (F0 m 1725 ls [])) : W p l e room_1 s m #[Value.ref b] below meth c H locs cells slots Q (F0 m 365 ls []) := by
  obtain ⟨hx, hb, -, hown, hts, -, -, -, -, hj⟩ := id hC
  obtain ⟨r, σ1, σ2, hk1, hk2, hR2⟩ := hst σ hR (xs (x3 + 1).toNatClampNeg)
  refine lv_aload_n hx hb d_L_law_365 rfl (lv_at hl 1 rfl) ?_
  refine lv_aload_n hx hb d_L_law_366 rfl (lv_at hl 0 rfl) ?_
  refine lv_iload_n hx hb d_L_law_367 rfl (lv_at hl 3 rfl) ?_
  refine lv_iconst (v := 1) hx hb d_L_law_368 (by decide) ?_
  refine lv_iadd hx hb d_L_law_369 ?_
  refine va_sld hx hb hX hbl hbA hS h_1 d_L_law_370 ?_
  refine g_calli hS (g_runV (b := 0) (As := [.int (xs (x3 + 1).toNatClampNeg)]) (rest := []) hC hP (c_X_tear hj hk1) (rkl (by decide) (by decide)) nm_X_tear cd_X_tear it_WideTown ml_L_27 im_X_tear sl_X_tear o_0 co_X rfl hl.1 rfl (Nat.le_of_ble_eq_true rfl) d_L_law_371 hf) (fun H locs hP hS => ?_)
  refine lv_aload_n hx hb d_L_law_374 rfl (lv_at hl 2 rfl) ?_
  refine lv_aload_n hx hb d_L_law_375 rfl (lv_at hl 0 rfl) ?_
  refine lv_iload_n hx hb d_L_law_376 rfl (lv_at hl 3 rfl) ?_
  refine lv_iconst (v := 1) hx hb d_L_law_377 (by decide) ?_
  refine lv_iadd hx hb d_L_law_378 ?_
  refine va_sld hx hb hX hbl hbA hS h_1 d_L_law_379 ?_
  refine g_calli hS (g_runV (b := 63) (As := [.int (xs (x3 + 1).toNatClampNeg)]) (rest := [.int r]) hC hP (c_M_tear hj hk2) (rkl (by decide) (by decide)) nm_M_tear cd_M_tear it_WideTownModel ml_L_31 im_M_tear sl_M_tear o_63 co_M rfl hl.1 rfl (Nat.le_of_ble_eq_true rfl) d_L_law_380 hf) (fun H locs hP hS => ?_)
  exact lv_icmp_eq (tgt := 1725) hx hb d_L_law_383 (by decide) (fun _ => kk _ _ _ hR2 hP hS) (fun hc => absurd rfl hc)
set_option maxHeartbeats 4000000 in
theorem lc_copy {ls : Array Slot} (hl : lv_has ls 4 [(0, .ref b), (1, .ref (ad 0)), (2, .ref (ad 63)), (3, .int x3)]) (hC : Ctx p s m #[Value.ref b] meth c D K ad "WideTownLaw" code 4 ret) (hX : va_X b L xs s s.heap) (hbl : b < s.heap.size) (hbA : ¬ GA ad b) (h_1 : vp_in (x3 + 1) L) (h_2 : vp_in (x3 + 2) L) (h_3 : vp_in (x3 + 3) L) (h_4 : vp_in (x3 + 4) L) (h_5 : vp_in (x3 + 5) L) (hf : cells ≤ room_1.cells ∧ slots ≤ room_1.slots) (hst : St_copy Rel) (hR : Rel σ) (hP : va_P D vwCl (wG K ad σ) H) (hS : va_S (GA ad) s.heap H locs)
    (kk : ∀ (σ' : GS) (H1 : Heap) (locs1 : List Loc), Rel σ' → va_P D vwCl (wG K ad σ') H1 → va_S (GA ad) s.heap H1 locs1 → W p l e room_1 s m #[Value.ref b] below meth c H1 locs1 cells slots Q (F0 m 1725 ls [])) : W p l e room_1 s m #[Value.ref b] below meth c H locs cells slots Q (F0 m 388 ls []) := by
  obtain ⟨hx, hb, -, hown, hts, -, -, -, -, hj⟩ := id hC
  obtain ⟨r, σ1, σ2, hk1, hk2, hR2⟩ := hst σ hR (xs (x3 + 1).toNatClampNeg) (xs (x3 + 2).toNatClampNeg) (xs (x3 + 3).toNatClampNeg) (xs (x3 + 4).toNatClampNeg) (xs (x3 + 5).toNatClampNeg)
  refine lv_aload_n hx hb d_L_law_388 rfl (lv_at hl 1 rfl) ?_
  refine lv_aload_n hx hb d_L_law_389 rfl (lv_at hl 0 rfl) ?_
  refine lv_iload_n hx hb d_L_law_390 rfl (lv_at hl 3 rfl) ?_
  refine lv_iconst (v := 1) hx hb d_L_law_391 (by decide) ?_
  refine lv_iadd hx hb d_L_law_392 ?_
  refine va_sld hx hb hX hbl hbA hS h_1 d_L_law_393 ?_
  refine lv_aload_n hx hb d_L_law_394 rfl (lv_at hl 0 rfl) ?_
  refine lv_iload_n hx hb d_L_law_395 rfl (lv_at hl 3 rfl) ?_
  refine lv_iconst (v := 2) hx hb d_L_law_396 (by decide) ?_
  refine lv_iadd hx hb d_L_law_397 ?_
  refine va_sld hx hb hX hbl hbA hS h_2 d_L_law_398 ?_
  refine lv_aload_n hx hb d_L_law_399 rfl (lv_at hl 0 rfl) ?_
  refine lv_iload_n hx hb d_L_law_400 rfl (lv_at hl 3 rfl) ?_
  refine lv_iconst (v := 3) hx hb d_L_law_401 (by decide) ?_
  refine lv_iadd hx hb d_L_law_402 ?_
  refine va_sld hx hb hX hbl hbA hS h_3 d_L_law_403 ?_
  refine lv_aload_n hx hb d_L_law_404 rfl (lv_at hl 0 rfl) ?_
  refine lv_iload_n hx hb d_L_law_405 rfl (lv_at hl 3 rfl) ?_
  refine lv_iconst (v := 4) hx hb d_L_law_406 (by decide) ?_
  refine lv_iadd hx hb d_L_law_407 ?_
  refine va_sld hx hb hX hbl hbA hS h_4 d_L_law_408 ?_
  refine lv_aload_n hx hb d_L_law_409 rfl (lv_at hl 0 rfl) ?_
  refine lv_iload_n hx hb d_L_law_410 rfl (lv_at hl 3 rfl) ?_
  refine lv_iconst (v := 5) hx hb d_L_law_411 (by decide) ?_
  refine lv_iadd hx hb d_L_law_412 ?_
  refine va_sld hx hb hX hbl hbA hS h_5 d_L_law_413 ?_
  refine g_calli hS (g_runV (b := 0) (As := [.int (xs (x3 + 1).toNatClampNeg), .int (xs (x3 + 2).toNatClampNeg), .int (xs (x3 + 3).toNatClampNeg), .int (xs (x3 + 4).toNatClampNeg), .int (xs (x3 + 5).toNatClampNeg)]) (rest := []) hC hP (c_X_copy hj hk1) (rkl (by decide) (by decide)) nm_X_copy cd_X_copy it_WideTown ml_L_32 im_X_copy sl_X_copy o_0 co_X rfl hl.1 rfl (Nat.le_of_ble_eq_true rfl) d_L_law_414 hf) (fun H locs hP hS => ?_)
  refine lv_aload_n hx hb d_L_law_417 rfl (lv_at hl 2 rfl) ?_
  refine lv_aload_n hx hb d_L_law_418 rfl (lv_at hl 0 rfl) ?_
  refine lv_iload_n hx hb d_L_law_419 rfl (lv_at hl 3 rfl) ?_
  refine lv_iconst (v := 1) hx hb d_L_law_420 (by decide) ?_
  refine lv_iadd hx hb d_L_law_421 ?_
  refine va_sld hx hb hX hbl hbA hS h_1 d_L_law_422 ?_
  refine lv_aload_n hx hb d_L_law_423 rfl (lv_at hl 0 rfl) ?_
  refine lv_iload_n hx hb d_L_law_424 rfl (lv_at hl 3 rfl) ?_
  refine lv_iconst (v := 2) hx hb d_L_law_425 (by decide) ?_
  refine lv_iadd hx hb d_L_law_426 ?_
  refine va_sld hx hb hX hbl hbA hS h_2 d_L_law_427 ?_
  refine lv_aload_n hx hb d_L_law_428 rfl (lv_at hl 0 rfl) ?_
  refine lv_iload_n hx hb d_L_law_429 rfl (lv_at hl 3 rfl) ?_
  refine lv_iconst (v := 3) hx hb d_L_law_430 (by decide) ?_
  refine lv_iadd hx hb d_L_law_431 ?_
  refine va_sld hx hb hX hbl hbA hS h_3 d_L_law_432 ?_
  refine lv_aload_n hx hb d_L_law_433 rfl (lv_at hl 0 rfl) ?_
  refine lv_iload_n hx hb d_L_law_434 rfl (lv_at hl 3 rfl) ?_
  refine lv_iconst (v := 4) hx hb d_L_law_435 (by decide) ?_
  refine lv_iadd hx hb d_L_law_436 ?_
  refine va_sld hx hb hX hbl hbA hS h_4 d_L_law_437 ?_
  refine lv_aload_n hx hb d_L_law_438 rfl (lv_at hl 0 rfl) ?_
  refine lv_iload_n hx hb d_L_law_439 rfl (lv_at hl 3 rfl) ?_
  refine lv_iconst (v := 5) hx hb d_L_law_440 (by decide) ?_
  refine lv_iadd hx hb d_L_law_441 ?_
  refine va_sld hx hb hX hbl hbA hS h_5 d_L_law_442 ?_
  refine g_calli hS (g_runV (b := 63) (As := [.int (xs (x3 + 1).toNatClampNeg), .int (xs (x3 + 2).toNatClampNeg), .int (xs (x3 + 3).toNatClampNeg), .int (xs (x3 + 4).toNatClampNeg), .int (xs (x3 + 5).toNatClampNeg)]) (rest := [.int r]) hC hP (c_M_copy hj hk2) (rkl (by decide) (by decide)) nm_M_copy cd_M_copy it_WideTownModel ml_L_36 im_M_copy sl_M_copy o_63 co_M rfl hl.1 rfl (Nat.le_of_ble_eq_true rfl) d_L_law_443 hf) (fun H locs hP hS => ?_)
  exact lv_icmp_eq (tgt := 1725) hx hb d_L_law_446 (by decide) (fun _ => kk _ _ _ hR2 hP hS) (fun hc => absurd rfl hc)
set_option maxHeartbeats 4000000 in
theorem lc_mean {ls : Array Slot} (hl : lv_has ls 4 [(0, .ref b), (1, .ref (ad 0)), (2, .ref (ad 63)), (3, .int x3)]) (hC : Ctx p s m #[Value.ref b] meth c D K ad "WideTownLaw" code 4 ret) (hX : va_X b L xs s s.heap) (hbl : b < s.heap.size) (hbA : ¬ GA ad b) (h_1 : vp_in (x3 + 1) L) (h_2 : vp_in (x3 + 2) L) (h_3 : vp_in (x3 + 3) L) (h_4 : vp_in (x3 + 4) L) (h_5 : vp_in (x3 + 5) L) (hf : cells ≤ room_1.cells ∧ slots ≤ room_1.slots) (hst : St_mean Rel) (hR : Rel σ) (hP : va_P D vwCl (wG K ad σ) H) (hS : va_S (GA ad) s.heap H locs)
    (kk : ∀ (σ' : GS) (H1 : Heap) (locs1 : List Loc), Rel σ' → va_P D vwCl (wG K ad σ') H1 → va_S (GA ad) s.heap H1 locs1 → W p l e room_1 s m #[Value.ref b] below meth c H1 locs1 cells slots Q (F0 m 1725 ls [])) : W p l e room_1 s m #[Value.ref b] below meth c H locs cells slots Q (F0 m 451 ls []) := by
  obtain ⟨hx, hb, -, hown, hts, -, -, -, -, hj⟩ := id hC
  obtain ⟨r, σ1, σ2, hk1, hk2, hR2⟩ := hst σ hR (xs (x3 + 1).toNatClampNeg)
  refine lv_aload_n hx hb d_L_law_451 rfl (lv_at hl 1 rfl) ?_
  refine lv_aload_n hx hb d_L_law_452 rfl (lv_at hl 0 rfl) ?_
  refine lv_iload_n hx hb d_L_law_453 rfl (lv_at hl 3 rfl) ?_
  refine lv_iconst (v := 1) hx hb d_L_law_454 (by decide) ?_
  refine lv_iadd hx hb d_L_law_455 ?_
  refine va_sld hx hb hX hbl hbA hS h_1 d_L_law_456 ?_
  refine g_calli hS (g_runV (b := 0) (As := [.int (xs (x3 + 1).toNatClampNeg)]) (rest := []) hC hP (c_X_mean hj hk1) (rkl (by decide) (by decide)) nm_X_mean cd_X_mean it_WideTown ml_L_37 im_X_mean sl_X_mean o_0 co_X rfl hl.1 rfl (Nat.le_of_ble_eq_true rfl) d_L_law_457 hf) (fun H locs hP hS => ?_)
  refine lv_aload_n hx hb d_L_law_460 rfl (lv_at hl 2 rfl) ?_
  refine lv_aload_n hx hb d_L_law_461 rfl (lv_at hl 0 rfl) ?_
  refine lv_iload_n hx hb d_L_law_462 rfl (lv_at hl 3 rfl) ?_
  refine lv_iconst (v := 1) hx hb d_L_law_463 (by decide) ?_
  refine lv_iadd hx hb d_L_law_464 ?_
  refine va_sld hx hb hX hbl hbA hS h_1 d_L_law_465 ?_
  refine g_calli hS (g_runV (b := 63) (As := [.int (xs (x3 + 1).toNatClampNeg)]) (rest := [.int r]) hC hP (c_M_mean hj hk2) (rkl (by decide) (by decide)) nm_M_mean cd_M_mean it_WideTownModel ml_L_40 im_M_mean sl_M_mean o_63 co_M rfl hl.1 rfl (Nat.le_of_ble_eq_true rfl) d_L_law_466 hf) (fun H locs hP hS => ?_)
  exact lv_icmp_eq (tgt := 1725) hx hb d_L_law_469 (by decide) (fun _ => kk _ _ _ hR2 hP hS) (fun hc => absurd rfl hc)
set_option maxHeartbeats 4000000 in
theorem lc_text {ls : Array Slot} (hl : lv_has ls 4 [(0, .ref b), (1, .ref (ad 0)), (2, .ref (ad 63)), (3, .int x3)]) (hC : Ctx p s m #[Value.ref b] meth c D K ad "WideTownLaw" code 4 ret) (hX : va_X b L xs s s.heap) (hbl : b < s.heap.size) (hbA : ¬ GA ad b) (h_1 : vp_in (x3 + 1) L) (h_2 : vp_in (x3 + 2) L) (h_3 : vp_in (x3 + 3) L) (h_4 : vp_in (x3 + 4) L) (h_5 : vp_in (x3 + 5) L) (hf : cells ≤ room_1.cells ∧ slots ≤ room_1.slots) (hst : St_text Rel) (hR : Rel σ) (hP : va_P D vwCl (wG K ad σ) H) (hS : va_S (GA ad) s.heap H locs)
    (kk : ∀ (σ' : GS) (H1 : Heap) (locs1 : List Loc), Rel σ' → va_P D vwCl (wG K ad σ') H1 → va_S (GA ad) s.heap H1 locs1 → W p l e room_1 s m #[Value.ref b] below meth c H1 locs1 cells slots Q (F0 m 1725 ls [])) : W p l e room_1 s m #[Value.ref b] below meth c H locs cells slots Q (F0 m 474 ls []) := by
  obtain ⟨hx, hb, -, hown, hts, -, -, -, -, hj⟩ := id hC
  obtain ⟨r, σ1, σ2, hk1, hk2, hR2⟩ := hst σ hR (xs (x3 + 1).toNatClampNeg) (xs (x3 + 2).toNatClampNeg)
  refine lv_aload_n hx hb d_L_law_474 rfl (lv_at hl 1 rfl) ?_
  refine lv_aload_n hx hb d_L_law_475 rfl (lv_at hl 0 rfl) ?_
  refine lv_iload_n hx hb d_L_law_476 rfl (lv_at hl 3 rfl) ?_
  refine lv_iconst (v := 1) hx hb d_L_law_477 (by decide) ?_
  refine lv_iadd hx hb d_L_law_478 ?_
  refine va_sld hx hb hX hbl hbA hS h_1 d_L_law_479 ?_
  refine lv_aload_n hx hb d_L_law_480 rfl (lv_at hl 0 rfl) ?_
  refine lv_iload_n hx hb d_L_law_481 rfl (lv_at hl 3 rfl) ?_
  refine lv_iconst (v := 2) hx hb d_L_law_482 (by decide) ?_
  refine lv_iadd hx hb d_L_law_483 ?_
  refine va_sld hx hb hX hbl hbA hS h_2 d_L_law_484 ?_
  refine g_calli hS (g_runV (b := 0) (As := [.int (xs (x3 + 1).toNatClampNeg), .int (xs (x3 + 2).toNatClampNeg)]) (rest := []) hC hP (c_X_text hj hk1) (rkl (by decide) (by decide)) nm_X_text cd_X_text it_WideTown ml_L_41 im_X_text sl_X_text o_0 co_X rfl hl.1 rfl (Nat.le_of_ble_eq_true rfl) d_L_law_485 hf) (fun H locs hP hS => ?_)
  refine lv_aload_n hx hb d_L_law_488 rfl (lv_at hl 2 rfl) ?_
  refine lv_aload_n hx hb d_L_law_489 rfl (lv_at hl 0 rfl) ?_
  refine lv_iload_n hx hb d_L_law_490 rfl (lv_at hl 3 rfl) ?_
  refine lv_iconst (v := 1) hx hb d_L_law_491 (by decide) ?_
  refine lv_iadd hx hb d_L_law_492 ?_
  refine va_sld hx hb hX hbl hbA hS h_1 d_L_law_493 ?_
  refine lv_aload_n hx hb d_L_law_494 rfl (lv_at hl 0 rfl) ?_
  refine lv_iload_n hx hb d_L_law_495 rfl (lv_at hl 3 rfl) ?_
  refine lv_iconst (v := 2) hx hb d_L_law_496 (by decide) ?_
  refine lv_iadd hx hb d_L_law_497 ?_
  refine va_sld hx hb hX hbl hbA hS h_2 d_L_law_498 ?_
  refine g_calli hS (g_runV (b := 63) (As := [.int (xs (x3 + 1).toNatClampNeg), .int (xs (x3 + 2).toNatClampNeg)]) (rest := [.int r]) hC hP (c_M_text hj hk2) (rkl (by decide) (by decide)) nm_M_text cd_M_text it_WideTownModel ml_L_44 im_M_text sl_M_text o_63 co_M rfl hl.1 rfl (Nat.le_of_ble_eq_true rfl) d_L_law_499 hf) (fun H locs hP hS => ?_)
  exact lv_icmp_eq (tgt := 1725) hx hb d_L_law_502 (by decide) (fun _ => kk _ _ _ hR2 hP hS) (fun hc => absurd rfl hc)
set_option maxHeartbeats 4000000 in
theorem lc_put {ls : Array Slot} (hl : lv_has ls 4 [(0, .ref b), (1, .ref (ad 0)), (2, .ref (ad 63)), (3, .int x3)]) (hC : Ctx p s m #[Value.ref b] meth c D K ad "WideTownLaw" code 4 ret) (hX : va_X b L xs s s.heap) (hbl : b < s.heap.size) (hbA : ¬ GA ad b) (h_1 : vp_in (x3 + 1) L) (h_2 : vp_in (x3 + 2) L) (h_3 : vp_in (x3 + 3) L) (h_4 : vp_in (x3 + 4) L) (h_5 : vp_in (x3 + 5) L) (hf : cells ≤ room_1.cells ∧ slots ≤ room_1.slots) (hst : St_put Rel) (hR : Rel σ) (hP : va_P D vwCl (wG K ad σ) H) (hS : va_S (GA ad) s.heap H locs)
    (kk : ∀ (σ' : GS) (H1 : Heap) (locs1 : List Loc), Rel σ' → va_P D vwCl (wG K ad σ') H1 → va_S (GA ad) s.heap H1 locs1 → W p l e room_1 s m #[Value.ref b] below meth c H1 locs1 cells slots Q (F0 m 1725 ls [])) : W p l e room_1 s m #[Value.ref b] below meth c H locs cells slots Q (F0 m 507 ls []) := by
  obtain ⟨hx, hb, -, hown, hts, -, -, -, -, hj⟩ := id hC
  obtain ⟨r, σ1, σ2, hk1, hk2, hR2⟩ := hst σ hR (xs (x3 + 1).toNatClampNeg) (xs (x3 + 2).toNatClampNeg) (xs (x3 + 3).toNatClampNeg)
  refine lv_aload_n hx hb d_L_law_507 rfl (lv_at hl 1 rfl) ?_
  refine lv_aload_n hx hb d_L_law_508 rfl (lv_at hl 0 rfl) ?_
  refine lv_iload_n hx hb d_L_law_509 rfl (lv_at hl 3 rfl) ?_
  refine lv_iconst (v := 1) hx hb d_L_law_510 (by decide) ?_
  refine lv_iadd hx hb d_L_law_511 ?_
  refine va_sld hx hb hX hbl hbA hS h_1 d_L_law_512 ?_
  refine lv_aload_n hx hb d_L_law_513 rfl (lv_at hl 0 rfl) ?_
  refine lv_iload_n hx hb d_L_law_514 rfl (lv_at hl 3 rfl) ?_
  refine lv_iconst (v := 2) hx hb d_L_law_515 (by decide) ?_
  refine lv_iadd hx hb d_L_law_516 ?_
  refine va_sld hx hb hX hbl hbA hS h_2 d_L_law_517 ?_
  refine lv_aload_n hx hb d_L_law_518 rfl (lv_at hl 0 rfl) ?_
  refine lv_iload_n hx hb d_L_law_519 rfl (lv_at hl 3 rfl) ?_
  refine lv_iconst (v := 3) hx hb d_L_law_520 (by decide) ?_
  refine lv_iadd hx hb d_L_law_521 ?_
  refine va_sld hx hb hX hbl hbA hS h_3 d_L_law_522 ?_
  refine g_calli hS (g_runV (b := 0) (As := [.int (xs (x3 + 1).toNatClampNeg), .int (xs (x3 + 2).toNatClampNeg), .int (xs (x3 + 3).toNatClampNeg)]) (rest := []) hC hP (c_X_put hj hk1) (rkl (by decide) (by decide)) nm_X_put cd_X_put it_WideTown ml_L_45 im_X_put sl_X_put o_0 co_X rfl hl.1 rfl (Nat.le_of_ble_eq_true rfl) d_L_law_523 hf) (fun H locs hP hS => ?_)
  refine lv_aload_n hx hb d_L_law_526 rfl (lv_at hl 2 rfl) ?_
  refine lv_aload_n hx hb d_L_law_527 rfl (lv_at hl 0 rfl) ?_
  refine lv_iload_n hx hb d_L_law_528 rfl (lv_at hl 3 rfl) ?_
  refine lv_iconst (v := 1) hx hb d_L_law_529 (by decide) ?_
  refine lv_iadd hx hb d_L_law_530 ?_
  refine va_sld hx hb hX hbl hbA hS h_1 d_L_law_531 ?_
  refine lv_aload_n hx hb d_L_law_532 rfl (lv_at hl 0 rfl) ?_
  refine lv_iload_n hx hb d_L_law_533 rfl (lv_at hl 3 rfl) ?_
  refine lv_iconst (v := 2) hx hb d_L_law_534 (by decide) ?_
  refine lv_iadd hx hb d_L_law_535 ?_
  refine va_sld hx hb hX hbl hbA hS h_2 d_L_law_536 ?_
  refine lv_aload_n hx hb d_L_law_537 rfl (lv_at hl 0 rfl) ?_
  refine lv_iload_n hx hb d_L_law_538 rfl (lv_at hl 3 rfl) ?_
  refine lv_iconst (v := 3) hx hb d_L_law_539 (by decide) ?_
  refine lv_iadd hx hb d_L_law_540 ?_
  refine va_sld hx hb hX hbl hbA hS h_3 d_L_law_541 ?_
  refine g_calli hS (g_runV (b := 63) (As := [.int (xs (x3 + 1).toNatClampNeg), .int (xs (x3 + 2).toNatClampNeg), .int (xs (x3 + 3).toNatClampNeg)]) (rest := [.int r]) hC hP (c_M_put hj hk2) (rkl (by decide) (by decide)) nm_M_put cd_M_put it_WideTownModel ml_L_48 im_M_put sl_M_put o_63 co_M rfl hl.1 rfl (Nat.le_of_ble_eq_true rfl) d_L_law_542 hf) (fun H locs hP hS => ?_)
  exact lv_icmp_eq (tgt := 1725) hx hb d_L_law_545 (by decide) (fun _ => kk _ _ _ hR2 hP hS) (fun hc => absurd rfl hc)
set_option maxHeartbeats 4000000 in
theorem lc_fault {ls : Array Slot} (hl : lv_has ls 4 [(0, .ref b), (1, .ref (ad 0)), (2, .ref (ad 63)), (3, .int x3)]) (hC : Ctx p s m #[Value.ref b] meth c D K ad "WideTownLaw" code 4 ret) (hX : va_X b L xs s s.heap) (hbl : b < s.heap.size) (hbA : ¬ GA ad b) (h_1 : vp_in (x3 + 1) L) (h_2 : vp_in (x3 + 2) L) (h_3 : vp_in (x3 + 3) L) (h_4 : vp_in (x3 + 4) L) (h_5 : vp_in (x3 + 5) L) (hf : cells ≤ room_1.cells ∧ slots ≤ room_1.slots) (hst : St_fault Rel) (hR : Rel σ) (hP : va_P D vwCl (wG K ad σ) H) (hS : va_S (GA ad) s.heap H locs)
    (kk : ∀ (σ' : GS) (H1 : Heap) (locs1 : List Loc), Rel σ' → va_P D vwCl (wG K ad σ') H1 → va_S (GA ad) s.heap H1 locs1 → W p l e room_1 s m #[Value.ref b] below meth c H1 locs1 cells slots Q (F0 m 1725 ls [])) : W p l e room_1 s m #[Value.ref b] below meth c H locs cells slots Q (F0 m 550 ls []) := by
  obtain ⟨hx, hb, -, hown, hts, -, -, -, -, hj⟩ := id hC
  obtain ⟨r, σ1, σ2, hk1, hk2, hR2⟩ := hst σ hR (xs (x3 + 1).toNatClampNeg)
  refine lv_aload_n hx hb d_L_law_550 rfl (lv_at hl 1 rfl) ?_
  refine lv_aload_n hx hb d_L_law_551 rfl (lv_at hl 0 rfl) ?_
  refine lv_iload_n hx hb d_L_law_552 rfl (lv_at hl 3 rfl) ?_
  refine lv_iconst (v := 1) hx hb d_L_law_553 (by decide) ?_
  refine lv_iadd hx hb d_L_law_554 ?_
  refine va_sld hx hb hX hbl hbA hS h_1 d_L_law_555 ?_
  refine g_calli hS (g_runV (b := 0) (As := [.int (xs (x3 + 1).toNatClampNeg)]) (rest := []) hC hP (c_X_fault hj hk1) (rkl (by decide) (by decide)) nm_X_fault cd_X_fault it_WideTown ml_L_49 im_X_fault sl_X_fault o_0 co_X rfl hl.1 rfl (Nat.le_of_ble_eq_true rfl) d_L_law_556 hf) (fun H locs hP hS => ?_)
  refine lv_aload_n hx hb d_L_law_559 rfl (lv_at hl 2 rfl) ?_
  refine lv_aload_n hx hb d_L_law_560 rfl (lv_at hl 0 rfl) ?_
  refine lv_iload_n hx hb d_L_law_561 rfl (lv_at hl 3 rfl) ?_
  refine lv_iconst (v := 1) hx hb d_L_law_562 (by decide) ?_
  refine lv_iadd hx hb d_L_law_563 ?_
  refine va_sld hx hb hX hbl hbA hS h_1 d_L_law_564 ?_
  refine g_calli hS (g_runV (b := 63) (As := [.int (xs (x3 + 1).toNatClampNeg)]) (rest := [.int r]) hC hP (c_M_fault hj hk2) (rkl (by decide) (by decide)) nm_M_fault cd_M_fault it_WideTownModel ml_L_52 im_M_fault sl_M_fault o_63 co_M rfl hl.1 rfl (Nat.le_of_ble_eq_true rfl) d_L_law_565 hf) (fun H locs hP hS => ?_)
  exact lv_icmp_eq (tgt := 1725) hx hb d_L_law_568 (by decide) (fun _ => kk _ _ _ hR2 hP hS) (fun hc => absurd rfl hc)
set_option maxHeartbeats 4000000 in
theorem lc_town {ls : Array Slot} (hl : lv_has ls 4 [(0, .ref b), (1, .ref (ad 0)), (2, .ref (ad 63)), (3, .int x3)]) (hC : Ctx p s m #[Value.ref b] meth c D K ad "WideTownLaw" code 4 ret) (hX : va_X b L xs s s.heap) (hbl : b < s.heap.size) (hbA : ¬ GA ad b) (h_1 : vp_in (x3 + 1) L) (h_2 : vp_in (x3 + 2) L) (h_3 : vp_in (x3 + 3) L) (h_4 : vp_in (x3 + 4) L) (h_5 : vp_in (x3 + 5) L) (hf : cells ≤ room_1.cells ∧ slots ≤ room_1.slots) (hst : St_town Rel) (hR : Rel σ) (hP : va_P D vwCl (wG K ad σ) H) (hS : va_S (GA ad) s.heap H locs)
    (kk : ∀ (σ' : GS) (H1 : Heap) (locs1 : List Loc), Rel σ' → va_P D vwCl (wG K ad σ') H1 → va_S (GA ad) s.heap H1 locs1 → W p l e room_1 s m #[Value.ref b] below meth c H1 locs1 cells slots Q (F0 m 1725 ls [])) : W p l e room_1 s m #[Value.ref b] below meth c H locs cells slots Q (F0 m 573 ls []) := by
  obtain ⟨hx, hb, -, hown, hts, -, -, -, -, hj⟩ := id hC
  obtain ⟨r, σ1, σ2, hk1, hk2, hR2⟩ := hst σ hR (xs (x3 + 1).toNatClampNeg)
  refine lv_aload_n hx hb d_L_law_573 rfl (lv_at hl 1 rfl) ?_
  refine lv_aload_n hx hb d_L_law_574 rfl (lv_at hl 0 rfl) ?_
  refine lv_iload_n hx hb d_L_law_575 rfl (lv_at hl 3 rfl) ?_
  refine lv_iconst (v := 1) hx hb d_L_law_576 (by decide) ?_
  refine lv_iadd hx hb d_L_law_577 ?_
  refine va_sld hx hb hX hbl hbA hS h_1 d_L_law_578 ?_
  refine g_calli hS (g_runV (b := 0) (As := [.int (xs (x3 + 1).toNatClampNeg)]) (rest := []) hC hP (c_X_town hj hk1) (rkl (by decide) (by decide)) nm_X_town cd_X_town it_WideTown ml_L_53 im_X_town sl_X_town o_0 co_X rfl hl.1 rfl (Nat.le_of_ble_eq_true rfl) d_L_law_579 hf) (fun H locs hP hS => ?_)
  refine lv_aload_n hx hb d_L_law_582 rfl (lv_at hl 2 rfl) ?_
  refine lv_aload_n hx hb d_L_law_583 rfl (lv_at hl 0 rfl) ?_
  refine lv_iload_n hx hb d_L_law_584 rfl (lv_at hl 3 rfl) ?_
  refine lv_iconst (v := 1) hx hb d_L_law_585 (by decide) ?_
  refine lv_iadd hx hb d_L_law_586 ?_
  refine va_sld hx hb hX hbl hbA hS h_1 d_L_law_587 ?_
  refine g_calli hS (g_runV (b := 63) (As := [.int (xs (x3 + 1).toNatClampNeg)]) (rest := [.int r]) hC hP (c_M_town hj hk2) (rkl (by decide) (by decide)) nm_M_town cd_M_town it_WideTownModel ml_L_56 im_M_town sl_M_town o_63 co_M rfl hl.1 rfl (Nat.le_of_ble_eq_true rfl) d_L_law_588 hf) (fun H locs hP hS => ?_)
  exact lv_icmp_eq (tgt := 1725) hx hb d_L_law_591 (by decide) (fun _ => kk _ _ _ hR2 hP hS) (fun hc => absurd rfl hc)
set_option maxHeartbeats 4000000 in
theorem lc_walker {ls : Array Slot} (hl : lv_has ls 4 [(0, .ref b), (1, .ref (ad 0)), (2, .ref (ad 63)), (3, .int x3)]) (hC : Ctx p s m #[Value.ref b] meth c D K ad "WideTownLaw" code 4 ret) (hX : va_X b L xs s s.heap) (hbl : b < s.heap.size) (hbA : ¬ GA ad b) (h_1 : vp_in (x3 + 1) L) (h_2 : vp_in (x3 + 2) L) (h_3 : vp_in (x3 + 3) L) (h_4 : vp_in (x3 + 4) L) (h_5 : vp_in (x3 + 5) L) (hf : cells ≤ room_1.cells ∧ slots ≤ room_1.slots) (hst : St_walker Rel) (hR : Rel σ) (hP : va_P D vwCl (wG K ad σ) H) (hS : va_S (GA ad) s.heap H locs)
    (kk : ∀ (σ' : GS) (H1 : Heap) (locs1 : List Loc), Rel σ' → va_P D vwCl (wG K ad σ') H1 → va_S (GA ad) s.heap H1 locs1 → W p l e room_1 s m #[Value.ref b] below meth c H1 locs1 cells slots Q (F0 m 1725 ls [])) : W p l e room_1 s m #[Value.ref b] below meth c H locs cells slots Q (F0 m 596 ls []) := by
  obtain ⟨hx, hb, -, hown, hts, -, -, -, -, hj⟩ := id hC
  obtain ⟨r, σ1, σ2, hk1, hk2, hR2⟩ := hst σ hR (xs (x3 + 1).toNatClampNeg) (xs (x3 + 2).toNatClampNeg)
  refine lv_aload_n hx hb d_L_law_596 rfl (lv_at hl 1 rfl) ?_
  refine lv_aload_n hx hb d_L_law_597 rfl (lv_at hl 0 rfl) ?_
  refine lv_iload_n hx hb d_L_law_598 rfl (lv_at hl 3 rfl) ?_
  refine lv_iconst (v := 1) hx hb d_L_law_599 (by decide) ?_
  refine lv_iadd hx hb d_L_law_600 ?_
  refine va_sld hx hb hX hbl hbA hS h_1 d_L_law_601 ?_
  refine lv_aload_n hx hb d_L_law_602 rfl (lv_at hl 0 rfl) ?_
  refine lv_iload_n hx hb d_L_law_603 rfl (lv_at hl 3 rfl) ?_
  refine lv_iconst (v := 2) hx hb d_L_law_604 (by decide) ?_
  refine lv_iadd hx hb d_L_law_605 ?_
  refine va_sld hx hb hX hbl hbA hS h_2 d_L_law_606 ?_
  refine g_calli hS (g_runV (b := 0) (As := [.int (xs (x3 + 1).toNatClampNeg), .int (xs (x3 + 2).toNatClampNeg)]) (rest := []) hC hP (c_X_walker hj hk1) (rkl (by decide) (by decide)) nm_X_walker cd_X_walker it_WideTown ml_L_57 im_X_walker sl_X_walker o_0 co_X rfl hl.1 rfl (Nat.le_of_ble_eq_true rfl) d_L_law_607 hf) (fun H locs hP hS => ?_)
  refine lv_aload_n hx hb d_L_law_610 rfl (lv_at hl 2 rfl) ?_
  refine lv_aload_n hx hb d_L_law_611 rfl (lv_at hl 0 rfl) ?_
  refine lv_iload_n hx hb d_L_law_612 rfl (lv_at hl 3 rfl) ?_
  refine lv_iconst (v := 1) hx hb d_L_law_613 (by decide) ?_
  refine lv_iadd hx hb d_L_law_614 ?_
  refine va_sld hx hb hX hbl hbA hS h_1 d_L_law_615 ?_
  refine lv_aload_n hx hb d_L_law_616 rfl (lv_at hl 0 rfl) ?_
  refine lv_iload_n hx hb d_L_law_617 rfl (lv_at hl 3 rfl) ?_
  refine lv_iconst (v := 2) hx hb d_L_law_618 (by decide) ?_
  refine lv_iadd hx hb d_L_law_619 ?_
  refine va_sld hx hb hX hbl hbA hS h_2 d_L_law_620 ?_
  refine g_calli hS (g_runV (b := 63) (As := [.int (xs (x3 + 1).toNatClampNeg), .int (xs (x3 + 2).toNatClampNeg)]) (rest := [.int r]) hC hP (c_M_walker hj hk2) (rkl (by decide) (by decide)) nm_M_walker cd_M_walker it_WideTownModel ml_L_60 im_M_walker sl_M_walker o_63 co_M rfl hl.1 rfl (Nat.le_of_ble_eq_true rfl) d_L_law_621 hf) (fun H locs hP hS => ?_)
  exact lv_icmp_eq (tgt := 1725) hx hb d_L_law_624 (by decide) (fun _ => kk _ _ _ hR2 hP hS) (fun hc => absurd rfl hc)
set_option maxHeartbeats 4000000 in
theorem lc_mark {ls : Array Slot} (hl : lv_has ls 4 [(0, .ref b), (1, .ref (ad 0)), (2, .ref (ad 63)), (3, .int x3)]) (hC : Ctx p s m #[Value.ref b] meth c D K ad "WideTownLaw" code 4 ret) (hX : va_X b L xs s s.heap) (hbl : b < s.heap.size) (hbA : ¬ GA ad b) (h_1 : vp_in (x3 + 1) L) (h_2 : vp_in (x3 + 2) L) (h_3 : vp_in (x3 + 3) L) (h_4 : vp_in (x3 + 4) L) (h_5 : vp_in (x3 + 5) L) (hf : cells ≤ room_1.cells ∧ slots ≤ room_1.slots) (hst : St_mark Rel) (hR : Rel σ) (hP : va_P D vwCl (wG K ad σ) H) (hS : va_S (GA ad) s.heap H locs)
    (kk : ∀ (σ' : GS) (H1 : Heap) (locs1 : List Loc), Rel σ' → va_P D vwCl (wG K ad σ') H1 → va_S (GA ad) s.heap H1 locs1 → W p l e room_1 s m #[Value.ref b] below meth c H1 locs1 cells slots Q (F0 m 1725 ls [])) : W p l e room_1 s m #[Value.ref b] below meth c H locs cells slots Q (F0 m 629 ls []) := by
  obtain ⟨hx, hb, -, hown, hts, -, -, -, -, hj⟩ := id hC
  obtain ⟨r, σ1, σ2, hk1, hk2, hR2⟩ := hst σ hR (xs (x3 + 1).toNatClampNeg) (xs (x3 + 2).toNatClampNeg)
  refine lv_aload_n hx hb d_L_law_629 rfl (lv_at hl 1 rfl) ?_
  refine lv_aload_n hx hb d_L_law_630 rfl (lv_at hl 0 rfl) ?_
  refine lv_iload_n hx hb d_L_law_631 rfl (lv_at hl 3 rfl) ?_
  refine lv_iconst (v := 1) hx hb d_L_law_632 (by decide) ?_
  refine lv_iadd hx hb d_L_law_633 ?_
  refine va_sld hx hb hX hbl hbA hS h_1 d_L_law_634 ?_
  refine lv_aload_n hx hb d_L_law_635 rfl (lv_at hl 0 rfl) ?_
  refine lv_iload_n hx hb d_L_law_636 rfl (lv_at hl 3 rfl) ?_
  refine lv_iconst (v := 2) hx hb d_L_law_637 (by decide) ?_
  refine lv_iadd hx hb d_L_law_638 ?_
  refine va_sld hx hb hX hbl hbA hS h_2 d_L_law_639 ?_
  refine g_calli hS (g_runV (b := 0) (As := [.int (xs (x3 + 1).toNatClampNeg), .int (xs (x3 + 2).toNatClampNeg)]) (rest := []) hC hP (c_X_mark hj hk1) (rkl (by decide) (by decide)) nm_X_mark cd_X_mark it_WideTown ml_L_61 im_X_mark sl_X_mark o_0 co_X rfl hl.1 rfl (Nat.le_of_ble_eq_true rfl) d_L_law_640 hf) (fun H locs hP hS => ?_)
  refine lv_aload_n hx hb d_L_law_643 rfl (lv_at hl 2 rfl) ?_
  refine lv_aload_n hx hb d_L_law_644 rfl (lv_at hl 0 rfl) ?_
  refine lv_iload_n hx hb d_L_law_645 rfl (lv_at hl 3 rfl) ?_
  refine lv_iconst (v := 1) hx hb d_L_law_646 (by decide) ?_
  refine lv_iadd hx hb d_L_law_647 ?_
  refine va_sld hx hb hX hbl hbA hS h_1 d_L_law_648 ?_
  refine lv_aload_n hx hb d_L_law_649 rfl (lv_at hl 0 rfl) ?_
  refine lv_iload_n hx hb d_L_law_650 rfl (lv_at hl 3 rfl) ?_
  refine lv_iconst (v := 2) hx hb d_L_law_651 (by decide) ?_
  refine lv_iadd hx hb d_L_law_652 ?_
  refine va_sld hx hb hX hbl hbA hS h_2 d_L_law_653 ?_
  refine g_calli hS (g_runV (b := 63) (As := [.int (xs (x3 + 1).toNatClampNeg), .int (xs (x3 + 2).toNatClampNeg)]) (rest := [.int r]) hC hP (c_M_mark hj hk2) (rkl (by decide) (by decide)) nm_M_mark cd_M_mark it_WideTownModel ml_L_64 im_M_mark sl_M_mark o_63 co_M rfl hl.1 rfl (Nat.le_of_ble_eq_true rfl) d_L_law_654 hf) (fun H locs hP hS => ?_)
  exact lv_icmp_eq (tgt := 1725) hx hb d_L_law_657 (by decide) (fun _ => kk _ _ _ hR2 hP hS) (fun hc => absurd rfl hc)
set_option maxHeartbeats 4000000 in
theorem lc_stand {ls : Array Slot} (hl : lv_has ls 4 [(0, .ref b), (1, .ref (ad 0)), (2, .ref (ad 63)), (3, .int x3)]) (hC : Ctx p s m #[Value.ref b] meth c D K ad "WideTownLaw" code 4 ret) (hX : va_X b L xs s s.heap) (hbl : b < s.heap.size) (hbA : ¬ GA ad b) (h_1 : vp_in (x3 + 1) L) (h_2 : vp_in (x3 + 2) L) (h_3 : vp_in (x3 + 3) L) (h_4 : vp_in (x3 + 4) L) (h_5 : vp_in (x3 + 5) L) (hf : cells ≤ room_1.cells ∧ slots ≤ room_1.slots) (hst : St_stand Rel) (hR : Rel σ) (hP : va_P D vwCl (wG K ad σ) H) (hS : va_S (GA ad) s.heap H locs)
    (kk : ∀ (σ' : GS) (H1 : Heap) (locs1 : List Loc), Rel σ' → va_P D vwCl (wG K ad σ') H1 → va_S (GA ad) s.heap H1 locs1 → W p l e room_1 s m #[Value.ref b] below meth c H1 locs1 cells slots Q (F0 m 1725 ls [])) : W p l e room_1 s m #[Value.ref b] below meth c H locs cells slots Q (F0 m 662 ls []) := by
  obtain ⟨hx, hb, -, hown, hts, -, -, -, -, hj⟩ := id hC
  obtain ⟨r, σ1, σ2, hk1, hk2, hR2⟩ := hst σ hR (xs (x3 + 1).toNatClampNeg) (xs (x3 + 2).toNatClampNeg)
  refine lv_aload_n hx hb d_L_law_662 rfl (lv_at hl 1 rfl) ?_
  refine lv_aload_n hx hb d_L_law_663 rfl (lv_at hl 0 rfl) ?_
  refine lv_iload_n hx hb d_L_law_664 rfl (lv_at hl 3 rfl) ?_
  refine lv_iconst (v := 1) hx hb d_L_law_665 (by decide) ?_
  refine lv_iadd hx hb d_L_law_666 ?_
  refine va_sld hx hb hX hbl hbA hS h_1 d_L_law_667 ?_
  refine lv_aload_n hx hb d_L_law_668 rfl (lv_at hl 0 rfl) ?_
  refine lv_iload_n hx hb d_L_law_669 rfl (lv_at hl 3 rfl) ?_
  refine lv_iconst (v := 2) hx hb d_L_law_670 (by decide) ?_
  refine lv_iadd hx hb d_L_law_671 ?_
  refine va_sld hx hb hX hbl hbA hS h_2 d_L_law_672 ?_
  refine g_calli hS (g_runV (b := 0) (As := [.int (xs (x3 + 1).toNatClampNeg), .int (xs (x3 + 2).toNatClampNeg)]) (rest := []) hC hP (c_X_stand hj hk1) (rkl (by decide) (by decide)) nm_X_stand cd_X_stand it_WideTown ml_L_65 im_X_stand sl_X_stand o_0 co_X rfl hl.1 rfl (Nat.le_of_ble_eq_true rfl) d_L_law_673 hf) (fun H locs hP hS => ?_)
  refine lv_aload_n hx hb d_L_law_676 rfl (lv_at hl 2 rfl) ?_
  refine lv_aload_n hx hb d_L_law_677 rfl (lv_at hl 0 rfl) ?_
  refine lv_iload_n hx hb d_L_law_678 rfl (lv_at hl 3 rfl) ?_
  refine lv_iconst (v := 1) hx hb d_L_law_679 (by decide) ?_
  refine lv_iadd hx hb d_L_law_680 ?_
  refine va_sld hx hb hX hbl hbA hS h_1 d_L_law_681 ?_
  refine lv_aload_n hx hb d_L_law_682 rfl (lv_at hl 0 rfl) ?_
  refine lv_iload_n hx hb d_L_law_683 rfl (lv_at hl 3 rfl) ?_
  refine lv_iconst (v := 2) hx hb d_L_law_684 (by decide) ?_
  refine lv_iadd hx hb d_L_law_685 ?_
  refine va_sld hx hb hX hbl hbA hS h_2 d_L_law_686 ?_
  refine g_calli hS (g_runV (b := 63) (As := [.int (xs (x3 + 1).toNatClampNeg), .int (xs (x3 + 2).toNatClampNeg)]) (rest := [.int r]) hC hP (c_M_stand hj hk2) (rkl (by decide) (by decide)) nm_M_stand cd_M_stand it_WideTownModel ml_L_68 im_M_stand sl_M_stand o_63 co_M rfl hl.1 rfl (Nat.le_of_ble_eq_true rfl) d_L_law_687 hf) (fun H locs hP hS => ?_)
  exact lv_icmp_eq (tgt := 1725) hx hb d_L_law_690 (by decide) (fun _ => kk _ _ _ hR2 hP hS) (fun hc => absurd rfl hc)
set_option maxHeartbeats 4000000 in
theorem lc_head {ls : Array Slot} (hl : lv_has ls 4 [(0, .ref b), (1, .ref (ad 0)), (2, .ref (ad 63)), (3, .int x3)]) (hC : Ctx p s m #[Value.ref b] meth c D K ad "WideTownLaw" code 4 ret) (hX : va_X b L xs s s.heap) (hbl : b < s.heap.size) (hbA : ¬ GA ad b) (h_1 : vp_in (x3 + 1) L) (h_2 : vp_in (x3 + 2) L) (h_3 : vp_in (x3 + 3) L) (h_4 : vp_in (x3 + 4) L) (h_5 : vp_in (x3 + 5) L) (hf : cells ≤ room_1.cells ∧ slots ≤ room_1.slots) (hst : St_head Rel) (hR : Rel σ) (hP : va_P D vwCl (wG K ad σ) H) (hS : va_S (GA ad) s.heap H locs)
    (kk : ∀ (σ' : GS) (H1 : Heap) (locs1 : List Loc), Rel σ' → va_P D vwCl (wG K ad σ') H1 → va_S (GA ad) s.heap H1 locs1 → W p l e room_1 s m #[Value.ref b] below meth c H1 locs1 cells slots Q (F0 m 1725 ls [])) : W p l e room_1 s m #[Value.ref b] below meth c H locs cells slots Q (F0 m 695 ls []) := by
  obtain ⟨hx, hb, -, hown, hts, -, -, -, -, hj⟩ := id hC
  obtain ⟨r, σ1, σ2, hk1, hk2, hR2⟩ := hst σ hR (xs (x3 + 1).toNatClampNeg) (xs (x3 + 2).toNatClampNeg)
  refine lv_aload_n hx hb d_L_law_695 rfl (lv_at hl 1 rfl) ?_
  refine lv_aload_n hx hb d_L_law_696 rfl (lv_at hl 0 rfl) ?_
  refine lv_iload_n hx hb d_L_law_697 rfl (lv_at hl 3 rfl) ?_
  refine lv_iconst (v := 1) hx hb d_L_law_698 (by decide) ?_
  refine lv_iadd hx hb d_L_law_699 ?_
  refine va_sld hx hb hX hbl hbA hS h_1 d_L_law_700 ?_
  refine lv_aload_n hx hb d_L_law_701 rfl (lv_at hl 0 rfl) ?_
  refine lv_iload_n hx hb d_L_law_702 rfl (lv_at hl 3 rfl) ?_
  refine lv_iconst (v := 2) hx hb d_L_law_703 (by decide) ?_
  refine lv_iadd hx hb d_L_law_704 ?_
  refine va_sld hx hb hX hbl hbA hS h_2 d_L_law_705 ?_
  refine g_calli hS (g_runV (b := 0) (As := [.int (xs (x3 + 1).toNatClampNeg), .int (xs (x3 + 2).toNatClampNeg)]) (rest := []) hC hP (c_X_head hj hk1) (rkl (by decide) (by decide)) nm_X_head cd_X_head it_WideTown ml_L_69 im_X_head sl_X_head o_0 co_X rfl hl.1 rfl (Nat.le_of_ble_eq_true rfl) d_L_law_706 hf) (fun H locs hP hS => ?_)
  refine lv_aload_n hx hb d_L_law_709 rfl (lv_at hl 2 rfl) ?_
  refine lv_aload_n hx hb d_L_law_710 rfl (lv_at hl 0 rfl) ?_
  refine lv_iload_n hx hb d_L_law_711 rfl (lv_at hl 3 rfl) ?_
  refine lv_iconst (v := 1) hx hb d_L_law_712 (by decide) ?_
  refine lv_iadd hx hb d_L_law_713 ?_
  refine va_sld hx hb hX hbl hbA hS h_1 d_L_law_714 ?_
  refine lv_aload_n hx hb d_L_law_715 rfl (lv_at hl 0 rfl) ?_
  refine lv_iload_n hx hb d_L_law_716 rfl (lv_at hl 3 rfl) ?_
  refine lv_iconst (v := 2) hx hb d_L_law_717 (by decide) ?_
  refine lv_iadd hx hb d_L_law_718 ?_
  refine va_sld hx hb hX hbl hbA hS h_2 d_L_law_719 ?_
  refine g_calli hS (g_runV (b := 63) (As := [.int (xs (x3 + 1).toNatClampNeg), .int (xs (x3 + 2).toNatClampNeg)]) (rest := [.int r]) hC hP (c_M_head hj hk2) (rkl (by decide) (by decide)) nm_M_head cd_M_head it_WideTownModel ml_L_72 im_M_head sl_M_head o_63 co_M rfl hl.1 rfl (Nat.le_of_ble_eq_true rfl) d_L_law_720 hf) (fun H locs hP hS => ?_)
  exact lv_icmp_eq (tgt := 1725) hx hb d_L_law_723 (by decide) (fun _ => kk _ _ _ hR2 hP hS) (fun hc => absurd rfl hc)
set_option maxHeartbeats 4000000 in
theorem lc_hours {ls : Array Slot} (hl : lv_has ls 4 [(0, .ref b), (1, .ref (ad 0)), (2, .ref (ad 63)), (3, .int x3)]) (hC : Ctx p s m #[Value.ref b] meth c D K ad "WideTownLaw" code 4 ret) (hX : va_X b L xs s s.heap) (hbl : b < s.heap.size) (hbA : ¬ GA ad b) (h_1 : vp_in (x3 + 1) L) (h_2 : vp_in (x3 + 2) L) (h_3 : vp_in (x3 + 3) L) (h_4 : vp_in (x3 + 4) L) (h_5 : vp_in (x3 + 5) L) (hf : cells ≤ room_1.cells ∧ slots ≤ room_1.slots) (hst : St_hours Rel) (hR : Rel σ) (hP : va_P D vwCl (wG K ad σ) H) (hS : va_S (GA ad) s.heap H locs)
    (kk : ∀ (σ' : GS) (H1 : Heap) (locs1 : List Loc), Rel σ' → va_P D vwCl (wG K ad σ') H1 → va_S (GA ad) s.heap H1 locs1 → W p l e room_1 s m #[Value.ref b] below meth c H1 locs1 cells slots Q (F0 m 1725 ls [])) : W p l e room_1 s m #[Value.ref b] below meth c H locs cells slots Q (F0 m 728 ls []) := by
  obtain ⟨hx, hb, -, hown, hts, -, -, -, -, hj⟩ := id hC
  obtain ⟨r, σ1, σ2, hk1, hk2, hR2⟩ := hst σ hR (xs (x3 + 1).toNatClampNeg)
  refine lv_aload_n hx hb d_L_law_728 rfl (lv_at hl 1 rfl) ?_
  refine lv_aload_n hx hb d_L_law_729 rfl (lv_at hl 0 rfl) ?_
  refine lv_iload_n hx hb d_L_law_730 rfl (lv_at hl 3 rfl) ?_
  refine lv_iconst (v := 1) hx hb d_L_law_731 (by decide) ?_
  refine lv_iadd hx hb d_L_law_732 ?_
  refine va_sld hx hb hX hbl hbA hS h_1 d_L_law_733 ?_
  refine g_calli hS (g_runV (b := 0) (As := [.int (xs (x3 + 1).toNatClampNeg)]) (rest := []) hC hP (c_X_hours hj hk1) (rkl (by decide) (by decide)) nm_X_hours cd_X_hours it_WideTown ml_L_73 im_X_hours sl_X_hours o_0 co_X rfl hl.1 rfl (Nat.le_of_ble_eq_true rfl) d_L_law_734 hf) (fun H locs hP hS => ?_)
  refine lv_aload_n hx hb d_L_law_737 rfl (lv_at hl 2 rfl) ?_
  refine lv_aload_n hx hb d_L_law_738 rfl (lv_at hl 0 rfl) ?_
  refine lv_iload_n hx hb d_L_law_739 rfl (lv_at hl 3 rfl) ?_
  refine lv_iconst (v := 1) hx hb d_L_law_740 (by decide) ?_
  refine lv_iadd hx hb d_L_law_741 ?_
  refine va_sld hx hb hX hbl hbA hS h_1 d_L_law_742 ?_
  refine g_calli hS (g_runV (b := 63) (As := [.int (xs (x3 + 1).toNatClampNeg)]) (rest := [.int r]) hC hP (c_M_hours hj hk2) (rkl (by decide) (by decide)) nm_M_hours cd_M_hours it_WideTownModel ml_L_76 im_M_hours sl_M_hours o_63 co_M rfl hl.1 rfl (Nat.le_of_ble_eq_true rfl) d_L_law_743 hf) (fun H locs hP hS => ?_)
  exact lv_icmp_eq (tgt := 1725) hx hb d_L_law_746 (by decide) (fun _ => kk _ _ _ hR2 hP hS) (fun hc => absurd rfl hc)
set_option maxHeartbeats 4000000 in
theorem lc_undo {ls : Array Slot} (hl : lv_has ls 4 [(0, .ref b), (1, .ref (ad 0)), (2, .ref (ad 63)), (3, .int x3)]) (hC : Ctx p s m #[Value.ref b] meth c D K ad "WideTownLaw" code 4 ret) (hX : va_X b L xs s s.heap) (hbl : b < s.heap.size) (hbA : ¬ GA ad b) (h_1 : vp_in (x3 + 1) L) (h_2 : vp_in (x3 + 2) L) (h_3 : vp_in (x3 + 3) L) (h_4 : vp_in (x3 + 4) L) (h_5 : vp_in (x3 + 5) L) (hf : cells ≤ room_1.cells ∧ slots ≤ room_1.slots) (hst : St_undo Rel) (hR : Rel σ) (hP : va_P D vwCl (wG K ad σ) H) (hS : va_S (GA ad) s.heap H locs)
    (kk : ∀ (σ' : GS) (H1 : Heap) (locs1 : List Loc), Rel σ' → va_P D vwCl (wG K ad σ') H1 → va_S (GA ad) s.heap H1 locs1 → W p l e room_1 s m #[Value.ref b] below meth c H1 locs1 cells slots Q (F0 m 1725 ls [])) : W p l e room_1 s m #[Value.ref b] below meth c H locs cells slots Q (F0 m 751 ls []) := by
  obtain ⟨hx, hb, -, hown, hts, -, -, -, -, hj⟩ := id hC
  obtain ⟨r, σ1, σ2, hk1, hk2, hR2⟩ := hst σ hR (xs (x3 + 1).toNatClampNeg)
  refine lv_aload_n hx hb d_L_law_751 rfl (lv_at hl 1 rfl) ?_
  refine lv_aload_n hx hb d_L_law_752 rfl (lv_at hl 0 rfl) ?_
  refine lv_iload_n hx hb d_L_law_753 rfl (lv_at hl 3 rfl) ?_
  refine lv_iconst (v := 1) hx hb d_L_law_754 (by decide) ?_
  refine lv_iadd hx hb d_L_law_755 ?_
  refine va_sld hx hb hX hbl hbA hS h_1 d_L_law_756 ?_
  refine g_calli hS (g_runV (b := 0) (As := [.int (xs (x3 + 1).toNatClampNeg)]) (rest := []) hC hP (c_X_undo hj hk1) (rkl (by decide) (by decide)) nm_X_undo cd_X_undo it_WideTown ml_L_77 im_X_undo sl_X_undo o_0 co_X rfl hl.1 rfl (Nat.le_of_ble_eq_true rfl) d_L_law_757 hf) (fun H locs hP hS => ?_)
  refine lv_aload_n hx hb d_L_law_760 rfl (lv_at hl 2 rfl) ?_
  refine lv_aload_n hx hb d_L_law_761 rfl (lv_at hl 0 rfl) ?_
  refine lv_iload_n hx hb d_L_law_762 rfl (lv_at hl 3 rfl) ?_
  refine lv_iconst (v := 1) hx hb d_L_law_763 (by decide) ?_
  refine lv_iadd hx hb d_L_law_764 ?_
  refine va_sld hx hb hX hbl hbA hS h_1 d_L_law_765 ?_
  refine g_calli hS (g_runV (b := 63) (As := [.int (xs (x3 + 1).toNatClampNeg)]) (rest := [.int r]) hC hP (c_M_undo hj hk2) (rkl (by decide) (by decide)) nm_M_undo cd_M_undo it_WideTownModel ml_L_80 im_M_undo sl_M_undo o_63 co_M rfl hl.1 rfl (Nat.le_of_ble_eq_true rfl) d_L_law_766 hf) (fun H locs hP hS => ?_)
  exact lv_icmp_eq (tgt := 1725) hx hb d_L_law_769 (by decide) (fun _ => kk _ _ _ hR2 hP hS) (fun hc => absurd rfl hc)
set_option maxHeartbeats 4000000 in
theorem lc_keep {ls : Array Slot} (hl : lv_has ls 4 [(0, .ref b), (1, .ref (ad 0)), (2, .ref (ad 63)), (3, .int x3)]) (hC : Ctx p s m #[Value.ref b] meth c D K ad "WideTownLaw" code 4 ret) (hX : va_X b L xs s s.heap) (hbl : b < s.heap.size) (hbA : ¬ GA ad b) (h_1 : vp_in (x3 + 1) L) (h_2 : vp_in (x3 + 2) L) (h_3 : vp_in (x3 + 3) L) (h_4 : vp_in (x3 + 4) L) (h_5 : vp_in (x3 + 5) L) (hf : cells ≤ room_1.cells ∧ slots ≤ room_1.slots) (hst : St_keep Rel) (hR : Rel σ) (hP : va_P D vwCl (wG K ad σ) H) (hS : va_S (GA ad) s.heap H locs)
    (kk : ∀ (σ' : GS) (H1 : Heap) (locs1 : List Loc), Rel σ' → va_P D vwCl (wG K ad σ') H1 → va_S (GA ad) s.heap H1 locs1 → W p l e room_1 s m #[Value.ref b] below meth c H1 locs1 cells slots Q (F0 m 1725 ls [])) : W p l e room_1 s m #[Value.ref b] below meth c H locs cells slots Q (F0 m 774 ls []) := by
  obtain ⟨hx, hb, -, hown, hts, -, -, -, -, hj⟩ := id hC
  obtain ⟨r, σ1, σ2, hk1, hk2, hR2⟩ := hst σ hR (xs (x3 + 1).toNatClampNeg)
  refine lv_aload_n hx hb d_L_law_774 rfl (lv_at hl 1 rfl) ?_
  refine lv_aload_n hx hb d_L_law_775 rfl (lv_at hl 0 rfl) ?_
  refine lv_iload_n hx hb d_L_law_776 rfl (lv_at hl 3 rfl) ?_
  refine lv_iconst (v := 1) hx hb d_L_law_777 (by decide) ?_
  refine lv_iadd hx hb d_L_law_778 ?_
  refine va_sld hx hb hX hbl hbA hS h_1 d_L_law_779 ?_
  refine g_calli hS (g_runV (b := 0) (As := [.int (xs (x3 + 1).toNatClampNeg)]) (rest := []) hC hP (c_X_keep hj hk1) (rkl (by decide) (by decide)) nm_X_keep cd_X_keep it_WideTown ml_L_81 im_X_keep sl_X_keep o_0 co_X rfl hl.1 rfl (Nat.le_of_ble_eq_true rfl) d_L_law_780 hf) (fun H locs hP hS => ?_)
  refine lv_aload_n hx hb d_L_law_783 rfl (lv_at hl 2 rfl) ?_
  refine lv_aload_n hx hb d_L_law_784 rfl (lv_at hl 0 rfl) ?_
  refine lv_iload_n hx hb d_L_law_785 rfl (lv_at hl 3 rfl) ?_
  refine lv_iconst (v := 1) hx hb d_L_law_786 (by decide) ?_
  refine lv_iadd hx hb d_L_law_787 ?_
  refine va_sld hx hb hX hbl hbA hS h_1 d_L_law_788 ?_
  refine g_calli hS (g_runV (b := 63) (As := [.int (xs (x3 + 1).toNatClampNeg)]) (rest := [.int r]) hC hP (c_M_keep hj hk2) (rkl (by decide) (by decide)) nm_M_keep cd_M_keep it_WideTownModel ml_L_84 im_M_keep sl_M_keep o_63 co_M rfl hl.1 rfl (Nat.le_of_ble_eq_true rfl) d_L_law_789 hf) (fun H locs hP hS => ?_)
  exact lv_icmp_eq (tgt := 1725) hx hb d_L_law_792 (by decide) (fun _ => kk _ _ _ hR2 hP hS) (fun hc => absurd rfl hc)
set_option maxHeartbeats 4000000 in
theorem lc_on {ls : Array Slot} (hl : lv_has ls 4 [(0, .ref b), (1, .ref (ad 0)), (2, .ref (ad 63)), (3, .int x3)]) (hC : Ctx p s m #[Value.ref b] meth c D K ad "WideTownLaw" code 4 ret) (hX : va_X b L xs s s.heap) (hbl : b < s.heap.size) (hbA : ¬ GA ad b) (h_1 : vp_in (x3 + 1) L) (h_2 : vp_in (x3 + 2) L) (h_3 : vp_in (x3 + 3) L) (h_4 : vp_in (x3 + 4) L) (h_5 : vp_in (x3 + 5) L) (hf : cells ≤ room_1.cells ∧ slots ≤ room_1.slots) (hst : St_on Rel) (hR : Rel σ) (hP : va_P D vwCl (wG K ad σ) H) (hS : va_S (GA ad) s.heap H locs)
    (kk : ∀ (σ' : GS) (H1 : Heap) (locs1 : List Loc), Rel σ' → va_P D vwCl (wG K ad σ') H1 → va_S (GA ad) s.heap H1 locs1 → W p l e room_1 s m #[Value.ref b] below meth c H1 locs1 cells slots Q (F0 m 1725 ls [])) : W p l e room_1 s m #[Value.ref b] below meth c H locs cells slots Q (F0 m 797 ls []) := by
  obtain ⟨hx, hb, -, hown, hts, -, -, -, -, hj⟩ := id hC
  obtain ⟨r, σ1, σ2, hk1, hk2, hR2⟩ := hst σ hR (xs (x3 + 1).toNatClampNeg)
  refine lv_aload_n hx hb d_L_law_797 rfl (lv_at hl 1 rfl) ?_
  refine lv_aload_n hx hb d_L_law_798 rfl (lv_at hl 0 rfl) ?_
  refine lv_iload_n hx hb d_L_law_799 rfl (lv_at hl 3 rfl) ?_
  refine lv_iconst (v := 1) hx hb d_L_law_800 (by decide) ?_
  refine lv_iadd hx hb d_L_law_801 ?_
  refine va_sld hx hb hX hbl hbA hS h_1 d_L_law_802 ?_
  refine g_calli hS (g_runV (b := 0) (As := [.int (xs (x3 + 1).toNatClampNeg)]) (rest := []) hC hP (c_X_on hj hk1) (rkl (by decide) (by decide)) nm_X_on cd_X_on it_WideTown ml_L_85 im_X_on sl_X_on o_0 co_X rfl hl.1 rfl (Nat.le_of_ble_eq_true rfl) d_L_law_803 hf) (fun H locs hP hS => ?_)
  refine lv_aload_n hx hb d_L_law_806 rfl (lv_at hl 2 rfl) ?_
  refine lv_aload_n hx hb d_L_law_807 rfl (lv_at hl 0 rfl) ?_
  refine lv_iload_n hx hb d_L_law_808 rfl (lv_at hl 3 rfl) ?_
  refine lv_iconst (v := 1) hx hb d_L_law_809 (by decide) ?_
  refine lv_iadd hx hb d_L_law_810 ?_
  refine va_sld hx hb hX hbl hbA hS h_1 d_L_law_811 ?_
  refine g_calli hS (g_runV (b := 63) (As := [.int (xs (x3 + 1).toNatClampNeg)]) (rest := [.int r]) hC hP (c_M_on hj hk2) (rkl (by decide) (by decide)) nm_M_on cd_M_on it_WideTownModel ml_L_88 im_M_on sl_M_on o_63 co_M rfl hl.1 rfl (Nat.le_of_ble_eq_true rfl) d_L_law_812 hf) (fun H locs hP hS => ?_)
  exact lv_icmp_eq (tgt := 1725) hx hb d_L_law_815 (by decide) (fun _ => kk _ _ _ hR2 hP hS) (fun hc => absurd rfl hc)
set_option maxHeartbeats 4000000 in
theorem lc_plain {ls : Array Slot} (hl : lv_has ls 4 [(0, .ref b), (1, .ref (ad 0)), (2, .ref (ad 63)), (3, .int x3)]) (hC : Ctx p s m #[Value.ref b] meth c D K ad "WideTownLaw" code 4 ret) (hX : va_X b L xs s s.heap) (hbl : b < s.heap.size) (hbA : ¬ GA ad b) (h_1 : vp_in (x3 + 1) L) (h_2 : vp_in (x3 + 2) L) (h_3 : vp_in (x3 + 3) L) (h_4 : vp_in (x3 + 4) L) (h_5 : vp_in (x3 + 5) L) (hf : cells ≤ room_1.cells ∧ slots ≤ room_1.slots) (hst : St_plain Rel) (hR : Rel σ) (hP : va_P D vwCl (wG K ad σ) H) (hS : va_S (GA ad) s.heap H locs)
    (kk : ∀ (σ' : GS) (H1 : Heap) (locs1 : List Loc), Rel σ' → va_P D vwCl (wG K ad σ') H1 → va_S (GA ad) s.heap H1 locs1 → W p l e room_1 s m #[Value.ref b] below meth c H1 locs1 cells slots Q (F0 m 1725 ls [])) : W p l e room_1 s m #[Value.ref b] below meth c H locs cells slots Q (F0 m 820 ls []) := by
  obtain ⟨hx, hb, -, hown, hts, -, -, -, -, hj⟩ := id hC
  obtain ⟨r, σ1, σ2, hk1, hk2, hR2⟩ := hst σ hR (xs (x3 + 1).toNatClampNeg)
  refine lv_aload_n hx hb d_L_law_820 rfl (lv_at hl 1 rfl) ?_
  refine lv_aload_n hx hb d_L_law_821 rfl (lv_at hl 0 rfl) ?_
  refine lv_iload_n hx hb d_L_law_822 rfl (lv_at hl 3 rfl) ?_
  refine lv_iconst (v := 1) hx hb d_L_law_823 (by decide) ?_
  refine lv_iadd hx hb d_L_law_824 ?_
  refine va_sld hx hb hX hbl hbA hS h_1 d_L_law_825 ?_
  refine g_calli hS (g_runV (b := 0) (As := [.int (xs (x3 + 1).toNatClampNeg)]) (rest := []) hC hP (c_X_plain hj hk1) (rkl (by decide) (by decide)) nm_X_plain cd_X_plain it_WideTown ml_L_89 im_X_plain sl_X_plain o_0 co_X rfl hl.1 rfl (Nat.le_of_ble_eq_true rfl) d_L_law_826 hf) (fun H locs hP hS => ?_)
  refine lv_aload_n hx hb d_L_law_829 rfl (lv_at hl 2 rfl) ?_
  refine lv_aload_n hx hb d_L_law_830 rfl (lv_at hl 0 rfl) ?_
  refine lv_iload_n hx hb d_L_law_831 rfl (lv_at hl 3 rfl) ?_
  refine lv_iconst (v := 1) hx hb d_L_law_832 (by decide) ?_
  refine lv_iadd hx hb d_L_law_833 ?_
  refine va_sld hx hb hX hbl hbA hS h_1 d_L_law_834 ?_
  refine g_calli hS (g_runV (b := 63) (As := [.int (xs (x3 + 1).toNatClampNeg)]) (rest := [.int r]) hC hP (c_M_plain hj hk2) (rkl (by decide) (by decide)) nm_M_plain cd_M_plain it_WideTownModel ml_L_92 im_M_plain sl_M_plain o_63 co_M rfl hl.1 rfl (Nat.le_of_ble_eq_true rfl) d_L_law_835 hf) (fun H locs hP hS => ?_)
  exact lv_icmp_eq (tgt := 1725) hx hb d_L_law_838 (by decide) (fun _ => kk _ _ _ hR2 hP hS) (fun hc => absurd rfl hc)
set_option maxHeartbeats 4000000 in
theorem lc_join {ls : Array Slot} (hl : lv_has ls 4 [(0, .ref b), (1, .ref (ad 0)), (2, .ref (ad 63)), (3, .int x3)]) (hC : Ctx p s m #[Value.ref b] meth c D K ad "WideTownLaw" code 4 ret) (hX : va_X b L xs s s.heap) (hbl : b < s.heap.size) (hbA : ¬ GA ad b) (h_1 : vp_in (x3 + 1) L) (h_2 : vp_in (x3 + 2) L) (h_3 : vp_in (x3 + 3) L) (h_4 : vp_in (x3 + 4) L) (h_5 : vp_in (x3 + 5) L) (hf : cells ≤ room_1.cells ∧ slots ≤ room_1.slots) (hst : St_join Rel) (hR : Rel σ) (hP : va_P D vwCl (wG K ad σ) H) (hS : va_S (GA ad) s.heap H locs)
    (kk : ∀ (σ' : GS) (H1 : Heap) (locs1 : List Loc), Rel σ' → va_P D vwCl (wG K ad σ') H1 → va_S (GA ad) s.heap H1 locs1 → W p l e room_1 s m #[Value.ref b] below meth c H1 locs1 cells slots Q (F0 m 1725 ls [])) : W p l e room_1 s m #[Value.ref b] below meth c H locs cells slots Q (F0 m 843 ls []) := by
  obtain ⟨hx, hb, -, hown, hts, -, -, -, -, hj⟩ := id hC
  obtain ⟨r, σ1, σ2, hk1, hk2, hR2⟩ := hst σ hR (xs (x3 + 1).toNatClampNeg) (xs (x3 + 2).toNatClampNeg)
  refine lv_aload_n hx hb d_L_law_843 rfl (lv_at hl 1 rfl) ?_
  refine lv_aload_n hx hb d_L_law_844 rfl (lv_at hl 0 rfl) ?_
  refine lv_iload_n hx hb d_L_law_845 rfl (lv_at hl 3 rfl) ?_
  refine lv_iconst (v := 1) hx hb d_L_law_846 (by decide) ?_
  refine lv_iadd hx hb d_L_law_847 ?_
  refine va_sld hx hb hX hbl hbA hS h_1 d_L_law_848 ?_
  refine lv_aload_n hx hb d_L_law_849 rfl (lv_at hl 0 rfl) ?_
  refine lv_iload_n hx hb d_L_law_850 rfl (lv_at hl 3 rfl) ?_
  refine lv_iconst (v := 2) hx hb d_L_law_851 (by decide) ?_
  refine lv_iadd hx hb d_L_law_852 ?_
  refine va_sld hx hb hX hbl hbA hS h_2 d_L_law_853 ?_
  refine g_calli hS (g_runV (b := 0) (As := [.int (xs (x3 + 1).toNatClampNeg), .int (xs (x3 + 2).toNatClampNeg)]) (rest := []) hC hP (c_X_join hj hk1) (rkl (by decide) (by decide)) nm_X_join cd_X_join it_WideTown ml_L_93 im_X_join sl_X_join o_0 co_X rfl hl.1 rfl (Nat.le_of_ble_eq_true rfl) d_L_law_854 hf) (fun H locs hP hS => ?_)
  refine lv_aload_n hx hb d_L_law_857 rfl (lv_at hl 2 rfl) ?_
  refine lv_aload_n hx hb d_L_law_858 rfl (lv_at hl 0 rfl) ?_
  refine lv_iload_n hx hb d_L_law_859 rfl (lv_at hl 3 rfl) ?_
  refine lv_iconst (v := 1) hx hb d_L_law_860 (by decide) ?_
  refine lv_iadd hx hb d_L_law_861 ?_
  refine va_sld hx hb hX hbl hbA hS h_1 d_L_law_862 ?_
  refine lv_aload_n hx hb d_L_law_863 rfl (lv_at hl 0 rfl) ?_
  refine lv_iload_n hx hb d_L_law_864 rfl (lv_at hl 3 rfl) ?_
  refine lv_iconst (v := 2) hx hb d_L_law_865 (by decide) ?_
  refine lv_iadd hx hb d_L_law_866 ?_
  refine va_sld hx hb hX hbl hbA hS h_2 d_L_law_867 ?_
  refine g_calli hS (g_runV (b := 63) (As := [.int (xs (x3 + 1).toNatClampNeg), .int (xs (x3 + 2).toNatClampNeg)]) (rest := [.int r]) hC hP (c_M_join hj hk2) (rkl (by decide) (by decide)) nm_M_join cd_M_join it_WideTownModel ml_L_96 im_M_join sl_M_join o_63 co_M rfl hl.1 rfl (Nat.le_of_ble_eq_true rfl) d_L_law_868 hf) (fun H locs hP hS => ?_)
  exact lv_icmp_eq (tgt := 1725) hx hb d_L_law_871 (by decide) (fun _ => kk _ _ _ hR2 hP hS) (fun hc => absurd rfl hc)
set_option maxHeartbeats 4000000 in
theorem lc_back {ls : Array Slot} (hl : lv_has ls 4 [(0, .ref b), (1, .ref (ad 0)), (2, .ref (ad 63)), (3, .int x3)]) (hC : Ctx p s m #[Value.ref b] meth c D K ad "WideTownLaw" code 4 ret) (hX : va_X b L xs s s.heap) (hbl : b < s.heap.size) (hbA : ¬ GA ad b) (h_1 : vp_in (x3 + 1) L) (h_2 : vp_in (x3 + 2) L) (h_3 : vp_in (x3 + 3) L) (h_4 : vp_in (x3 + 4) L) (h_5 : vp_in (x3 + 5) L) (hf : cells ≤ room_1.cells ∧ slots ≤ room_1.slots) (hst : St_back Rel) (hR : Rel σ) (hP : va_P D vwCl (wG K ad σ) H) (hS : va_S (GA ad) s.heap H locs)
    (kk : ∀ (σ' : GS) (H1 : Heap) (locs1 : List Loc), Rel σ' → va_P D vwCl (wG K ad σ') H1 → va_S (GA ad) s.heap H1 locs1 → W p l e room_1 s m #[Value.ref b] below meth c H1 locs1 cells slots Q (F0 m 1725 ls [])) : W p l e room_1 s m #[Value.ref b] below meth c H locs cells slots Q (F0 m 876 ls []) := by
  obtain ⟨hx, hb, -, hown, hts, -, -, -, -, hj⟩ := id hC
  obtain ⟨r, σ1, σ2, hk1, hk2, hR2⟩ := hst σ hR (xs (x3 + 1).toNatClampNeg)
  refine lv_aload_n hx hb d_L_law_876 rfl (lv_at hl 1 rfl) ?_
  refine lv_aload_n hx hb d_L_law_877 rfl (lv_at hl 0 rfl) ?_
  refine lv_iload_n hx hb d_L_law_878 rfl (lv_at hl 3 rfl) ?_
  refine lv_iconst (v := 1) hx hb d_L_law_879 (by decide) ?_
  refine lv_iadd hx hb d_L_law_880 ?_
  refine va_sld hx hb hX hbl hbA hS h_1 d_L_law_881 ?_
  refine g_calli hS (g_runV (b := 0) (As := [.int (xs (x3 + 1).toNatClampNeg)]) (rest := []) hC hP (c_X_back hj hk1) (rkl (by decide) (by decide)) nm_X_back cd_X_back it_WideTown ml_L_97 im_X_back sl_X_back o_0 co_X rfl hl.1 rfl (Nat.le_of_ble_eq_true rfl) d_L_law_882 hf) (fun H locs hP hS => ?_)
  refine lv_aload_n hx hb d_L_law_885 rfl (lv_at hl 2 rfl) ?_
  refine lv_aload_n hx hb d_L_law_886 rfl (lv_at hl 0 rfl) ?_
  refine lv_iload_n hx hb d_L_law_887 rfl (lv_at hl 3 rfl) ?_
  refine lv_iconst (v := 1) hx hb d_L_law_888 (by decide) ?_
  refine lv_iadd hx hb d_L_law_889 ?_
  refine va_sld hx hb hX hbl hbA hS h_1 d_L_law_890 ?_
  refine g_calli hS (g_runV (b := 63) (As := [.int (xs (x3 + 1).toNatClampNeg)]) (rest := [.int r]) hC hP (c_M_back hj hk2) (rkl (by decide) (by decide)) nm_M_back cd_M_back it_WideTownModel ml_L_100 im_M_back sl_M_back o_63 co_M rfl hl.1 rfl (Nat.le_of_ble_eq_true rfl) d_L_law_891 hf) (fun H locs hP hS => ?_)
  exact lv_icmp_eq (tgt := 1725) hx hb d_L_law_894 (by decide) (fun _ => kk _ _ _ hR2 hP hS) (fun hc => absurd rfl hc)
set_option maxHeartbeats 4000000 in
theorem lc_far {ls : Array Slot} (hl : lv_has ls 4 [(0, .ref b), (1, .ref (ad 0)), (2, .ref (ad 63)), (3, .int x3)]) (hC : Ctx p s m #[Value.ref b] meth c D K ad "WideTownLaw" code 4 ret) (hX : va_X b L xs s s.heap) (hbl : b < s.heap.size) (hbA : ¬ GA ad b) (h_1 : vp_in (x3 + 1) L) (h_2 : vp_in (x3 + 2) L) (h_3 : vp_in (x3 + 3) L) (h_4 : vp_in (x3 + 4) L) (h_5 : vp_in (x3 + 5) L) (hf : cells ≤ room_1.cells ∧ slots ≤ room_1.slots) (hst : St_far Rel) (hR : Rel σ) (hP : va_P D vwCl (wG K ad σ) H) (hS : va_S (GA ad) s.heap H locs)
    (kk : ∀ (σ' : GS) (H1 : Heap) (locs1 : List Loc), Rel σ' → va_P D vwCl (wG K ad σ') H1 → va_S (GA ad) s.heap H1 locs1 → W p l e room_1 s m #[Value.ref b] below meth c H1 locs1 cells slots Q (F0 m 1725 ls [])) : W p l e room_1 s m #[Value.ref b] below meth c H locs cells slots Q (F0 m 899 ls []) := by
  obtain ⟨hx, hb, -, hown, hts, -, -, -, -, hj⟩ := id hC
  obtain ⟨r, σ1, σ2, hk1, hk2, hR2⟩ := hst σ hR (xs (x3 + 1).toNatClampNeg) (xs (x3 + 2).toNatClampNeg)
  refine lv_aload_n hx hb d_L_law_899 rfl (lv_at hl 1 rfl) ?_
  refine lv_aload_n hx hb d_L_law_900 rfl (lv_at hl 0 rfl) ?_
  refine lv_iload_n hx hb d_L_law_901 rfl (lv_at hl 3 rfl) ?_
  refine lv_iconst (v := 1) hx hb d_L_law_902 (by decide) ?_
  refine lv_iadd hx hb d_L_law_903 ?_
  refine va_sld hx hb hX hbl hbA hS h_1 d_L_law_904 ?_
  refine lv_aload_n hx hb d_L_law_905 rfl (lv_at hl 0 rfl) ?_
  refine lv_iload_n hx hb d_L_law_906 rfl (lv_at hl 3 rfl) ?_
  refine lv_iconst (v := 2) hx hb d_L_law_907 (by decide) ?_
  refine lv_iadd hx hb d_L_law_908 ?_
  refine va_sld hx hb hX hbl hbA hS h_2 d_L_law_909 ?_
  refine g_calli hS (g_runV (b := 0) (As := [.int (xs (x3 + 1).toNatClampNeg), .int (xs (x3 + 2).toNatClampNeg)]) (rest := []) hC hP (c_X_far hj hk1) (rkl (by decide) (by decide)) nm_X_far cd_X_far it_WideTown ml_L_101 im_X_far sl_X_far o_0 co_X rfl hl.1 rfl (Nat.le_of_ble_eq_true rfl) d_L_law_910 hf) (fun H locs hP hS => ?_)
  refine lv_aload_n hx hb d_L_law_913 rfl (lv_at hl 2 rfl) ?_
  refine lv_aload_n hx hb d_L_law_914 rfl (lv_at hl 0 rfl) ?_
  refine lv_iload_n hx hb d_L_law_915 rfl (lv_at hl 3 rfl) ?_
  refine lv_iconst (v := 1) hx hb d_L_law_916 (by decide) ?_
  refine lv_iadd hx hb d_L_law_917 ?_
  refine va_sld hx hb hX hbl hbA hS h_1 d_L_law_918 ?_
  refine lv_aload_n hx hb d_L_law_919 rfl (lv_at hl 0 rfl) ?_
  refine lv_iload_n hx hb d_L_law_920 rfl (lv_at hl 3 rfl) ?_
  refine lv_iconst (v := 2) hx hb d_L_law_921 (by decide) ?_
  refine lv_iadd hx hb d_L_law_922 ?_
  refine va_sld hx hb hX hbl hbA hS h_2 d_L_law_923 ?_
  refine g_calli hS (g_runV (b := 63) (As := [.int (xs (x3 + 1).toNatClampNeg), .int (xs (x3 + 2).toNatClampNeg)]) (rest := [.int r]) hC hP (c_M_far hj hk2) (rkl (by decide) (by decide)) nm_M_far cd_M_far it_WideTownModel ml_L_104 im_M_far sl_M_far o_63 co_M rfl hl.1 rfl (Nat.le_of_ble_eq_true rfl) d_L_law_924 hf) (fun H locs hP hS => ?_)
  exact lv_icmp_eq (tgt := 1725) hx hb d_L_law_927 (by decide) (fun _ => kk _ _ _ hR2 hP hS) (fun hc => absurd rfl hc)
set_option maxHeartbeats 4000000 in
theorem lc_ends {ls : Array Slot} (hl : lv_has ls 4 [(0, .ref b), (1, .ref (ad 0)), (2, .ref (ad 63)), (3, .int x3)]) (hC : Ctx p s m #[Value.ref b] meth c D K ad "WideTownLaw" code 4 ret) (hX : va_X b L xs s s.heap) (hbl : b < s.heap.size) (hbA : ¬ GA ad b) (h_1 : vp_in (x3 + 1) L) (h_2 : vp_in (x3 + 2) L) (h_3 : vp_in (x3 + 3) L) (h_4 : vp_in (x3 + 4) L) (h_5 : vp_in (x3 + 5) L) (hf : cells ≤ room_1.cells ∧ slots ≤ room_1.slots) (hst : St_ends Rel) (hR : Rel σ) (hP : va_P D vwCl (wG K ad σ) H) (hS : va_S (GA ad) s.heap H locs)
    (kk : ∀ (σ' : GS) (H1 : Heap) (locs1 : List Loc), Rel σ' → va_P D vwCl (wG K ad σ') H1 → va_S (GA ad) s.heap H1 locs1 → W p l e room_1 s m #[Value.ref b] below meth c H1 locs1 cells slots Q (F0 m 1725 ls [])) : W p l e room_1 s m #[Value.ref b] below meth c H locs cells slots Q (F0 m 932 ls []) := by
  obtain ⟨hx, hb, -, hown, hts, -, -, -, -, hj⟩ := id hC
  obtain ⟨r, σ1, σ2, hk1, hk2, hR2⟩ := hst σ hR (xs (x3 + 1).toNatClampNeg)
  refine lv_aload_n hx hb d_L_law_932 rfl (lv_at hl 1 rfl) ?_
  refine lv_aload_n hx hb d_L_law_933 rfl (lv_at hl 0 rfl) ?_
  refine lv_iload_n hx hb d_L_law_934 rfl (lv_at hl 3 rfl) ?_
  refine lv_iconst (v := 1) hx hb d_L_law_935 (by decide) ?_
  refine lv_iadd hx hb d_L_law_936 ?_
  refine va_sld hx hb hX hbl hbA hS h_1 d_L_law_937 ?_
  refine g_calli hS (g_runV (b := 0) (As := [.int (xs (x3 + 1).toNatClampNeg)]) (rest := []) hC hP (c_X_ends hj hk1) (rkl (by decide) (by decide)) nm_X_ends cd_X_ends it_WideTown ml_L_105 im_X_ends sl_X_ends o_0 co_X rfl hl.1 rfl (Nat.le_of_ble_eq_true rfl) d_L_law_938 hf) (fun H locs hP hS => ?_)
  refine lv_aload_n hx hb d_L_law_941 rfl (lv_at hl 2 rfl) ?_
  refine lv_aload_n hx hb d_L_law_942 rfl (lv_at hl 0 rfl) ?_
  refine lv_iload_n hx hb d_L_law_943 rfl (lv_at hl 3 rfl) ?_
  refine lv_iconst (v := 1) hx hb d_L_law_944 (by decide) ?_
  refine lv_iadd hx hb d_L_law_945 ?_
  refine va_sld hx hb hX hbl hbA hS h_1 d_L_law_946 ?_
  refine g_calli hS (g_runV (b := 63) (As := [.int (xs (x3 + 1).toNatClampNeg)]) (rest := [.int r]) hC hP (c_M_ends hj hk2) (rkl (by decide) (by decide)) nm_M_ends cd_M_ends it_WideTownModel ml_L_108 im_M_ends sl_M_ends o_63 co_M rfl hl.1 rfl (Nat.le_of_ble_eq_true rfl) d_L_law_947 hf) (fun H locs hP hS => ?_)
  exact lv_icmp_eq (tgt := 1725) hx hb d_L_law_950 (by decide) (fun _ => kk _ _ _ hR2 hP hS) (fun hc => absurd rfl hc)
set_option maxHeartbeats 4000000 in
theorem lc_begins {ls : Array Slot} (hl : lv_has ls 4 [(0, .ref b), (1, .ref (ad 0)), (2, .ref (ad 63)), (3, .int x3)]) (hC : Ctx p s m #[Value.ref b] meth c D K ad "WideTownLaw" code 4 ret) (hX : va_X b L xs s s.heap) (hbl : b < s.heap.size) (hbA : ¬ GA ad b) (h_1 : vp_in (x3 + 1) L) (h_2 : vp_in (x3 + 2) L) (h_3 : vp_in (x3 + 3) L) (h_4 : vp_in (x3 + 4) L) (h_5 : vp_in (x3 + 5) L) (hf : cells ≤ room_1.cells ∧ slots ≤ room_1.slots) (hst : St_begins Rel) (hR : Rel σ) (hP : va_P D vwCl (wG K ad σ) H) (hS : va_S (GA ad) s.heap H locs)
    (kk : ∀ (σ' : GS) (H1 : Heap) (locs1 : List Loc), Rel σ' → va_P D vwCl (wG K ad σ') H1 → va_S (GA ad) s.heap H1 locs1 → W p l e room_1 s m #[Value.ref b] below meth c H1 locs1 cells slots Q (F0 m 1725 ls [])) : W p l e room_1 s m #[Value.ref b] below meth c H locs cells slots Q (F0 m 955 ls []) := by
  obtain ⟨hx, hb, -, hown, hts, -, -, -, -, hj⟩ := id hC
  obtain ⟨r, σ1, σ2, hk1, hk2, hR2⟩ := hst σ hR (xs (x3 + 1).toNatClampNeg)
  refine lv_aload_n hx hb d_L_law_955 rfl (lv_at hl 1 rfl) ?_
  refine lv_aload_n hx hb d_L_law_956 rfl (lv_at hl 0 rfl) ?_
  refine lv_iload_n hx hb d_L_law_957 rfl (lv_at hl 3 rfl) ?_
  refine lv_iconst (v := 1) hx hb d_L_law_958 (by decide) ?_
  refine lv_iadd hx hb d_L_law_959 ?_
  refine va_sld hx hb hX hbl hbA hS h_1 d_L_law_960 ?_
  refine g_calli hS (g_runV (b := 0) (As := [.int (xs (x3 + 1).toNatClampNeg)]) (rest := []) hC hP (c_X_begins hj hk1) (rkl (by decide) (by decide)) nm_X_begins cd_X_begins it_WideTown ml_L_109 im_X_begins sl_X_begins o_0 co_X rfl hl.1 rfl (Nat.le_of_ble_eq_true rfl) d_L_law_961 hf) (fun H locs hP hS => ?_)
  refine lv_aload_n hx hb d_L_law_964 rfl (lv_at hl 2 rfl) ?_
  refine lv_aload_n hx hb d_L_law_965 rfl (lv_at hl 0 rfl) ?_
  refine lv_iload_n hx hb d_L_law_966 rfl (lv_at hl 3 rfl) ?_
  refine lv_iconst (v := 1) hx hb d_L_law_967 (by decide) ?_
  refine lv_iadd hx hb d_L_law_968 ?_
  refine va_sld hx hb hX hbl hbA hS h_1 d_L_law_969 ?_
  refine g_calli hS (g_runV (b := 63) (As := [.int (xs (x3 + 1).toNatClampNeg)]) (rest := [.int r]) hC hP (c_M_begins hj hk2) (rkl (by decide) (by decide)) nm_M_begins cd_M_begins it_WideTownModel ml_L_112 im_M_begins sl_M_begins o_63 co_M rfl hl.1 rfl (Nat.le_of_ble_eq_true rfl) d_L_law_970 hf) (fun H locs hP hS => ?_)
  exact lv_icmp_eq (tgt := 1725) hx hb d_L_law_973 (by decide) (fun _ => kk _ _ _ hR2 hP hS) (fun hc => absurd rfl hc)
set_option maxHeartbeats 4000000 in
theorem lc_ways {ls : Array Slot} (hl : lv_has ls 4 [(0, .ref b), (1, .ref (ad 0)), (2, .ref (ad 63)), (3, .int x3)]) (hC : Ctx p s m #[Value.ref b] meth c D K ad "WideTownLaw" code 4 ret) (hX : va_X b L xs s s.heap) (hbl : b < s.heap.size) (hbA : ¬ GA ad b) (h_1 : vp_in (x3 + 1) L) (h_2 : vp_in (x3 + 2) L) (h_3 : vp_in (x3 + 3) L) (h_4 : vp_in (x3 + 4) L) (h_5 : vp_in (x3 + 5) L) (hf : cells ≤ room_1.cells ∧ slots ≤ room_1.slots) (hst : St_ways Rel) (hR : Rel σ) (hP : va_P D vwCl (wG K ad σ) H) (hS : va_S (GA ad) s.heap H locs)
    (kk : ∀ (σ' : GS) (H1 : Heap) (locs1 : List Loc), Rel σ' → va_P D vwCl (wG K ad σ') H1 → va_S (GA ad) s.heap H1 locs1 → W p l e room_1 s m #[Value.ref b] below meth c H1 locs1 cells slots Q (F0 m 1725 ls [])) : W p l e room_1 s m #[Value.ref b] below meth c H locs cells slots Q (F0 m 978 ls []) := by
  obtain ⟨hx, hb, -, hown, hts, -, -, -, -, hj⟩ := id hC
  obtain ⟨r, σ1, σ2, hk1, hk2, hR2⟩ := hst σ hR (xs (x3 + 1).toNatClampNeg) (xs (x3 + 2).toNatClampNeg)
  refine lv_aload_n hx hb d_L_law_978 rfl (lv_at hl 1 rfl) ?_
  refine lv_aload_n hx hb d_L_law_979 rfl (lv_at hl 0 rfl) ?_
  refine lv_iload_n hx hb d_L_law_980 rfl (lv_at hl 3 rfl) ?_
  refine lv_iconst (v := 1) hx hb d_L_law_981 (by decide) ?_
  refine lv_iadd hx hb d_L_law_982 ?_
  refine va_sld hx hb hX hbl hbA hS h_1 d_L_law_983 ?_
  refine lv_aload_n hx hb d_L_law_984 rfl (lv_at hl 0 rfl) ?_
  refine lv_iload_n hx hb d_L_law_985 rfl (lv_at hl 3 rfl) ?_
  refine lv_iconst (v := 2) hx hb d_L_law_986 (by decide) ?_
  refine lv_iadd hx hb d_L_law_987 ?_
  refine va_sld hx hb hX hbl hbA hS h_2 d_L_law_988 ?_
  refine g_calli hS (g_runV (b := 0) (As := [.int (xs (x3 + 1).toNatClampNeg), .int (xs (x3 + 2).toNatClampNeg)]) (rest := []) hC hP (c_X_ways hj hk1) (rkl (by decide) (by decide)) nm_X_ways cd_X_ways it_WideTown ml_L_113 im_X_ways sl_X_ways o_0 co_X rfl hl.1 rfl (Nat.le_of_ble_eq_true rfl) d_L_law_989 hf) (fun H locs hP hS => ?_)
  refine lv_aload_n hx hb d_L_law_992 rfl (lv_at hl 2 rfl) ?_
  refine lv_aload_n hx hb d_L_law_993 rfl (lv_at hl 0 rfl) ?_
  refine lv_iload_n hx hb d_L_law_994 rfl (lv_at hl 3 rfl) ?_
  refine lv_iconst (v := 1) hx hb d_L_law_995 (by decide) ?_
  refine lv_iadd hx hb d_L_law_996 ?_
  refine va_sld hx hb hX hbl hbA hS h_1 d_L_law_997 ?_
  refine lv_aload_n hx hb d_L_law_998 rfl (lv_at hl 0 rfl) ?_
  refine lv_iload_n hx hb d_L_law_999 rfl (lv_at hl 3 rfl) ?_
  refine lv_iconst (v := 2) hx hb d_L_law_1000 (by decide) ?_
  refine lv_iadd hx hb d_L_law_1001 ?_
  refine va_sld hx hb hX hbl hbA hS h_2 d_L_law_1002 ?_
  refine g_calli hS (g_runV (b := 63) (As := [.int (xs (x3 + 1).toNatClampNeg), .int (xs (x3 + 2).toNatClampNeg)]) (rest := [.int r]) hC hP (c_M_ways hj hk2) (rkl (by decide) (by decide)) nm_M_ways cd_M_ways it_WideTownModel ml_L_116 im_M_ways sl_M_ways o_63 co_M rfl hl.1 rfl (Nat.le_of_ble_eq_true rfl) d_L_law_1003 hf) (fun H locs hP hS => ?_)
  exact lv_icmp_eq (tgt := 1725) hx hb d_L_law_1006 (by decide) (fun _ => kk _ _ _ hR2 hP hS) (fun hc => absurd rfl hc)
set_option maxHeartbeats 4000000 in
theorem lc_between {ls : Array Slot} (hl : lv_has ls 4 [(0, .ref b), (1, .ref (ad 0)), (2, .ref (ad 63)), (3, .int x3)]) (hC : Ctx p s m #[Value.ref b] meth c D K ad "WideTownLaw" code 4 ret) (hX : va_X b L xs s s.heap) (hbl : b < s.heap.size) (hbA : ¬ GA ad b) (h_1 : vp_in (x3 + 1) L) (h_2 : vp_in (x3 + 2) L) (h_3 : vp_in (x3 + 3) L) (h_4 : vp_in (x3 + 4) L) (h_5 : vp_in (x3 + 5) L) (hf : cells ≤ room_1.cells ∧ slots ≤ room_1.slots) (hst : St_between Rel) (hR : Rel σ) (hP : va_P D vwCl (wG K ad σ) H) (hS : va_S (GA ad) s.heap H locs)
    (kk : ∀ (σ' : GS) (H1 : Heap) (locs1 : List Loc), Rel σ' → va_P D vwCl (wG K ad σ') H1 → va_S (GA ad) s.heap H1 locs1 → W p l e room_1 s m #[Value.ref b] below meth c H1 locs1 cells slots Q (F0 m 1725 ls [])) : W p l e room_1 s m #[Value.ref b] below meth c H locs cells slots Q (F0 m 1011 ls []) := by
  obtain ⟨hx, hb, -, hown, hts, -, -, -, -, hj⟩ := id hC
  obtain ⟨r, σ1, σ2, hk1, hk2, hR2⟩ := hst σ hR (xs (x3 + 1).toNatClampNeg) (xs (x3 + 2).toNatClampNeg)
  refine lv_aload_n hx hb d_L_law_1011 rfl (lv_at hl 1 rfl) ?_
  refine lv_aload_n hx hb d_L_law_1012 rfl (lv_at hl 0 rfl) ?_
  refine lv_iload_n hx hb d_L_law_1013 rfl (lv_at hl 3 rfl) ?_
  refine lv_iconst (v := 1) hx hb d_L_law_1014 (by decide) ?_
  refine lv_iadd hx hb d_L_law_1015 ?_
  refine va_sld hx hb hX hbl hbA hS h_1 d_L_law_1016 ?_
  refine lv_aload_n hx hb d_L_law_1017 rfl (lv_at hl 0 rfl) ?_
  refine lv_iload_n hx hb d_L_law_1018 rfl (lv_at hl 3 rfl) ?_
  refine lv_iconst (v := 2) hx hb d_L_law_1019 (by decide) ?_
  refine lv_iadd hx hb d_L_law_1020 ?_
  refine va_sld hx hb hX hbl hbA hS h_2 d_L_law_1021 ?_
  refine g_calli hS (g_runV (b := 0) (As := [.int (xs (x3 + 1).toNatClampNeg), .int (xs (x3 + 2).toNatClampNeg)]) (rest := []) hC hP (c_X_between hj hk1) (rkl (by decide) (by decide)) nm_X_between cd_X_between it_WideTown ml_L_117 im_X_between sl_X_between o_0 co_X rfl hl.1 rfl (Nat.le_of_ble_eq_true rfl) d_L_law_1022 hf) (fun H locs hP hS => ?_)
  refine lv_aload_n hx hb d_L_law_1025 rfl (lv_at hl 2 rfl) ?_
  refine lv_aload_n hx hb d_L_law_1026 rfl (lv_at hl 0 rfl) ?_
  refine lv_iload_n hx hb d_L_law_1027 rfl (lv_at hl 3 rfl) ?_
  refine lv_iconst (v := 1) hx hb d_L_law_1028 (by decide) ?_
  refine lv_iadd hx hb d_L_law_1029 ?_
  refine va_sld hx hb hX hbl hbA hS h_1 d_L_law_1030 ?_
  refine lv_aload_n hx hb d_L_law_1031 rfl (lv_at hl 0 rfl) ?_
  refine lv_iload_n hx hb d_L_law_1032 rfl (lv_at hl 3 rfl) ?_
  refine lv_iconst (v := 2) hx hb d_L_law_1033 (by decide) ?_
  refine lv_iadd hx hb d_L_law_1034 ?_
  refine va_sld hx hb hX hbl hbA hS h_2 d_L_law_1035 ?_
  refine g_calli hS (g_runV (b := 63) (As := [.int (xs (x3 + 1).toNatClampNeg), .int (xs (x3 + 2).toNatClampNeg)]) (rest := [.int r]) hC hP (c_M_between hj hk2) (rkl (by decide) (by decide)) nm_M_between cd_M_between it_WideTownModel ml_L_120 im_M_between sl_M_between o_63 co_M rfl hl.1 rfl (Nat.le_of_ble_eq_true rfl) d_L_law_1036 hf) (fun H locs hP hS => ?_)
  exact lv_icmp_eq (tgt := 1725) hx hb d_L_law_1039 (by decide) (fun _ => kk _ _ _ hR2 hP hS) (fun hc => absurd rfl hc)
set_option maxHeartbeats 4000000 in
theorem lc_lies {ls : Array Slot} (hl : lv_has ls 4 [(0, .ref b), (1, .ref (ad 0)), (2, .ref (ad 63)), (3, .int x3)]) (hC : Ctx p s m #[Value.ref b] meth c D K ad "WideTownLaw" code 4 ret) (hX : va_X b L xs s s.heap) (hbl : b < s.heap.size) (hbA : ¬ GA ad b) (h_1 : vp_in (x3 + 1) L) (h_2 : vp_in (x3 + 2) L) (h_3 : vp_in (x3 + 3) L) (h_4 : vp_in (x3 + 4) L) (h_5 : vp_in (x3 + 5) L) (hf : cells ≤ room_1.cells ∧ slots ≤ room_1.slots) (hst : St_lies Rel) (hR : Rel σ) (hP : va_P D vwCl (wG K ad σ) H) (hS : va_S (GA ad) s.heap H locs)
    (kk : ∀ (σ' : GS) (H1 : Heap) (locs1 : List Loc), Rel σ' → va_P D vwCl (wG K ad σ') H1 → va_S (GA ad) s.heap H1 locs1 → W p l e room_1 s m #[Value.ref b] below meth c H1 locs1 cells slots Q (F0 m 1725 ls [])) : W p l e room_1 s m #[Value.ref b] below meth c H locs cells slots Q (F0 m 1044 ls []) := by
  obtain ⟨hx, hb, -, hown, hts, -, -, -, -, hj⟩ := id hC
  obtain ⟨r, σ1, σ2, hk1, hk2, hR2⟩ := hst σ hR (xs (x3 + 1).toNatClampNeg) (xs (x3 + 2).toNatClampNeg) (xs (x3 + 3).toNatClampNeg)
  refine lv_aload_n hx hb d_L_law_1044 rfl (lv_at hl 1 rfl) ?_
  refine lv_aload_n hx hb d_L_law_1045 rfl (lv_at hl 0 rfl) ?_
  refine lv_iload_n hx hb d_L_law_1046 rfl (lv_at hl 3 rfl) ?_
  refine lv_iconst (v := 1) hx hb d_L_law_1047 (by decide) ?_
  refine lv_iadd hx hb d_L_law_1048 ?_
  refine va_sld hx hb hX hbl hbA hS h_1 d_L_law_1049 ?_
  refine lv_aload_n hx hb d_L_law_1050 rfl (lv_at hl 0 rfl) ?_
  refine lv_iload_n hx hb d_L_law_1051 rfl (lv_at hl 3 rfl) ?_
  refine lv_iconst (v := 2) hx hb d_L_law_1052 (by decide) ?_
  refine lv_iadd hx hb d_L_law_1053 ?_
  refine va_sld hx hb hX hbl hbA hS h_2 d_L_law_1054 ?_
  refine lv_aload_n hx hb d_L_law_1055 rfl (lv_at hl 0 rfl) ?_
  refine lv_iload_n hx hb d_L_law_1056 rfl (lv_at hl 3 rfl) ?_
  refine lv_iconst (v := 3) hx hb d_L_law_1057 (by decide) ?_
  refine lv_iadd hx hb d_L_law_1058 ?_
  refine va_sld hx hb hX hbl hbA hS h_3 d_L_law_1059 ?_
  refine g_calli hS (g_runV (b := 0) (As := [.int (xs (x3 + 1).toNatClampNeg), .int (xs (x3 + 2).toNatClampNeg), .int (xs (x3 + 3).toNatClampNeg)]) (rest := []) hC hP (c_X_lies hj hk1) (rkl (by decide) (by decide)) nm_X_lies cd_X_lies it_WideTown ml_L_121 im_X_lies sl_X_lies o_0 co_X rfl hl.1 rfl (Nat.le_of_ble_eq_true rfl) d_L_law_1060 hf) (fun H locs hP hS => ?_)
  refine lv_aload_n hx hb d_L_law_1063 rfl (lv_at hl 2 rfl) ?_
  refine lv_aload_n hx hb d_L_law_1064 rfl (lv_at hl 0 rfl) ?_
  refine lv_iload_n hx hb d_L_law_1065 rfl (lv_at hl 3 rfl) ?_
  refine lv_iconst (v := 1) hx hb d_L_law_1066 (by decide) ?_
  refine lv_iadd hx hb d_L_law_1067 ?_
  refine va_sld hx hb hX hbl hbA hS h_1 d_L_law_1068 ?_
  refine lv_aload_n hx hb d_L_law_1069 rfl (lv_at hl 0 rfl) ?_
  refine lv_iload_n hx hb d_L_law_1070 rfl (lv_at hl 3 rfl) ?_
  refine lv_iconst (v := 2) hx hb d_L_law_1071 (by decide) ?_
  refine lv_iadd hx hb d_L_law_1072 ?_
  refine va_sld hx hb hX hbl hbA hS h_2 d_L_law_1073 ?_
  refine lv_aload_n hx hb d_L_law_1074 rfl (lv_at hl 0 rfl) ?_
  refine lv_iload_n hx hb d_L_law_1075 rfl (lv_at hl 3 rfl) ?_
  refine lv_iconst (v := 3) hx hb d_L_law_1076 (by decide) ?_
  refine lv_iadd hx hb d_L_law_1077 ?_
  refine va_sld hx hb hX hbl hbA hS h_3 d_L_law_1078 ?_
  refine g_calli hS (g_runV (b := 63) (As := [.int (xs (x3 + 1).toNatClampNeg), .int (xs (x3 + 2).toNatClampNeg), .int (xs (x3 + 3).toNatClampNeg)]) (rest := [.int r]) hC hP (c_M_lies hj hk2) (rkl (by decide) (by decide)) nm_M_lies cd_M_lies it_WideTownModel ml_L_124 im_M_lies sl_M_lies o_63 co_M rfl hl.1 rfl (Nat.le_of_ble_eq_true rfl) d_L_law_1079 hf) (fun H locs hP hS => ?_)
  exact lv_icmp_eq (tgt := 1725) hx hb d_L_law_1082 (by decide) (fun _ => kk _ _ _ hR2 hP hS) (fun hc => absurd rfl hc)
set_option maxHeartbeats 4000000 in
theorem lc_path {ls : Array Slot} (hl : lv_has ls 4 [(0, .ref b), (1, .ref (ad 0)), (2, .ref (ad 63)), (3, .int x3)]) (hC : Ctx p s m #[Value.ref b] meth c D K ad "WideTownLaw" code 4 ret) (hX : va_X b L xs s s.heap) (hbl : b < s.heap.size) (hbA : ¬ GA ad b) (h_1 : vp_in (x3 + 1) L) (h_2 : vp_in (x3 + 2) L) (h_3 : vp_in (x3 + 3) L) (h_4 : vp_in (x3 + 4) L) (h_5 : vp_in (x3 + 5) L) (hf : cells ≤ room_1.cells ∧ slots ≤ room_1.slots) (hst : St_path Rel) (hR : Rel σ) (hP : va_P D vwCl (wG K ad σ) H) (hS : va_S (GA ad) s.heap H locs)
    (kk : ∀ (σ' : GS) (H1 : Heap) (locs1 : List Loc), Rel σ' → va_P D vwCl (wG K ad σ') H1 → va_S (GA ad) s.heap H1 locs1 → W p l e room_1 s m #[Value.ref b] below meth c H1 locs1 cells slots Q (F0 m 1725 ls [])) : W p l e room_1 s m #[Value.ref b] below meth c H locs cells slots Q (F0 m 1087 ls []) := by
  obtain ⟨hx, hb, -, hown, hts, -, -, -, -, hj⟩ := id hC
  obtain ⟨r, σ1, σ2, hk1, hk2, hR2⟩ := hst σ hR (xs (x3 + 1).toNatClampNeg) (xs (x3 + 2).toNatClampNeg) (xs (x3 + 3).toNatClampNeg)
  refine lv_aload_n hx hb d_L_law_1087 rfl (lv_at hl 1 rfl) ?_
  refine lv_aload_n hx hb d_L_law_1088 rfl (lv_at hl 0 rfl) ?_
  refine lv_iload_n hx hb d_L_law_1089 rfl (lv_at hl 3 rfl) ?_
  refine lv_iconst (v := 1) hx hb d_L_law_1090 (by decide) ?_
  refine lv_iadd hx hb d_L_law_1091 ?_
  refine va_sld hx hb hX hbl hbA hS h_1 d_L_law_1092 ?_
  refine lv_aload_n hx hb d_L_law_1093 rfl (lv_at hl 0 rfl) ?_
  refine lv_iload_n hx hb d_L_law_1094 rfl (lv_at hl 3 rfl) ?_
  refine lv_iconst (v := 2) hx hb d_L_law_1095 (by decide) ?_
  refine lv_iadd hx hb d_L_law_1096 ?_
  refine va_sld hx hb hX hbl hbA hS h_2 d_L_law_1097 ?_
  refine lv_aload_n hx hb d_L_law_1098 rfl (lv_at hl 0 rfl) ?_
  refine lv_iload_n hx hb d_L_law_1099 rfl (lv_at hl 3 rfl) ?_
  refine lv_iconst (v := 3) hx hb d_L_law_1100 (by decide) ?_
  refine lv_iadd hx hb d_L_law_1101 ?_
  refine va_sld hx hb hX hbl hbA hS h_3 d_L_law_1102 ?_
  refine g_calli hS (g_runV (b := 0) (As := [.int (xs (x3 + 1).toNatClampNeg), .int (xs (x3 + 2).toNatClampNeg), .int (xs (x3 + 3).toNatClampNeg)]) (rest := []) hC hP (c_X_path hj hk1) (rkl (by decide) (by decide)) nm_X_path cd_X_path it_WideTown ml_L_125 im_X_path sl_X_path o_0 co_X rfl hl.1 rfl (Nat.le_of_ble_eq_true rfl) d_L_law_1103 hf) (fun H locs hP hS => ?_)
  refine lv_aload_n hx hb d_L_law_1106 rfl (lv_at hl 2 rfl) ?_
  refine lv_aload_n hx hb d_L_law_1107 rfl (lv_at hl 0 rfl) ?_
  refine lv_iload_n hx hb d_L_law_1108 rfl (lv_at hl 3 rfl) ?_
  refine lv_iconst (v := 1) hx hb d_L_law_1109 (by decide) ?_
  refine lv_iadd hx hb d_L_law_1110 ?_
  refine va_sld hx hb hX hbl hbA hS h_1 d_L_law_1111 ?_
  refine lv_aload_n hx hb d_L_law_1112 rfl (lv_at hl 0 rfl) ?_
  refine lv_iload_n hx hb d_L_law_1113 rfl (lv_at hl 3 rfl) ?_
  refine lv_iconst (v := 2) hx hb d_L_law_1114 (by decide) ?_
  refine lv_iadd hx hb d_L_law_1115 ?_
  refine va_sld hx hb hX hbl hbA hS h_2 d_L_law_1116 ?_
  refine lv_aload_n hx hb d_L_law_1117 rfl (lv_at hl 0 rfl) ?_
  refine lv_iload_n hx hb d_L_law_1118 rfl (lv_at hl 3 rfl) ?_
  refine lv_iconst (v := 3) hx hb d_L_law_1119 (by decide) ?_
  refine lv_iadd hx hb d_L_law_1120 ?_
  refine va_sld hx hb hX hbl hbA hS h_3 d_L_law_1121 ?_
  refine g_calli hS (g_runV (b := 63) (As := [.int (xs (x3 + 1).toNatClampNeg), .int (xs (x3 + 2).toNatClampNeg), .int (xs (x3 + 3).toNatClampNeg)]) (rest := [.int r]) hC hP (c_M_path hj hk2) (rkl (by decide) (by decide)) nm_M_path cd_M_path it_WideTownModel ml_L_128 im_M_path sl_M_path o_63 co_M rfl hl.1 rfl (Nat.le_of_ble_eq_true rfl) d_L_law_1122 hf) (fun H locs hP hS => ?_)
  exact lv_icmp_eq (tgt := 1725) hx hb d_L_law_1125 (by decide) (fun _ => kk _ _ _ hR2 hP hS) (fun hc => absurd rfl hc)
set_option maxHeartbeats 4000000 in
theorem lc_thin {ls : Array Slot} (hl : lv_has ls 4 [(0, .ref b), (1, .ref (ad 0)), (2, .ref (ad 63)), (3, .int x3)]) (hC : Ctx p s m #[Value.ref b] meth c D K ad "WideTownLaw" code 4 ret) (hX : va_X b L xs s s.heap) (hbl : b < s.heap.size) (hbA : ¬ GA ad b) (h_1 : vp_in (x3 + 1) L) (h_2 : vp_in (x3 + 2) L) (h_3 : vp_in (x3 + 3) L) (h_4 : vp_in (x3 + 4) L) (h_5 : vp_in (x3 + 5) L) (hf : cells ≤ room_1.cells ∧ slots ≤ room_1.slots) (hst : St_thin Rel) (hR : Rel σ) (hP : va_P D vwCl (wG K ad σ) H) (hS : va_S (GA ad) s.heap H locs)
    (kk : ∀ (σ' : GS) (H1 : Heap) (locs1 : List Loc), Rel σ' → va_P D vwCl (wG K ad σ') H1 → va_S (GA ad) s.heap H1 locs1 → W p l e room_1 s m #[Value.ref b] below meth c H1 locs1 cells slots Q (F0 m 1725 ls [])) : W p l e room_1 s m #[Value.ref b] below meth c H locs cells slots Q (F0 m 1130 ls []) := by
  obtain ⟨hx, hb, -, hown, hts, -, -, -, -, hj⟩ := id hC
  obtain ⟨r, σ1, σ2, hk1, hk2, hR2⟩ := hst σ hR (xs (x3 + 1).toNatClampNeg) (xs (x3 + 2).toNatClampNeg) (xs (x3 + 3).toNatClampNeg)
  refine lv_aload_n hx hb d_L_law_1130 rfl (lv_at hl 1 rfl) ?_
  refine lv_aload_n hx hb d_L_law_1131 rfl (lv_at hl 0 rfl) ?_
  refine lv_iload_n hx hb d_L_law_1132 rfl (lv_at hl 3 rfl) ?_
  refine lv_iconst (v := 1) hx hb d_L_law_1133 (by decide) ?_
  refine lv_iadd hx hb d_L_law_1134 ?_
  refine va_sld hx hb hX hbl hbA hS h_1 d_L_law_1135 ?_
  refine lv_aload_n hx hb d_L_law_1136 rfl (lv_at hl 0 rfl) ?_
  refine lv_iload_n hx hb d_L_law_1137 rfl (lv_at hl 3 rfl) ?_
  refine lv_iconst (v := 2) hx hb d_L_law_1138 (by decide) ?_
  refine lv_iadd hx hb d_L_law_1139 ?_
  refine va_sld hx hb hX hbl hbA hS h_2 d_L_law_1140 ?_
  refine lv_aload_n hx hb d_L_law_1141 rfl (lv_at hl 0 rfl) ?_
  refine lv_iload_n hx hb d_L_law_1142 rfl (lv_at hl 3 rfl) ?_
  refine lv_iconst (v := 3) hx hb d_L_law_1143 (by decide) ?_
  refine lv_iadd hx hb d_L_law_1144 ?_
  refine va_sld hx hb hX hbl hbA hS h_3 d_L_law_1145 ?_
  refine g_calli hS (g_runV (b := 0) (As := [.int (xs (x3 + 1).toNatClampNeg), .int (xs (x3 + 2).toNatClampNeg), .int (xs (x3 + 3).toNatClampNeg)]) (rest := []) hC hP (c_X_thin hj hk1) (rkl (by decide) (by decide)) nm_X_thin cd_X_thin it_WideTown ml_L_129 im_X_thin sl_X_thin o_0 co_X rfl hl.1 rfl (Nat.le_of_ble_eq_true rfl) d_L_law_1146 hf) (fun H locs hP hS => ?_)
  refine lv_aload_n hx hb d_L_law_1149 rfl (lv_at hl 2 rfl) ?_
  refine lv_aload_n hx hb d_L_law_1150 rfl (lv_at hl 0 rfl) ?_
  refine lv_iload_n hx hb d_L_law_1151 rfl (lv_at hl 3 rfl) ?_
  refine lv_iconst (v := 1) hx hb d_L_law_1152 (by decide) ?_
  refine lv_iadd hx hb d_L_law_1153 ?_
  refine va_sld hx hb hX hbl hbA hS h_1 d_L_law_1154 ?_
  refine lv_aload_n hx hb d_L_law_1155 rfl (lv_at hl 0 rfl) ?_
  refine lv_iload_n hx hb d_L_law_1156 rfl (lv_at hl 3 rfl) ?_
  refine lv_iconst (v := 2) hx hb d_L_law_1157 (by decide) ?_
  refine lv_iadd hx hb d_L_law_1158 ?_
  refine va_sld hx hb hX hbl hbA hS h_2 d_L_law_1159 ?_
  refine lv_aload_n hx hb d_L_law_1160 rfl (lv_at hl 0 rfl) ?_
  refine lv_iload_n hx hb d_L_law_1161 rfl (lv_at hl 3 rfl) ?_
  refine lv_iconst (v := 3) hx hb d_L_law_1162 (by decide) ?_
  refine lv_iadd hx hb d_L_law_1163 ?_
  refine va_sld hx hb hX hbl hbA hS h_3 d_L_law_1164 ?_
  refine g_calli hS (g_runV (b := 63) (As := [.int (xs (x3 + 1).toNatClampNeg), .int (xs (x3 + 2).toNatClampNeg), .int (xs (x3 + 3).toNatClampNeg)]) (rest := [.int r]) hC hP (c_M_thin hj hk2) (rkl (by decide) (by decide)) nm_M_thin cd_M_thin it_WideTownModel ml_L_132 im_M_thin sl_M_thin o_63 co_M rfl hl.1 rfl (Nat.le_of_ble_eq_true rfl) d_L_law_1165 hf) (fun H locs hP hS => ?_)
  exact lv_icmp_eq (tgt := 1725) hx hb d_L_law_1168 (by decide) (fun _ => kk _ _ _ hR2 hP hS) (fun hc => absurd rfl hc)
set_option maxHeartbeats 4000000 in
theorem lc_ring {ls : Array Slot} (hl : lv_has ls 4 [(0, .ref b), (1, .ref (ad 0)), (2, .ref (ad 63)), (3, .int x3)]) (hC : Ctx p s m #[Value.ref b] meth c D K ad "WideTownLaw" code 4 ret) (hX : va_X b L xs s s.heap) (hbl : b < s.heap.size) (hbA : ¬ GA ad b) (h_1 : vp_in (x3 + 1) L) (h_2 : vp_in (x3 + 2) L) (h_3 : vp_in (x3 + 3) L) (h_4 : vp_in (x3 + 4) L) (h_5 : vp_in (x3 + 5) L) (hf : cells ≤ room_1.cells ∧ slots ≤ room_1.slots) (hst : St_ring Rel) (hR : Rel σ) (hP : va_P D vwCl (wG K ad σ) H) (hS : va_S (GA ad) s.heap H locs)
    (kk : ∀ (σ' : GS) (H1 : Heap) (locs1 : List Loc), Rel σ' → va_P D vwCl (wG K ad σ') H1 → va_S (GA ad) s.heap H1 locs1 → W p l e room_1 s m #[Value.ref b] below meth c H1 locs1 cells slots Q (F0 m 1725 ls [])) : W p l e room_1 s m #[Value.ref b] below meth c H locs cells slots Q (F0 m 1173 ls []) := by
  obtain ⟨hx, hb, -, hown, hts, -, -, -, -, hj⟩ := id hC
  obtain ⟨r, σ1, σ2, hk1, hk2, hR2⟩ := hst σ hR (xs (x3 + 1).toNatClampNeg)
  refine lv_aload_n hx hb d_L_law_1173 rfl (lv_at hl 1 rfl) ?_
  refine lv_aload_n hx hb d_L_law_1174 rfl (lv_at hl 0 rfl) ?_
  refine lv_iload_n hx hb d_L_law_1175 rfl (lv_at hl 3 rfl) ?_
  refine lv_iconst (v := 1) hx hb d_L_law_1176 (by decide) ?_
  refine lv_iadd hx hb d_L_law_1177 ?_
  refine va_sld hx hb hX hbl hbA hS h_1 d_L_law_1178 ?_
  refine g_calli hS (g_runV (b := 0) (As := [.int (xs (x3 + 1).toNatClampNeg)]) (rest := []) hC hP (c_X_ring hj hk1) (rkl (by decide) (by decide)) nm_X_ring cd_X_ring it_WideTown ml_L_133 im_X_ring sl_X_ring o_0 co_X rfl hl.1 rfl (Nat.le_of_ble_eq_true rfl) d_L_law_1179 hf) (fun H locs hP hS => ?_)
  refine lv_aload_n hx hb d_L_law_1182 rfl (lv_at hl 2 rfl) ?_
  refine lv_aload_n hx hb d_L_law_1183 rfl (lv_at hl 0 rfl) ?_
  refine lv_iload_n hx hb d_L_law_1184 rfl (lv_at hl 3 rfl) ?_
  refine lv_iconst (v := 1) hx hb d_L_law_1185 (by decide) ?_
  refine lv_iadd hx hb d_L_law_1186 ?_
  refine va_sld hx hb hX hbl hbA hS h_1 d_L_law_1187 ?_
  refine g_calli hS (g_runV (b := 63) (As := [.int (xs (x3 + 1).toNatClampNeg)]) (rest := [.int r]) hC hP (c_M_ring hj hk2) (rkl (by decide) (by decide)) nm_M_ring cd_M_ring it_WideTownModel ml_L_136 im_M_ring sl_M_ring o_63 co_M rfl hl.1 rfl (Nat.le_of_ble_eq_true rfl) d_L_law_1188 hf) (fun H locs hP hS => ?_)
  exact lv_icmp_eq (tgt := 1725) hx hb d_L_law_1191 (by decide) (fun _ => kk _ _ _ hR2 hP hS) (fun hc => absurd rfl hc)
set_option maxHeartbeats 4000000 in
theorem lc_within {ls : Array Slot} (hl : lv_has ls 4 [(0, .ref b), (1, .ref (ad 0)), (2, .ref (ad 63)), (3, .int x3)]) (hC : Ctx p s m #[Value.ref b] meth c D K ad "WideTownLaw" code 4 ret) (hX : va_X b L xs s s.heap) (hbl : b < s.heap.size) (hbA : ¬ GA ad b) (h_1 : vp_in (x3 + 1) L) (h_2 : vp_in (x3 + 2) L) (h_3 : vp_in (x3 + 3) L) (h_4 : vp_in (x3 + 4) L) (h_5 : vp_in (x3 + 5) L) (hf : cells ≤ room_1.cells ∧ slots ≤ room_1.slots) (hst : St_within Rel) (hR : Rel σ) (hP : va_P D vwCl (wG K ad σ) H) (hS : va_S (GA ad) s.heap H locs)
    (kk : ∀ (σ' : GS) (H1 : Heap) (locs1 : List Loc), Rel σ' → va_P D vwCl (wG K ad σ') H1 → va_S (GA ad) s.heap H1 locs1 → W p l e room_1 s m #[Value.ref b] below meth c H1 locs1 cells slots Q (F0 m 1725 ls [])) : W p l e room_1 s m #[Value.ref b] below meth c H locs cells slots Q (F0 m 1196 ls []) := by
  obtain ⟨hx, hb, -, hown, hts, -, -, -, -, hj⟩ := id hC
  obtain ⟨r, σ1, σ2, hk1, hk2, hR2⟩ := hst σ hR (xs (x3 + 1).toNatClampNeg)
  refine lv_aload_n hx hb d_L_law_1196 rfl (lv_at hl 1 rfl) ?_
  refine lv_aload_n hx hb d_L_law_1197 rfl (lv_at hl 0 rfl) ?_
  refine lv_iload_n hx hb d_L_law_1198 rfl (lv_at hl 3 rfl) ?_
  refine lv_iconst (v := 1) hx hb d_L_law_1199 (by decide) ?_
  refine lv_iadd hx hb d_L_law_1200 ?_
  refine va_sld hx hb hX hbl hbA hS h_1 d_L_law_1201 ?_
  refine g_calli hS (g_runV (b := 0) (As := [.int (xs (x3 + 1).toNatClampNeg)]) (rest := []) hC hP (c_X_within hj hk1) (rkl (by decide) (by decide)) nm_X_within cd_X_within it_WideTown ml_L_137 im_X_within sl_X_within o_0 co_X rfl hl.1 rfl (Nat.le_of_ble_eq_true rfl) d_L_law_1202 hf) (fun H locs hP hS => ?_)
  refine lv_aload_n hx hb d_L_law_1205 rfl (lv_at hl 2 rfl) ?_
  refine lv_aload_n hx hb d_L_law_1206 rfl (lv_at hl 0 rfl) ?_
  refine lv_iload_n hx hb d_L_law_1207 rfl (lv_at hl 3 rfl) ?_
  refine lv_iconst (v := 1) hx hb d_L_law_1208 (by decide) ?_
  refine lv_iadd hx hb d_L_law_1209 ?_
  refine va_sld hx hb hX hbl hbA hS h_1 d_L_law_1210 ?_
  refine g_calli hS (g_runV (b := 63) (As := [.int (xs (x3 + 1).toNatClampNeg)]) (rest := [.int r]) hC hP (c_M_within hj hk2) (rkl (by decide) (by decide)) nm_M_within cd_M_within it_WideTownModel ml_L_140 im_M_within sl_M_within o_63 co_M rfl hl.1 rfl (Nat.le_of_ble_eq_true rfl) d_L_law_1211 hf) (fun H locs hP hS => ?_)
  exact lv_icmp_eq (tgt := 1725) hx hb d_L_law_1214 (by decide) (fun _ => kk _ _ _ hR2 hP hS) (fun hc => absurd rfl hc)
set_option maxHeartbeats 4000000 in
theorem lc_edge {ls : Array Slot} (hl : lv_has ls 4 [(0, .ref b), (1, .ref (ad 0)), (2, .ref (ad 63)), (3, .int x3)]) (hC : Ctx p s m #[Value.ref b] meth c D K ad "WideTownLaw" code 4 ret) (hX : va_X b L xs s s.heap) (hbl : b < s.heap.size) (hbA : ¬ GA ad b) (h_1 : vp_in (x3 + 1) L) (h_2 : vp_in (x3 + 2) L) (h_3 : vp_in (x3 + 3) L) (h_4 : vp_in (x3 + 4) L) (h_5 : vp_in (x3 + 5) L) (hf : cells ≤ room_1.cells ∧ slots ≤ room_1.slots) (hst : St_edge Rel) (hR : Rel σ) (hP : va_P D vwCl (wG K ad σ) H) (hS : va_S (GA ad) s.heap H locs)
    (kk : ∀ (σ' : GS) (H1 : Heap) (locs1 : List Loc), Rel σ' → va_P D vwCl (wG K ad σ') H1 → va_S (GA ad) s.heap H1 locs1 → W p l e room_1 s m #[Value.ref b] below meth c H1 locs1 cells slots Q (F0 m 1725 ls [])) : W p l e room_1 s m #[Value.ref b] below meth c H locs cells slots Q (F0 m 1219 ls []) := by
  obtain ⟨hx, hb, -, hown, hts, -, -, -, -, hj⟩ := id hC
  obtain ⟨r, σ1, σ2, hk1, hk2, hR2⟩ := hst σ hR (xs (x3 + 1).toNatClampNeg)
  refine lv_aload_n hx hb d_L_law_1219 rfl (lv_at hl 1 rfl) ?_
  refine lv_aload_n hx hb d_L_law_1220 rfl (lv_at hl 0 rfl) ?_
  refine lv_iload_n hx hb d_L_law_1221 rfl (lv_at hl 3 rfl) ?_
  refine lv_iconst (v := 1) hx hb d_L_law_1222 (by decide) ?_
  refine lv_iadd hx hb d_L_law_1223 ?_
  refine va_sld hx hb hX hbl hbA hS h_1 d_L_law_1224 ?_
  refine g_calli hS (g_runV (b := 0) (As := [.int (xs (x3 + 1).toNatClampNeg)]) (rest := []) hC hP (c_X_edge hj hk1) (rkl (by decide) (by decide)) nm_X_edge cd_X_edge it_WideTown ml_L_141 im_X_edge sl_X_edge o_0 co_X rfl hl.1 rfl (Nat.le_of_ble_eq_true rfl) d_L_law_1225 hf) (fun H locs hP hS => ?_)
  refine lv_aload_n hx hb d_L_law_1228 rfl (lv_at hl 2 rfl) ?_
  refine lv_aload_n hx hb d_L_law_1229 rfl (lv_at hl 0 rfl) ?_
  refine lv_iload_n hx hb d_L_law_1230 rfl (lv_at hl 3 rfl) ?_
  refine lv_iconst (v := 1) hx hb d_L_law_1231 (by decide) ?_
  refine lv_iadd hx hb d_L_law_1232 ?_
  refine va_sld hx hb hX hbl hbA hS h_1 d_L_law_1233 ?_
  refine g_calli hS (g_runV (b := 63) (As := [.int (xs (x3 + 1).toNatClampNeg)]) (rest := [.int r]) hC hP (c_M_edge hj hk2) (rkl (by decide) (by decide)) nm_M_edge cd_M_edge it_WideTownModel ml_L_144 im_M_edge sl_M_edge o_63 co_M rfl hl.1 rfl (Nat.le_of_ble_eq_true rfl) d_L_law_1234 hf) (fun H locs hP hS => ?_)
  exact lv_icmp_eq (tgt := 1725) hx hb d_L_law_1237 (by decide) (fun _ => kk _ _ _ hR2 hP hS) (fun hc => absurd rfl hc)
set_option maxHeartbeats 4000000 in
theorem lc_beyond {ls : Array Slot} (hl : lv_has ls 4 [(0, .ref b), (1, .ref (ad 0)), (2, .ref (ad 63)), (3, .int x3)]) (hC : Ctx p s m #[Value.ref b] meth c D K ad "WideTownLaw" code 4 ret) (hX : va_X b L xs s s.heap) (hbl : b < s.heap.size) (hbA : ¬ GA ad b) (h_1 : vp_in (x3 + 1) L) (h_2 : vp_in (x3 + 2) L) (h_3 : vp_in (x3 + 3) L) (h_4 : vp_in (x3 + 4) L) (h_5 : vp_in (x3 + 5) L) (hf : cells ≤ room_1.cells ∧ slots ≤ room_1.slots) (hst : St_beyond Rel) (hR : Rel σ) (hP : va_P D vwCl (wG K ad σ) H) (hS : va_S (GA ad) s.heap H locs)
    (kk : ∀ (σ' : GS) (H1 : Heap) (locs1 : List Loc), Rel σ' → va_P D vwCl (wG K ad σ') H1 → va_S (GA ad) s.heap H1 locs1 → W p l e room_1 s m #[Value.ref b] below meth c H1 locs1 cells slots Q (F0 m 1725 ls [])) : W p l e room_1 s m #[Value.ref b] below meth c H locs cells slots Q (F0 m 1242 ls []) := by
  obtain ⟨hx, hb, -, hown, hts, -, -, -, -, hj⟩ := id hC
  obtain ⟨r, σ1, σ2, hk1, hk2, hR2⟩ := hst σ hR (xs (x3 + 1).toNatClampNeg) (xs (x3 + 2).toNatClampNeg)
  refine lv_aload_n hx hb d_L_law_1242 rfl (lv_at hl 1 rfl) ?_
  refine lv_aload_n hx hb d_L_law_1243 rfl (lv_at hl 0 rfl) ?_
  refine lv_iload_n hx hb d_L_law_1244 rfl (lv_at hl 3 rfl) ?_
  refine lv_iconst (v := 1) hx hb d_L_law_1245 (by decide) ?_
  refine lv_iadd hx hb d_L_law_1246 ?_
  refine va_sld hx hb hX hbl hbA hS h_1 d_L_law_1247 ?_
  refine lv_aload_n hx hb d_L_law_1248 rfl (lv_at hl 0 rfl) ?_
  refine lv_iload_n hx hb d_L_law_1249 rfl (lv_at hl 3 rfl) ?_
  refine lv_iconst (v := 2) hx hb d_L_law_1250 (by decide) ?_
  refine lv_iadd hx hb d_L_law_1251 ?_
  refine va_sld hx hb hX hbl hbA hS h_2 d_L_law_1252 ?_
  refine g_calli hS (g_runV (b := 0) (As := [.int (xs (x3 + 1).toNatClampNeg), .int (xs (x3 + 2).toNatClampNeg)]) (rest := []) hC hP (c_X_beyond hj hk1) (rkl (by decide) (by decide)) nm_X_beyond cd_X_beyond it_WideTown ml_L_145 im_X_beyond sl_X_beyond o_0 co_X rfl hl.1 rfl (Nat.le_of_ble_eq_true rfl) d_L_law_1253 hf) (fun H locs hP hS => ?_)
  refine lv_aload_n hx hb d_L_law_1256 rfl (lv_at hl 2 rfl) ?_
  refine lv_aload_n hx hb d_L_law_1257 rfl (lv_at hl 0 rfl) ?_
  refine lv_iload_n hx hb d_L_law_1258 rfl (lv_at hl 3 rfl) ?_
  refine lv_iconst (v := 1) hx hb d_L_law_1259 (by decide) ?_
  refine lv_iadd hx hb d_L_law_1260 ?_
  refine va_sld hx hb hX hbl hbA hS h_1 d_L_law_1261 ?_
  refine lv_aload_n hx hb d_L_law_1262 rfl (lv_at hl 0 rfl) ?_
  refine lv_iload_n hx hb d_L_law_1263 rfl (lv_at hl 3 rfl) ?_
  refine lv_iconst (v := 2) hx hb d_L_law_1264 (by decide) ?_
  refine lv_iadd hx hb d_L_law_1265 ?_
  refine va_sld hx hb hX hbl hbA hS h_2 d_L_law_1266 ?_
  refine g_calli hS (g_runV (b := 63) (As := [.int (xs (x3 + 1).toNatClampNeg), .int (xs (x3 + 2).toNatClampNeg)]) (rest := [.int r]) hC hP (c_M_beyond hj hk2) (rkl (by decide) (by decide)) nm_M_beyond cd_M_beyond it_WideTownModel ml_L_148 im_M_beyond sl_M_beyond o_63 co_M rfl hl.1 rfl (Nat.le_of_ble_eq_true rfl) d_L_law_1267 hf) (fun H locs hP hS => ?_)
  exact lv_icmp_eq (tgt := 1725) hx hb d_L_law_1270 (by decide) (fun _ => kk _ _ _ hR2 hP hS) (fun hc => absurd rfl hc)
set_option maxHeartbeats 4000000 in
theorem lc_houses {ls : Array Slot} (hl : lv_has ls 4 [(0, .ref b), (1, .ref (ad 0)), (2, .ref (ad 63)), (3, .int x3)]) (hC : Ctx p s m #[Value.ref b] meth c D K ad "WideTownLaw" code 4 ret) (hX : va_X b L xs s s.heap) (hbl : b < s.heap.size) (hbA : ¬ GA ad b) (h_1 : vp_in (x3 + 1) L) (h_2 : vp_in (x3 + 2) L) (h_3 : vp_in (x3 + 3) L) (h_4 : vp_in (x3 + 4) L) (h_5 : vp_in (x3 + 5) L) (hf : cells ≤ room_1.cells ∧ slots ≤ room_1.slots) (hst : St_houses Rel) (hR : Rel σ) (hP : va_P D vwCl (wG K ad σ) H) (hS : va_S (GA ad) s.heap H locs)
    (kk : ∀ (σ' : GS) (H1 : Heap) (locs1 : List Loc), Rel σ' → va_P D vwCl (wG K ad σ') H1 → va_S (GA ad) s.heap H1 locs1 → W p l e room_1 s m #[Value.ref b] below meth c H1 locs1 cells slots Q (F0 m 1725 ls [])) : W p l e room_1 s m #[Value.ref b] below meth c H locs cells slots Q (F0 m 1275 ls []) := by
  obtain ⟨hx, hb, -, hown, hts, -, -, -, -, hj⟩ := id hC
  obtain ⟨r, σ1, σ2, hk1, hk2, hR2⟩ := hst σ hR (xs (x3 + 1).toNatClampNeg)
  refine lv_aload_n hx hb d_L_law_1275 rfl (lv_at hl 1 rfl) ?_
  refine lv_aload_n hx hb d_L_law_1276 rfl (lv_at hl 0 rfl) ?_
  refine lv_iload_n hx hb d_L_law_1277 rfl (lv_at hl 3 rfl) ?_
  refine lv_iconst (v := 1) hx hb d_L_law_1278 (by decide) ?_
  refine lv_iadd hx hb d_L_law_1279 ?_
  refine va_sld hx hb hX hbl hbA hS h_1 d_L_law_1280 ?_
  refine g_calli hS (g_runV (b := 0) (As := [.int (xs (x3 + 1).toNatClampNeg)]) (rest := []) hC hP (c_X_houses hj hk1) (rkl (by decide) (by decide)) nm_X_houses cd_X_houses it_WideTown ml_L_149 im_X_houses sl_X_houses o_0 co_X rfl hl.1 rfl (Nat.le_of_ble_eq_true rfl) d_L_law_1281 hf) (fun H locs hP hS => ?_)
  refine lv_aload_n hx hb d_L_law_1284 rfl (lv_at hl 2 rfl) ?_
  refine lv_aload_n hx hb d_L_law_1285 rfl (lv_at hl 0 rfl) ?_
  refine lv_iload_n hx hb d_L_law_1286 rfl (lv_at hl 3 rfl) ?_
  refine lv_iconst (v := 1) hx hb d_L_law_1287 (by decide) ?_
  refine lv_iadd hx hb d_L_law_1288 ?_
  refine va_sld hx hb hX hbl hbA hS h_1 d_L_law_1289 ?_
  refine g_calli hS (g_runV (b := 63) (As := [.int (xs (x3 + 1).toNatClampNeg)]) (rest := [.int r]) hC hP (c_M_houses hj hk2) (rkl (by decide) (by decide)) nm_M_houses cd_M_houses it_WideTownModel ml_L_152 im_M_houses sl_M_houses o_63 co_M rfl hl.1 rfl (Nat.le_of_ble_eq_true rfl) d_L_law_1290 hf) (fun H locs hP hS => ?_)
  exact lv_icmp_eq (tgt := 1725) hx hb d_L_law_1293 (by decide) (fun _ => kk _ _ _ hR2 hP hS) (fun hc => absurd rfl hc)
set_option maxHeartbeats 4000000 in
theorem lc_walk {ls : Array Slot} (hl : lv_has ls 4 [(0, .ref b), (1, .ref (ad 0)), (2, .ref (ad 63)), (3, .int x3)]) (hC : Ctx p s m #[Value.ref b] meth c D K ad "WideTownLaw" code 4 ret) (hX : va_X b L xs s s.heap) (hbl : b < s.heap.size) (hbA : ¬ GA ad b) (h_1 : vp_in (x3 + 1) L) (h_2 : vp_in (x3 + 2) L) (h_3 : vp_in (x3 + 3) L) (h_4 : vp_in (x3 + 4) L) (h_5 : vp_in (x3 + 5) L) (hf : cells ≤ room_1.cells ∧ slots ≤ room_1.slots) (hst : St_walk Rel) (hR : Rel σ) (hP : va_P D vwCl (wG K ad σ) H) (hS : va_S (GA ad) s.heap H locs)
    (kk : ∀ (σ' : GS) (H1 : Heap) (locs1 : List Loc), Rel σ' → va_P D vwCl (wG K ad σ') H1 → va_S (GA ad) s.heap H1 locs1 → W p l e room_1 s m #[Value.ref b] below meth c H1 locs1 cells slots Q (F0 m 1725 ls [])) : W p l e room_1 s m #[Value.ref b] below meth c H locs cells slots Q (F0 m 1298 ls []) := by
  obtain ⟨hx, hb, -, hown, hts, -, -, -, -, hj⟩ := id hC
  obtain ⟨r, σ1, σ2, hk1, hk2, hR2⟩ := hst σ hR (xs (x3 + 1).toNatClampNeg)
  refine lv_aload_n hx hb d_L_law_1298 rfl (lv_at hl 1 rfl) ?_
  refine lv_aload_n hx hb d_L_law_1299 rfl (lv_at hl 0 rfl) ?_
  refine lv_iload_n hx hb d_L_law_1300 rfl (lv_at hl 3 rfl) ?_
  refine lv_iconst (v := 1) hx hb d_L_law_1301 (by decide) ?_
  refine lv_iadd hx hb d_L_law_1302 ?_
  refine va_sld hx hb hX hbl hbA hS h_1 d_L_law_1303 ?_
  refine g_calli hS (g_runV (b := 0) (As := [.int (xs (x3 + 1).toNatClampNeg)]) (rest := []) hC hP (c_X_walk hj hk1) (rkl (by decide) (by decide)) nm_X_walk cd_X_walk it_WideTown ml_L_153 im_X_walk sl_X_walk o_0 co_X rfl hl.1 rfl (Nat.le_of_ble_eq_true rfl) d_L_law_1304 hf) (fun H locs hP hS => ?_)
  refine lv_aload_n hx hb d_L_law_1307 rfl (lv_at hl 2 rfl) ?_
  refine lv_aload_n hx hb d_L_law_1308 rfl (lv_at hl 0 rfl) ?_
  refine lv_iload_n hx hb d_L_law_1309 rfl (lv_at hl 3 rfl) ?_
  refine lv_iconst (v := 1) hx hb d_L_law_1310 (by decide) ?_
  refine lv_iadd hx hb d_L_law_1311 ?_
  refine va_sld hx hb hX hbl hbA hS h_1 d_L_law_1312 ?_
  refine g_calli hS (g_runV (b := 63) (As := [.int (xs (x3 + 1).toNatClampNeg)]) (rest := [.int r]) hC hP (c_M_walk hj hk2) (rkl (by decide) (by decide)) nm_M_walk cd_M_walk it_WideTownModel ml_L_156 im_M_walk sl_M_walk o_63 co_M rfl hl.1 rfl (Nat.le_of_ble_eq_true rfl) d_L_law_1313 hf) (fun H locs hP hS => ?_)
  exact lv_icmp_eq (tgt := 1725) hx hb d_L_law_1316 (by decide) (fun _ => kk _ _ _ hR2 hP hS) (fun hc => absurd rfl hc)
set_option maxHeartbeats 4000000 in
theorem lc_reaches {ls : Array Slot} (hl : lv_has ls 4 [(0, .ref b), (1, .ref (ad 0)), (2, .ref (ad 63)), (3, .int x3)]) (hC : Ctx p s m #[Value.ref b] meth c D K ad "WideTownLaw" code 4 ret) (hX : va_X b L xs s s.heap) (hbl : b < s.heap.size) (hbA : ¬ GA ad b) (h_1 : vp_in (x3 + 1) L) (h_2 : vp_in (x3 + 2) L) (h_3 : vp_in (x3 + 3) L) (h_4 : vp_in (x3 + 4) L) (h_5 : vp_in (x3 + 5) L) (hf : cells ≤ room_1.cells ∧ slots ≤ room_1.slots) (hst : St_reaches Rel) (hR : Rel σ) (hP : va_P D vwCl (wG K ad σ) H) (hS : va_S (GA ad) s.heap H locs)
    (kk : ∀ (σ' : GS) (H1 : Heap) (locs1 : List Loc), Rel σ' → va_P D vwCl (wG K ad σ') H1 → va_S (GA ad) s.heap H1 locs1 → W p l e room_1 s m #[Value.ref b] below meth c H1 locs1 cells slots Q (F0 m 1725 ls [])) : W p l e room_1 s m #[Value.ref b] below meth c H locs cells slots Q (F0 m 1321 ls []) := by
  obtain ⟨hx, hb, -, hown, hts, -, -, -, -, hj⟩ := id hC
  obtain ⟨r, σ1, σ2, hk1, hk2, hR2⟩ := hst σ hR (xs (x3 + 1).toNatClampNeg)
  refine lv_aload_n hx hb d_L_law_1321 rfl (lv_at hl 1 rfl) ?_
  refine lv_aload_n hx hb d_L_law_1322 rfl (lv_at hl 0 rfl) ?_
  refine lv_iload_n hx hb d_L_law_1323 rfl (lv_at hl 3 rfl) ?_
  refine lv_iconst (v := 1) hx hb d_L_law_1324 (by decide) ?_
  refine lv_iadd hx hb d_L_law_1325 ?_
  refine va_sld hx hb hX hbl hbA hS h_1 d_L_law_1326 ?_
  refine g_calli hS (g_runV (b := 0) (As := [.int (xs (x3 + 1).toNatClampNeg)]) (rest := []) hC hP (c_X_reaches hj hk1) (rkl (by decide) (by decide)) nm_X_reaches cd_X_reaches it_WideTown ml_L_157 im_X_reaches sl_X_reaches o_0 co_X rfl hl.1 rfl (Nat.le_of_ble_eq_true rfl) d_L_law_1327 hf) (fun H locs hP hS => ?_)
  refine lv_aload_n hx hb d_L_law_1330 rfl (lv_at hl 2 rfl) ?_
  refine lv_aload_n hx hb d_L_law_1331 rfl (lv_at hl 0 rfl) ?_
  refine lv_iload_n hx hb d_L_law_1332 rfl (lv_at hl 3 rfl) ?_
  refine lv_iconst (v := 1) hx hb d_L_law_1333 (by decide) ?_
  refine lv_iadd hx hb d_L_law_1334 ?_
  refine va_sld hx hb hX hbl hbA hS h_1 d_L_law_1335 ?_
  refine g_calli hS (g_runV (b := 63) (As := [.int (xs (x3 + 1).toNatClampNeg)]) (rest := [.int r]) hC hP (c_M_reaches hj hk2) (rkl (by decide) (by decide)) nm_M_reaches cd_M_reaches it_WideTownModel ml_L_160 im_M_reaches sl_M_reaches o_63 co_M rfl hl.1 rfl (Nat.le_of_ble_eq_true rfl) d_L_law_1336 hf) (fun H locs hP hS => ?_)
  exact lv_icmp_eq (tgt := 1725) hx hb d_L_law_1339 (by decide) (fun _ => kk _ _ _ hR2 hP hS) (fun hc => absurd rfl hc)
set_option maxHeartbeats 4000000 in
theorem lc_sees {ls : Array Slot} (hl : lv_has ls 4 [(0, .ref b), (1, .ref (ad 0)), (2, .ref (ad 63)), (3, .int x3)]) (hC : Ctx p s m #[Value.ref b] meth c D K ad "WideTownLaw" code 4 ret) (hX : va_X b L xs s s.heap) (hbl : b < s.heap.size) (hbA : ¬ GA ad b) (h_1 : vp_in (x3 + 1) L) (h_2 : vp_in (x3 + 2) L) (h_3 : vp_in (x3 + 3) L) (h_4 : vp_in (x3 + 4) L) (h_5 : vp_in (x3 + 5) L) (hf : cells ≤ room_1.cells ∧ slots ≤ room_1.slots) (hst : St_sees Rel) (hR : Rel σ) (hP : va_P D vwCl (wG K ad σ) H) (hS : va_S (GA ad) s.heap H locs)
    (kk : ∀ (σ' : GS) (H1 : Heap) (locs1 : List Loc), Rel σ' → va_P D vwCl (wG K ad σ') H1 → va_S (GA ad) s.heap H1 locs1 → W p l e room_1 s m #[Value.ref b] below meth c H1 locs1 cells slots Q (F0 m 1725 ls [])) : W p l e room_1 s m #[Value.ref b] below meth c H locs cells slots Q (F0 m 1344 ls []) := by
  obtain ⟨hx, hb, -, hown, hts, -, -, -, -, hj⟩ := id hC
  obtain ⟨r, σ1, σ2, hk1, hk2, hR2⟩ := hst σ hR (xs (x3 + 1).toNatClampNeg)
  refine lv_aload_n hx hb d_L_law_1344 rfl (lv_at hl 1 rfl) ?_
  refine lv_aload_n hx hb d_L_law_1345 rfl (lv_at hl 0 rfl) ?_
  refine lv_iload_n hx hb d_L_law_1346 rfl (lv_at hl 3 rfl) ?_
  refine lv_iconst (v := 1) hx hb d_L_law_1347 (by decide) ?_
  refine lv_iadd hx hb d_L_law_1348 ?_
  refine va_sld hx hb hX hbl hbA hS h_1 d_L_law_1349 ?_
  refine g_calli hS (g_runV (b := 0) (As := [.int (xs (x3 + 1).toNatClampNeg)]) (rest := []) hC hP (c_X_sees hj hk1) (rkl (by decide) (by decide)) nm_X_sees cd_X_sees it_WideTown ml_L_161 im_X_sees sl_X_sees o_0 co_X rfl hl.1 rfl (Nat.le_of_ble_eq_true rfl) d_L_law_1350 hf) (fun H locs hP hS => ?_)
  refine lv_aload_n hx hb d_L_law_1353 rfl (lv_at hl 2 rfl) ?_
  refine lv_aload_n hx hb d_L_law_1354 rfl (lv_at hl 0 rfl) ?_
  refine lv_iload_n hx hb d_L_law_1355 rfl (lv_at hl 3 rfl) ?_
  refine lv_iconst (v := 1) hx hb d_L_law_1356 (by decide) ?_
  refine lv_iadd hx hb d_L_law_1357 ?_
  refine va_sld hx hb hX hbl hbA hS h_1 d_L_law_1358 ?_
  refine g_calli hS (g_runV (b := 63) (As := [.int (xs (x3 + 1).toNatClampNeg)]) (rest := [.int r]) hC hP (c_M_sees hj hk2) (rkl (by decide) (by decide)) nm_M_sees cd_M_sees it_WideTownModel ml_L_164 im_M_sees sl_M_sees o_63 co_M rfl hl.1 rfl (Nat.le_of_ble_eq_true rfl) d_L_law_1359 hf) (fun H locs hP hS => ?_)
  exact lv_icmp_eq (tgt := 1725) hx hb d_L_law_1362 (by decide) (fun _ => kk _ _ _ hR2 hP hS) (fun hc => absurd rfl hc)
set_option maxHeartbeats 4000000 in
theorem lc_round {ls : Array Slot} (hl : lv_has ls 4 [(0, .ref b), (1, .ref (ad 0)), (2, .ref (ad 63)), (3, .int x3)]) (hC : Ctx p s m #[Value.ref b] meth c D K ad "WideTownLaw" code 4 ret) (hX : va_X b L xs s s.heap) (hbl : b < s.heap.size) (hbA : ¬ GA ad b) (h_1 : vp_in (x3 + 1) L) (h_2 : vp_in (x3 + 2) L) (h_3 : vp_in (x3 + 3) L) (h_4 : vp_in (x3 + 4) L) (h_5 : vp_in (x3 + 5) L) (hf : cells ≤ room_1.cells ∧ slots ≤ room_1.slots) (hst : St_round Rel) (hR : Rel σ) (hP : va_P D vwCl (wG K ad σ) H) (hS : va_S (GA ad) s.heap H locs)
    (kk : ∀ (σ' : GS) (H1 : Heap) (locs1 : List Loc), Rel σ' → va_P D vwCl (wG K ad σ') H1 → va_S (GA ad) s.heap H1 locs1 → W p l e room_1 s m #[Value.ref b] below meth c H1 locs1 cells slots Q (F0 m 1725 ls [])) : W p l e room_1 s m #[Value.ref b] below meth c H locs cells slots Q (F0 m 1367 ls []) := by
  obtain ⟨hx, hb, -, hown, hts, -, -, -, -, hj⟩ := id hC
  obtain ⟨r, σ1, σ2, hk1, hk2, hR2⟩ := hst σ hR (xs (x3 + 1).toNatClampNeg) (xs (x3 + 2).toNatClampNeg)
  refine lv_aload_n hx hb d_L_law_1367 rfl (lv_at hl 1 rfl) ?_
  refine lv_aload_n hx hb d_L_law_1368 rfl (lv_at hl 0 rfl) ?_
  refine lv_iload_n hx hb d_L_law_1369 rfl (lv_at hl 3 rfl) ?_
  refine lv_iconst (v := 1) hx hb d_L_law_1370 (by decide) ?_
  refine lv_iadd hx hb d_L_law_1371 ?_
  refine va_sld hx hb hX hbl hbA hS h_1 d_L_law_1372 ?_
  refine lv_aload_n hx hb d_L_law_1373 rfl (lv_at hl 0 rfl) ?_
  refine lv_iload_n hx hb d_L_law_1374 rfl (lv_at hl 3 rfl) ?_
  refine lv_iconst (v := 2) hx hb d_L_law_1375 (by decide) ?_
  refine lv_iadd hx hb d_L_law_1376 ?_
  refine va_sld hx hb hX hbl hbA hS h_2 d_L_law_1377 ?_
  refine g_calli hS (g_runV (b := 0) (As := [.int (xs (x3 + 1).toNatClampNeg), .int (xs (x3 + 2).toNatClampNeg)]) (rest := []) hC hP (c_X_round hj hk1) (rkl (by decide) (by decide)) nm_X_round cd_X_round it_WideTown ml_L_165 im_X_round sl_X_round o_0 co_X rfl hl.1 rfl (Nat.le_of_ble_eq_true rfl) d_L_law_1378 hf) (fun H locs hP hS => ?_)
  refine lv_aload_n hx hb d_L_law_1381 rfl (lv_at hl 2 rfl) ?_
  refine lv_aload_n hx hb d_L_law_1382 rfl (lv_at hl 0 rfl) ?_
  refine lv_iload_n hx hb d_L_law_1383 rfl (lv_at hl 3 rfl) ?_
  refine lv_iconst (v := 1) hx hb d_L_law_1384 (by decide) ?_
  refine lv_iadd hx hb d_L_law_1385 ?_
  refine va_sld hx hb hX hbl hbA hS h_1 d_L_law_1386 ?_
  refine lv_aload_n hx hb d_L_law_1387 rfl (lv_at hl 0 rfl) ?_
  refine lv_iload_n hx hb d_L_law_1388 rfl (lv_at hl 3 rfl) ?_
  refine lv_iconst (v := 2) hx hb d_L_law_1389 (by decide) ?_
  refine lv_iadd hx hb d_L_law_1390 ?_
  refine va_sld hx hb hX hbl hbA hS h_2 d_L_law_1391 ?_
  refine g_calli hS (g_runV (b := 63) (As := [.int (xs (x3 + 1).toNatClampNeg), .int (xs (x3 + 2).toNatClampNeg)]) (rest := [.int r]) hC hP (c_M_round hj hk2) (rkl (by decide) (by decide)) nm_M_round cd_M_round it_WideTownModel ml_L_168 im_M_round sl_M_round o_63 co_M rfl hl.1 rfl (Nat.le_of_ble_eq_true rfl) d_L_law_1392 hf) (fun H locs hP hS => ?_)
  exact lv_icmp_eq (tgt := 1725) hx hb d_L_law_1395 (by decide) (fun _ => kk _ _ _ hR2 hP hS) (fun hc => absurd rfl hc)
set_option maxHeartbeats 4000000 in
theorem lc_post {ls : Array Slot} (hl : lv_has ls 4 [(0, .ref b), (1, .ref (ad 0)), (2, .ref (ad 63)), (3, .int x3)]) (hC : Ctx p s m #[Value.ref b] meth c D K ad "WideTownLaw" code 4 ret) (hX : va_X b L xs s s.heap) (hbl : b < s.heap.size) (hbA : ¬ GA ad b) (h_1 : vp_in (x3 + 1) L) (h_2 : vp_in (x3 + 2) L) (h_3 : vp_in (x3 + 3) L) (h_4 : vp_in (x3 + 4) L) (h_5 : vp_in (x3 + 5) L) (hf : cells ≤ room_1.cells ∧ slots ≤ room_1.slots) (hst : St_post Rel) (hR : Rel σ) (hP : va_P D vwCl (wG K ad σ) H) (hS : va_S (GA ad) s.heap H locs)
    (kk : ∀ (σ' : GS) (H1 : Heap) (locs1 : List Loc), Rel σ' → va_P D vwCl (wG K ad σ') H1 → va_S (GA ad) s.heap H1 locs1 → W p l e room_1 s m #[Value.ref b] below meth c H1 locs1 cells slots Q (F0 m 1725 ls [])) : W p l e room_1 s m #[Value.ref b] below meth c H locs cells slots Q (F0 m 1400 ls []) := by
  obtain ⟨hx, hb, -, hown, hts, -, -, -, -, hj⟩ := id hC
  obtain ⟨r, σ1, σ2, hk1, hk2, hR2⟩ := hst σ hR (xs (x3 + 1).toNatClampNeg)
  refine lv_aload_n hx hb d_L_law_1400 rfl (lv_at hl 1 rfl) ?_
  refine lv_aload_n hx hb d_L_law_1401 rfl (lv_at hl 0 rfl) ?_
  refine lv_iload_n hx hb d_L_law_1402 rfl (lv_at hl 3 rfl) ?_
  refine lv_iconst (v := 1) hx hb d_L_law_1403 (by decide) ?_
  refine lv_iadd hx hb d_L_law_1404 ?_
  refine va_sld hx hb hX hbl hbA hS h_1 d_L_law_1405 ?_
  refine g_calli hS (g_runV (b := 0) (As := [.int (xs (x3 + 1).toNatClampNeg)]) (rest := []) hC hP (c_X_post hj hk1) (rkl (by decide) (by decide)) nm_X_post cd_X_post it_WideTown ml_L_169 im_X_post sl_X_post o_0 co_X rfl hl.1 rfl (Nat.le_of_ble_eq_true rfl) d_L_law_1406 hf) (fun H locs hP hS => ?_)
  refine lv_aload_n hx hb d_L_law_1409 rfl (lv_at hl 2 rfl) ?_
  refine lv_aload_n hx hb d_L_law_1410 rfl (lv_at hl 0 rfl) ?_
  refine lv_iload_n hx hb d_L_law_1411 rfl (lv_at hl 3 rfl) ?_
  refine lv_iconst (v := 1) hx hb d_L_law_1412 (by decide) ?_
  refine lv_iadd hx hb d_L_law_1413 ?_
  refine va_sld hx hb hX hbl hbA hS h_1 d_L_law_1414 ?_
  refine g_calli hS (g_runV (b := 63) (As := [.int (xs (x3 + 1).toNatClampNeg)]) (rest := [.int r]) hC hP (c_M_post hj hk2) (rkl (by decide) (by decide)) nm_M_post cd_M_post it_WideTownModel ml_L_172 im_M_post sl_M_post o_63 co_M rfl hl.1 rfl (Nat.le_of_ble_eq_true rfl) d_L_law_1415 hf) (fun H locs hP hS => ?_)
  exact lv_icmp_eq (tgt := 1725) hx hb d_L_law_1418 (by decide) (fun _ => kk _ _ _ hR2 hP hS) (fun hc => absurd rfl hc)
set_option maxHeartbeats 4000000 in
theorem lc_burns {ls : Array Slot} (hl : lv_has ls 4 [(0, .ref b), (1, .ref (ad 0)), (2, .ref (ad 63)), (3, .int x3)]) (hC : Ctx p s m #[Value.ref b] meth c D K ad "WideTownLaw" code 4 ret) (hX : va_X b L xs s s.heap) (hbl : b < s.heap.size) (hbA : ¬ GA ad b) (h_1 : vp_in (x3 + 1) L) (h_2 : vp_in (x3 + 2) L) (h_3 : vp_in (x3 + 3) L) (h_4 : vp_in (x3 + 4) L) (h_5 : vp_in (x3 + 5) L) (hf : cells ≤ room_1.cells ∧ slots ≤ room_1.slots) (hst : St_burns Rel) (hR : Rel σ) (hP : va_P D vwCl (wG K ad σ) H) (hS : va_S (GA ad) s.heap H locs)
    (kk : ∀ (σ' : GS) (H1 : Heap) (locs1 : List Loc), Rel σ' → va_P D vwCl (wG K ad σ') H1 → va_S (GA ad) s.heap H1 locs1 → W p l e room_1 s m #[Value.ref b] below meth c H1 locs1 cells slots Q (F0 m 1725 ls [])) : W p l e room_1 s m #[Value.ref b] below meth c H locs cells slots Q (F0 m 1423 ls []) := by
  obtain ⟨hx, hb, -, hown, hts, -, -, -, -, hj⟩ := id hC
  obtain ⟨r, σ1, σ2, hk1, hk2, hR2⟩ := hst σ hR (xs (x3 + 1).toNatClampNeg) (xs (x3 + 2).toNatClampNeg)
  refine lv_aload_n hx hb d_L_law_1423 rfl (lv_at hl 1 rfl) ?_
  refine lv_aload_n hx hb d_L_law_1424 rfl (lv_at hl 0 rfl) ?_
  refine lv_iload_n hx hb d_L_law_1425 rfl (lv_at hl 3 rfl) ?_
  refine lv_iconst (v := 1) hx hb d_L_law_1426 (by decide) ?_
  refine lv_iadd hx hb d_L_law_1427 ?_
  refine va_sld hx hb hX hbl hbA hS h_1 d_L_law_1428 ?_
  refine lv_aload_n hx hb d_L_law_1429 rfl (lv_at hl 0 rfl) ?_
  refine lv_iload_n hx hb d_L_law_1430 rfl (lv_at hl 3 rfl) ?_
  refine lv_iconst (v := 2) hx hb d_L_law_1431 (by decide) ?_
  refine lv_iadd hx hb d_L_law_1432 ?_
  refine va_sld hx hb hX hbl hbA hS h_2 d_L_law_1433 ?_
  refine g_calli hS (g_runV (b := 0) (As := [.int (xs (x3 + 1).toNatClampNeg), .int (xs (x3 + 2).toNatClampNeg)]) (rest := []) hC hP (c_X_burns hj hk1) (rkl (by decide) (by decide)) nm_X_burns cd_X_burns it_WideTown ml_L_173 im_X_burns sl_X_burns o_0 co_X rfl hl.1 rfl (Nat.le_of_ble_eq_true rfl) d_L_law_1434 hf) (fun H locs hP hS => ?_)
  refine lv_aload_n hx hb d_L_law_1437 rfl (lv_at hl 2 rfl) ?_
  refine lv_aload_n hx hb d_L_law_1438 rfl (lv_at hl 0 rfl) ?_
  refine lv_iload_n hx hb d_L_law_1439 rfl (lv_at hl 3 rfl) ?_
  refine lv_iconst (v := 1) hx hb d_L_law_1440 (by decide) ?_
  refine lv_iadd hx hb d_L_law_1441 ?_
  refine va_sld hx hb hX hbl hbA hS h_1 d_L_law_1442 ?_
  refine lv_aload_n hx hb d_L_law_1443 rfl (lv_at hl 0 rfl) ?_
  refine lv_iload_n hx hb d_L_law_1444 rfl (lv_at hl 3 rfl) ?_
  refine lv_iconst (v := 2) hx hb d_L_law_1445 (by decide) ?_
  refine lv_iadd hx hb d_L_law_1446 ?_
  refine va_sld hx hb hX hbl hbA hS h_2 d_L_law_1447 ?_
  refine g_calli hS (g_runV (b := 63) (As := [.int (xs (x3 + 1).toNatClampNeg), .int (xs (x3 + 2).toNatClampNeg)]) (rest := [.int r]) hC hP (c_M_burns hj hk2) (rkl (by decide) (by decide)) nm_M_burns cd_M_burns it_WideTownModel ml_L_176 im_M_burns sl_M_burns o_63 co_M rfl hl.1 rfl (Nat.le_of_ble_eq_true rfl) d_L_law_1448 hf) (fun H locs hP hS => ?_)
  exact lv_icmp_eq (tgt := 1725) hx hb d_L_law_1451 (by decide) (fun _ => kk _ _ _ hR2 hP hS) (fun hc => absurd rfl hc)
set_option maxHeartbeats 4000000 in
theorem lc_held {ls : Array Slot} (hl : lv_has ls 4 [(0, .ref b), (1, .ref (ad 0)), (2, .ref (ad 63)), (3, .int x3)]) (hC : Ctx p s m #[Value.ref b] meth c D K ad "WideTownLaw" code 4 ret) (hX : va_X b L xs s s.heap) (hbl : b < s.heap.size) (hbA : ¬ GA ad b) (h_1 : vp_in (x3 + 1) L) (h_2 : vp_in (x3 + 2) L) (h_3 : vp_in (x3 + 3) L) (h_4 : vp_in (x3 + 4) L) (h_5 : vp_in (x3 + 5) L) (hf : cells ≤ room_1.cells ∧ slots ≤ room_1.slots) (hst : St_held Rel) (hR : Rel σ) (hP : va_P D vwCl (wG K ad σ) H) (hS : va_S (GA ad) s.heap H locs)
    (kk : ∀ (σ' : GS) (H1 : Heap) (locs1 : List Loc), Rel σ' → va_P D vwCl (wG K ad σ') H1 → va_S (GA ad) s.heap H1 locs1 → W p l e room_1 s m #[Value.ref b] below meth c H1 locs1 cells slots Q (F0 m 1725 ls [])) : W p l e room_1 s m #[Value.ref b] below meth c H locs cells slots Q (F0 m 1456 ls []) := by
  obtain ⟨hx, hb, -, hown, hts, -, -, -, -, hj⟩ := id hC
  obtain ⟨r, σ1, σ2, hk1, hk2, hR2⟩ := hst σ hR (xs (x3 + 1).toNatClampNeg)
  refine lv_aload_n hx hb d_L_law_1456 rfl (lv_at hl 1 rfl) ?_
  refine lv_aload_n hx hb d_L_law_1457 rfl (lv_at hl 0 rfl) ?_
  refine lv_iload_n hx hb d_L_law_1458 rfl (lv_at hl 3 rfl) ?_
  refine lv_iconst (v := 1) hx hb d_L_law_1459 (by decide) ?_
  refine lv_iadd hx hb d_L_law_1460 ?_
  refine va_sld hx hb hX hbl hbA hS h_1 d_L_law_1461 ?_
  refine g_calli hS (g_runV (b := 0) (As := [.int (xs (x3 + 1).toNatClampNeg)]) (rest := []) hC hP (c_X_held hj hk1) (rkl (by decide) (by decide)) nm_X_held cd_X_held it_WideTown ml_L_177 im_X_held sl_X_held o_0 co_X rfl hl.1 rfl (Nat.le_of_ble_eq_true rfl) d_L_law_1462 hf) (fun H locs hP hS => ?_)
  refine lv_aload_n hx hb d_L_law_1465 rfl (lv_at hl 2 rfl) ?_
  refine lv_aload_n hx hb d_L_law_1466 rfl (lv_at hl 0 rfl) ?_
  refine lv_iload_n hx hb d_L_law_1467 rfl (lv_at hl 3 rfl) ?_
  refine lv_iconst (v := 1) hx hb d_L_law_1468 (by decide) ?_
  refine lv_iadd hx hb d_L_law_1469 ?_
  refine va_sld hx hb hX hbl hbA hS h_1 d_L_law_1470 ?_
  refine g_calli hS (g_runV (b := 63) (As := [.int (xs (x3 + 1).toNatClampNeg)]) (rest := [.int r]) hC hP (c_M_held hj hk2) (rkl (by decide) (by decide)) nm_M_held cd_M_held it_WideTownModel ml_L_180 im_M_held sl_M_held o_63 co_M rfl hl.1 rfl (Nat.le_of_ble_eq_true rfl) d_L_law_1471 hf) (fun H locs hP hS => ?_)
  exact lv_icmp_eq (tgt := 1725) hx hb d_L_law_1474 (by decide) (fun _ => kk _ _ _ hR2 hP hS) (fun hc => absurd rfl hc)
set_option maxHeartbeats 4000000 in
theorem lc_idle {ls : Array Slot} (hl : lv_has ls 4 [(0, .ref b), (1, .ref (ad 0)), (2, .ref (ad 63)), (3, .int x3)]) (hC : Ctx p s m #[Value.ref b] meth c D K ad "WideTownLaw" code 4 ret) (hX : va_X b L xs s s.heap) (hbl : b < s.heap.size) (hbA : ¬ GA ad b) (h_1 : vp_in (x3 + 1) L) (h_2 : vp_in (x3 + 2) L) (h_3 : vp_in (x3 + 3) L) (h_4 : vp_in (x3 + 4) L) (h_5 : vp_in (x3 + 5) L) (hf : cells ≤ room_1.cells ∧ slots ≤ room_1.slots) (hst : St_idle Rel) (hR : Rel σ) (hP : va_P D vwCl (wG K ad σ) H) (hS : va_S (GA ad) s.heap H locs)
    (kk : ∀ (σ' : GS) (H1 : Heap) (locs1 : List Loc), Rel σ' → va_P D vwCl (wG K ad σ') H1 → va_S (GA ad) s.heap H1 locs1 → W p l e room_1 s m #[Value.ref b] below meth c H1 locs1 cells slots Q (F0 m 1725 ls [])) : W p l e room_1 s m #[Value.ref b] below meth c H locs cells slots Q (F0 m 1479 ls []) := by
  obtain ⟨hx, hb, -, hown, hts, -, -, -, -, hj⟩ := id hC
  obtain ⟨r, σ1, σ2, hk1, hk2, hR2⟩ := hst σ hR (xs (x3 + 1).toNatClampNeg)
  refine lv_aload_n hx hb d_L_law_1479 rfl (lv_at hl 1 rfl) ?_
  refine lv_aload_n hx hb d_L_law_1480 rfl (lv_at hl 0 rfl) ?_
  refine lv_iload_n hx hb d_L_law_1481 rfl (lv_at hl 3 rfl) ?_
  refine lv_iconst (v := 1) hx hb d_L_law_1482 (by decide) ?_
  refine lv_iadd hx hb d_L_law_1483 ?_
  refine va_sld hx hb hX hbl hbA hS h_1 d_L_law_1484 ?_
  refine g_calli hS (g_runV (b := 0) (As := [.int (xs (x3 + 1).toNatClampNeg)]) (rest := []) hC hP (c_X_idle hj hk1) (rkl (by decide) (by decide)) nm_X_idle cd_X_idle it_WideTown ml_L_181 im_X_idle sl_X_idle o_0 co_X rfl hl.1 rfl (Nat.le_of_ble_eq_true rfl) d_L_law_1485 hf) (fun H locs hP hS => ?_)
  refine lv_aload_n hx hb d_L_law_1488 rfl (lv_at hl 2 rfl) ?_
  refine lv_aload_n hx hb d_L_law_1489 rfl (lv_at hl 0 rfl) ?_
  refine lv_iload_n hx hb d_L_law_1490 rfl (lv_at hl 3 rfl) ?_
  refine lv_iconst (v := 1) hx hb d_L_law_1491 (by decide) ?_
  refine lv_iadd hx hb d_L_law_1492 ?_
  refine va_sld hx hb hX hbl hbA hS h_1 d_L_law_1493 ?_
  refine g_calli hS (g_runV (b := 63) (As := [.int (xs (x3 + 1).toNatClampNeg)]) (rest := [.int r]) hC hP (c_M_idle hj hk2) (rkl (by decide) (by decide)) nm_M_idle cd_M_idle it_WideTownModel ml_L_184 im_M_idle sl_M_idle o_63 co_M rfl hl.1 rfl (Nat.le_of_ble_eq_true rfl) d_L_law_1494 hf) (fun H locs hP hS => ?_)
  exact lv_icmp_eq (tgt := 1725) hx hb d_L_law_1497 (by decide) (fun _ => kk _ _ _ hR2 hP hS) (fun hc => absurd rfl hc)
set_option maxHeartbeats 4000000 in
theorem lc_meet {ls : Array Slot} (hl : lv_has ls 4 [(0, .ref b), (1, .ref (ad 0)), (2, .ref (ad 63)), (3, .int x3)]) (hC : Ctx p s m #[Value.ref b] meth c D K ad "WideTownLaw" code 4 ret) (hX : va_X b L xs s s.heap) (hbl : b < s.heap.size) (hbA : ¬ GA ad b) (h_1 : vp_in (x3 + 1) L) (h_2 : vp_in (x3 + 2) L) (h_3 : vp_in (x3 + 3) L) (h_4 : vp_in (x3 + 4) L) (h_5 : vp_in (x3 + 5) L) (hf : cells ≤ room_1.cells ∧ slots ≤ room_1.slots) (hst : St_meet Rel) (hR : Rel σ) (hP : va_P D vwCl (wG K ad σ) H) (hS : va_S (GA ad) s.heap H locs)
    (kk : ∀ (σ' : GS) (H1 : Heap) (locs1 : List Loc), Rel σ' → va_P D vwCl (wG K ad σ') H1 → va_S (GA ad) s.heap H1 locs1 → W p l e room_1 s m #[Value.ref b] below meth c H1 locs1 cells slots Q (F0 m 1725 ls [])) : W p l e room_1 s m #[Value.ref b] below meth c H locs cells slots Q (F0 m 1502 ls []) := by
  obtain ⟨hx, hb, -, hown, hts, -, -, -, -, hj⟩ := id hC
  obtain ⟨r, σ1, σ2, hk1, hk2, hR2⟩ := hst σ hR (xs (x3 + 1).toNatClampNeg) (xs (x3 + 2).toNatClampNeg)
  refine lv_aload_n hx hb d_L_law_1502 rfl (lv_at hl 1 rfl) ?_
  refine lv_aload_n hx hb d_L_law_1503 rfl (lv_at hl 0 rfl) ?_
  refine lv_iload_n hx hb d_L_law_1504 rfl (lv_at hl 3 rfl) ?_
  refine lv_iconst (v := 1) hx hb d_L_law_1505 (by decide) ?_
  refine lv_iadd hx hb d_L_law_1506 ?_
  refine va_sld hx hb hX hbl hbA hS h_1 d_L_law_1507 ?_
  refine lv_aload_n hx hb d_L_law_1508 rfl (lv_at hl 0 rfl) ?_
  refine lv_iload_n hx hb d_L_law_1509 rfl (lv_at hl 3 rfl) ?_
  refine lv_iconst (v := 2) hx hb d_L_law_1510 (by decide) ?_
  refine lv_iadd hx hb d_L_law_1511 ?_
  refine va_sld hx hb hX hbl hbA hS h_2 d_L_law_1512 ?_
  refine g_calli hS (g_runV (b := 0) (As := [.int (xs (x3 + 1).toNatClampNeg), .int (xs (x3 + 2).toNatClampNeg)]) (rest := []) hC hP (c_X_meet hj hk1) (rkl (by decide) (by decide)) nm_X_meet cd_X_meet it_WideTown ml_L_185 im_X_meet sl_X_meet o_0 co_X rfl hl.1 rfl (Nat.le_of_ble_eq_true rfl) d_L_law_1513 hf) (fun H locs hP hS => ?_)
  refine lv_aload_n hx hb d_L_law_1516 rfl (lv_at hl 2 rfl) ?_
  refine lv_aload_n hx hb d_L_law_1517 rfl (lv_at hl 0 rfl) ?_
  refine lv_iload_n hx hb d_L_law_1518 rfl (lv_at hl 3 rfl) ?_
  refine lv_iconst (v := 1) hx hb d_L_law_1519 (by decide) ?_
  refine lv_iadd hx hb d_L_law_1520 ?_
  refine va_sld hx hb hX hbl hbA hS h_1 d_L_law_1521 ?_
  refine lv_aload_n hx hb d_L_law_1522 rfl (lv_at hl 0 rfl) ?_
  refine lv_iload_n hx hb d_L_law_1523 rfl (lv_at hl 3 rfl) ?_
  refine lv_iconst (v := 2) hx hb d_L_law_1524 (by decide) ?_
  refine lv_iadd hx hb d_L_law_1525 ?_
  refine va_sld hx hb hX hbl hbA hS h_2 d_L_law_1526 ?_
  refine g_calli hS (g_runV (b := 63) (As := [.int (xs (x3 + 1).toNatClampNeg), .int (xs (x3 + 2).toNatClampNeg)]) (rest := [.int r]) hC hP (c_M_meet hj hk2) (rkl (by decide) (by decide)) nm_M_meet cd_M_meet it_WideTownModel ml_L_188 im_M_meet sl_M_meet o_63 co_M rfl hl.1 rfl (Nat.le_of_ble_eq_true rfl) d_L_law_1527 hf) (fun H locs hP hS => ?_)
  exact lv_icmp_eq (tgt := 1725) hx hb d_L_law_1530 (by decide) (fun _ => kk _ _ _ hR2 hP hS) (fun hc => absurd rfl hc)
set_option maxHeartbeats 4000000 in
theorem lc_part {ls : Array Slot} (hl : lv_has ls 4 [(0, .ref b), (1, .ref (ad 0)), (2, .ref (ad 63)), (3, .int x3)]) (hC : Ctx p s m #[Value.ref b] meth c D K ad "WideTownLaw" code 4 ret) (hX : va_X b L xs s s.heap) (hbl : b < s.heap.size) (hbA : ¬ GA ad b) (h_1 : vp_in (x3 + 1) L) (h_2 : vp_in (x3 + 2) L) (h_3 : vp_in (x3 + 3) L) (h_4 : vp_in (x3 + 4) L) (h_5 : vp_in (x3 + 5) L) (hf : cells ≤ room_1.cells ∧ slots ≤ room_1.slots) (hst : St_part Rel) (hR : Rel σ) (hP : va_P D vwCl (wG K ad σ) H) (hS : va_S (GA ad) s.heap H locs)
    (kk : ∀ (σ' : GS) (H1 : Heap) (locs1 : List Loc), Rel σ' → va_P D vwCl (wG K ad σ') H1 → va_S (GA ad) s.heap H1 locs1 → W p l e room_1 s m #[Value.ref b] below meth c H1 locs1 cells slots Q (F0 m 1725 ls [])) : W p l e room_1 s m #[Value.ref b] below meth c H locs cells slots Q (F0 m 1535 ls []) := by
  obtain ⟨hx, hb, -, hown, hts, -, -, -, -, hj⟩ := id hC
  obtain ⟨r, σ1, σ2, hk1, hk2, hR2⟩ := hst σ hR (xs (x3 + 1).toNatClampNeg) (xs (x3 + 2).toNatClampNeg) (xs (x3 + 3).toNatClampNeg)
  refine lv_aload_n hx hb d_L_law_1535 rfl (lv_at hl 1 rfl) ?_
  refine lv_aload_n hx hb d_L_law_1536 rfl (lv_at hl 0 rfl) ?_
  refine lv_iload_n hx hb d_L_law_1537 rfl (lv_at hl 3 rfl) ?_
  refine lv_iconst (v := 1) hx hb d_L_law_1538 (by decide) ?_
  refine lv_iadd hx hb d_L_law_1539 ?_
  refine va_sld hx hb hX hbl hbA hS h_1 d_L_law_1540 ?_
  refine lv_aload_n hx hb d_L_law_1541 rfl (lv_at hl 0 rfl) ?_
  refine lv_iload_n hx hb d_L_law_1542 rfl (lv_at hl 3 rfl) ?_
  refine lv_iconst (v := 2) hx hb d_L_law_1543 (by decide) ?_
  refine lv_iadd hx hb d_L_law_1544 ?_
  refine va_sld hx hb hX hbl hbA hS h_2 d_L_law_1545 ?_
  refine lv_aload_n hx hb d_L_law_1546 rfl (lv_at hl 0 rfl) ?_
  refine lv_iload_n hx hb d_L_law_1547 rfl (lv_at hl 3 rfl) ?_
  refine lv_iconst (v := 3) hx hb d_L_law_1548 (by decide) ?_
  refine lv_iadd hx hb d_L_law_1549 ?_
  refine va_sld hx hb hX hbl hbA hS h_3 d_L_law_1550 ?_
  refine g_calli hS (g_runV (b := 0) (As := [.int (xs (x3 + 1).toNatClampNeg), .int (xs (x3 + 2).toNatClampNeg), .int (xs (x3 + 3).toNatClampNeg)]) (rest := []) hC hP (c_X_part hj hk1) (rkl (by decide) (by decide)) nm_X_part cd_X_part it_WideTown ml_L_189 im_X_part sl_X_part o_0 co_X rfl hl.1 rfl (Nat.le_of_ble_eq_true rfl) d_L_law_1551 hf) (fun H locs hP hS => ?_)
  refine lv_aload_n hx hb d_L_law_1554 rfl (lv_at hl 2 rfl) ?_
  refine lv_aload_n hx hb d_L_law_1555 rfl (lv_at hl 0 rfl) ?_
  refine lv_iload_n hx hb d_L_law_1556 rfl (lv_at hl 3 rfl) ?_
  refine lv_iconst (v := 1) hx hb d_L_law_1557 (by decide) ?_
  refine lv_iadd hx hb d_L_law_1558 ?_
  refine va_sld hx hb hX hbl hbA hS h_1 d_L_law_1559 ?_
  refine lv_aload_n hx hb d_L_law_1560 rfl (lv_at hl 0 rfl) ?_
  refine lv_iload_n hx hb d_L_law_1561 rfl (lv_at hl 3 rfl) ?_
  refine lv_iconst (v := 2) hx hb d_L_law_1562 (by decide) ?_
  refine lv_iadd hx hb d_L_law_1563 ?_
  refine va_sld hx hb hX hbl hbA hS h_2 d_L_law_1564 ?_
  refine lv_aload_n hx hb d_L_law_1565 rfl (lv_at hl 0 rfl) ?_
  refine lv_iload_n hx hb d_L_law_1566 rfl (lv_at hl 3 rfl) ?_
  refine lv_iconst (v := 3) hx hb d_L_law_1567 (by decide) ?_
  refine lv_iadd hx hb d_L_law_1568 ?_
  refine va_sld hx hb hX hbl hbA hS h_3 d_L_law_1569 ?_
  refine g_calli hS (g_runV (b := 63) (As := [.int (xs (x3 + 1).toNatClampNeg), .int (xs (x3 + 2).toNatClampNeg), .int (xs (x3 + 3).toNatClampNeg)]) (rest := [.int r]) hC hP (c_M_part hj hk2) (rkl (by decide) (by decide)) nm_M_part cd_M_part it_WideTownModel ml_L_192 im_M_part sl_M_part o_63 co_M rfl hl.1 rfl (Nat.le_of_ble_eq_true rfl) d_L_law_1570 hf) (fun H locs hP hS => ?_)
  exact lv_icmp_eq (tgt := 1725) hx hb d_L_law_1573 (by decide) (fun _ => kk _ _ _ hR2 hP hS) (fun hc => absurd rfl hc)
set_option maxHeartbeats 4000000 in
theorem lc_drunk {ls : Array Slot} (hl : lv_has ls 4 [(0, .ref b), (1, .ref (ad 0)), (2, .ref (ad 63)), (3, .int x3)]) (hC : Ctx p s m #[Value.ref b] meth c D K ad "WideTownLaw" code 4 ret) (hX : va_X b L xs s s.heap) (hbl : b < s.heap.size) (hbA : ¬ GA ad b) (h_1 : vp_in (x3 + 1) L) (h_2 : vp_in (x3 + 2) L) (h_3 : vp_in (x3 + 3) L) (h_4 : vp_in (x3 + 4) L) (h_5 : vp_in (x3 + 5) L) (hf : cells ≤ room_1.cells ∧ slots ≤ room_1.slots) (hst : St_drunk Rel) (hR : Rel σ) (hP : va_P D vwCl (wG K ad σ) H) (hS : va_S (GA ad) s.heap H locs)
    (kk : ∀ (σ' : GS) (H1 : Heap) (locs1 : List Loc), Rel σ' → va_P D vwCl (wG K ad σ') H1 → va_S (GA ad) s.heap H1 locs1 → W p l e room_1 s m #[Value.ref b] below meth c H1 locs1 cells slots Q (F0 m 1725 ls [])) : W p l e room_1 s m #[Value.ref b] below meth c H locs cells slots Q (F0 m 1578 ls []) := by
  obtain ⟨hx, hb, -, hown, hts, -, -, -, -, hj⟩ := id hC
  obtain ⟨r, σ1, σ2, hk1, hk2, hR2⟩ := hst σ hR (xs (x3 + 1).toNatClampNeg) (xs (x3 + 2).toNatClampNeg)
  refine lv_aload_n hx hb d_L_law_1578 rfl (lv_at hl 1 rfl) ?_
  refine lv_aload_n hx hb d_L_law_1579 rfl (lv_at hl 0 rfl) ?_
  refine lv_iload_n hx hb d_L_law_1580 rfl (lv_at hl 3 rfl) ?_
  refine lv_iconst (v := 1) hx hb d_L_law_1581 (by decide) ?_
  refine lv_iadd hx hb d_L_law_1582 ?_
  refine va_sld hx hb hX hbl hbA hS h_1 d_L_law_1583 ?_
  refine lv_aload_n hx hb d_L_law_1584 rfl (lv_at hl 0 rfl) ?_
  refine lv_iload_n hx hb d_L_law_1585 rfl (lv_at hl 3 rfl) ?_
  refine lv_iconst (v := 2) hx hb d_L_law_1586 (by decide) ?_
  refine lv_iadd hx hb d_L_law_1587 ?_
  refine va_sld hx hb hX hbl hbA hS h_2 d_L_law_1588 ?_
  refine g_calli hS (g_runV (b := 0) (As := [.int (xs (x3 + 1).toNatClampNeg), .int (xs (x3 + 2).toNatClampNeg)]) (rest := []) hC hP (c_X_drunk hj hk1) (rkl (by decide) (by decide)) nm_X_drunk cd_X_drunk it_WideTown ml_L_193 im_X_drunk sl_X_drunk o_0 co_X rfl hl.1 rfl (Nat.le_of_ble_eq_true rfl) d_L_law_1589 hf) (fun H locs hP hS => ?_)
  refine lv_aload_n hx hb d_L_law_1592 rfl (lv_at hl 2 rfl) ?_
  refine lv_aload_n hx hb d_L_law_1593 rfl (lv_at hl 0 rfl) ?_
  refine lv_iload_n hx hb d_L_law_1594 rfl (lv_at hl 3 rfl) ?_
  refine lv_iconst (v := 1) hx hb d_L_law_1595 (by decide) ?_
  refine lv_iadd hx hb d_L_law_1596 ?_
  refine va_sld hx hb hX hbl hbA hS h_1 d_L_law_1597 ?_
  refine lv_aload_n hx hb d_L_law_1598 rfl (lv_at hl 0 rfl) ?_
  refine lv_iload_n hx hb d_L_law_1599 rfl (lv_at hl 3 rfl) ?_
  refine lv_iconst (v := 2) hx hb d_L_law_1600 (by decide) ?_
  refine lv_iadd hx hb d_L_law_1601 ?_
  refine va_sld hx hb hX hbl hbA hS h_2 d_L_law_1602 ?_
  refine g_calli hS (g_runV (b := 63) (As := [.int (xs (x3 + 1).toNatClampNeg), .int (xs (x3 + 2).toNatClampNeg)]) (rest := [.int r]) hC hP (c_M_drunk hj hk2) (rkl (by decide) (by decide)) nm_M_drunk cd_M_drunk it_WideTownModel ml_L_196 im_M_drunk sl_M_drunk o_63 co_M rfl hl.1 rfl (Nat.le_of_ble_eq_true rfl) d_L_law_1603 hf) (fun H locs hP hS => ?_)
  exact lv_icmp_eq (tgt := 1725) hx hb d_L_law_1606 (by decide) (fun _ => kk _ _ _ hR2 hP hS) (fun hc => absurd rfl hc)
set_option maxHeartbeats 4000000 in
theorem lc_asked {ls : Array Slot} (hl : lv_has ls 4 [(0, .ref b), (1, .ref (ad 0)), (2, .ref (ad 63)), (3, .int x3)]) (hC : Ctx p s m #[Value.ref b] meth c D K ad "WideTownLaw" code 4 ret) (hX : va_X b L xs s s.heap) (hbl : b < s.heap.size) (hbA : ¬ GA ad b) (h_1 : vp_in (x3 + 1) L) (h_2 : vp_in (x3 + 2) L) (h_3 : vp_in (x3 + 3) L) (h_4 : vp_in (x3 + 4) L) (h_5 : vp_in (x3 + 5) L) (hf : cells ≤ room_1.cells ∧ slots ≤ room_1.slots) (hst : St_asked Rel) (hR : Rel σ) (hP : va_P D vwCl (wG K ad σ) H) (hS : va_S (GA ad) s.heap H locs)
    (kk : ∀ (σ' : GS) (H1 : Heap) (locs1 : List Loc), Rel σ' → va_P D vwCl (wG K ad σ') H1 → va_S (GA ad) s.heap H1 locs1 → W p l e room_1 s m #[Value.ref b] below meth c H1 locs1 cells slots Q (F0 m 1725 ls [])) : W p l e room_1 s m #[Value.ref b] below meth c H locs cells slots Q (F0 m 1611 ls []) := by
  obtain ⟨hx, hb, -, hown, hts, -, -, -, -, hj⟩ := id hC
  obtain ⟨r, hk1, hk2, hR2⟩ := hst σ hR 
  refine lv_aload_n hx hb d_L_law_1611 rfl (lv_at hl 1 rfl) ?_
  refine g_calli hS (g_runV (b := 0) (As := []) (rest := []) hC hP (c_X_asked hj hk1) (rkl (by decide) (by decide)) nm_X_asked cd_X_asked it_WideTown ml_L_197 im_X_asked sl_X_asked o_0 co_X rfl hl.1 rfl (Nat.le_of_ble_eq_true rfl) d_L_law_1612 hf) (fun H locs hP hS => ?_)
  refine lv_aload_n hx hb d_L_law_1615 rfl (lv_at hl 2 rfl) ?_
  refine g_calli hS (g_runV (b := 63) (As := []) (rest := [.int r]) hC hP (c_M_asked hj hk2) (rkl (by decide) (by decide)) nm_M_asked cd_M_asked it_WideTownModel ml_L_201 im_M_asked sl_M_asked o_63 co_M rfl hl.1 rfl (Nat.le_of_ble_eq_true rfl) d_L_law_1616 hf) (fun H locs hP hS => ?_)
  exact lv_icmp_eq (tgt := 1725) hx hb d_L_law_1619 (by decide) (fun _ => kk _ _ _ hR2 hP hS) (fun hc => absurd rfl hc)
set_option maxHeartbeats 4000000 in
theorem lc_upper {ls : Array Slot} (hl : lv_has ls 4 [(0, .ref b), (1, .ref (ad 0)), (2, .ref (ad 63)), (3, .int x3)]) (hC : Ctx p s m #[Value.ref b] meth c D K ad "WideTownLaw" code 4 ret) (hX : va_X b L xs s s.heap) (hbl : b < s.heap.size) (hbA : ¬ GA ad b) (h_1 : vp_in (x3 + 1) L) (h_2 : vp_in (x3 + 2) L) (h_3 : vp_in (x3 + 3) L) (h_4 : vp_in (x3 + 4) L) (h_5 : vp_in (x3 + 5) L) (hf : cells ≤ room_1.cells ∧ slots ≤ room_1.slots) (hst : St_upper Rel) (hR : Rel σ) (hP : va_P D vwCl (wG K ad σ) H) (hS : va_S (GA ad) s.heap H locs)
    (kk : ∀ (σ' : GS) (H1 : Heap) (locs1 : List Loc), Rel σ' → va_P D vwCl (wG K ad σ') H1 → va_S (GA ad) s.heap H1 locs1 → W p l e room_1 s m #[Value.ref b] below meth c H1 locs1 cells slots Q (F0 m 1725 ls [])) : W p l e room_1 s m #[Value.ref b] below meth c H locs cells slots Q (F0 m 1624 ls []) := by
  obtain ⟨hx, hb, -, hown, hts, -, -, -, -, hj⟩ := id hC
  obtain ⟨r, hk1, hk2, hR2⟩ := hst σ hR 
  refine lv_aload_n hx hb d_L_law_1624 rfl (lv_at hl 1 rfl) ?_
  refine g_calll hS (g_runV (b := 0) (As := []) (rest := []) hC hP (c_X_upper hj hk1) (rkl (by decide) (by decide)) nm_X_upper cd_X_upper it_WideTown ml_L_202 im_X_upper sl_X_upper o_0 co_X rfl hl.1 rfl (Nat.le_of_ble_eq_true rfl) d_L_law_1625 hf) (fun H locs hP hS => ?_)
  refine lv_aload_n hx hb d_L_law_1628 rfl (lv_at hl 2 rfl) ?_
  refine g_calll hS (g_runV (b := 63) (As := []) (rest := [.long r]) hC hP (c_M_upper hj hk2) (rkl (by decide) (by decide)) nm_M_upper cd_M_upper it_WideTownModel ml_L_206 im_M_upper sl_M_upper o_63 co_M rfl hl.1 rfl (Nat.le_of_ble_eq_true rfl) d_L_law_1629 hf) (fun H locs hP hS => ?_)
  refine W.lcmp hx hb d_L_law_1632 ?_
  exact lv_if_eq (tgt := 1725) hx hb d_L_law_1633 (by decide) (fun _ => kk _ _ _ hR2 hP hS) (fun hc => absurd (lg_self r) hc)
set_option maxHeartbeats 4000000 in
theorem lc_lower {ls : Array Slot} (hl : lv_has ls 4 [(0, .ref b), (1, .ref (ad 0)), (2, .ref (ad 63)), (3, .int x3)]) (hC : Ctx p s m #[Value.ref b] meth c D K ad "WideTownLaw" code 4 ret) (hX : va_X b L xs s s.heap) (hbl : b < s.heap.size) (hbA : ¬ GA ad b) (h_1 : vp_in (x3 + 1) L) (h_2 : vp_in (x3 + 2) L) (h_3 : vp_in (x3 + 3) L) (h_4 : vp_in (x3 + 4) L) (h_5 : vp_in (x3 + 5) L) (hf : cells ≤ room_1.cells ∧ slots ≤ room_1.slots) (hst : St_lower Rel) (hR : Rel σ) (hP : va_P D vwCl (wG K ad σ) H) (hS : va_S (GA ad) s.heap H locs)
    (kk : ∀ (σ' : GS) (H1 : Heap) (locs1 : List Loc), Rel σ' → va_P D vwCl (wG K ad σ') H1 → va_S (GA ad) s.heap H1 locs1 → W p l e room_1 s m #[Value.ref b] below meth c H1 locs1 cells slots Q (F0 m 1725 ls [])) : W p l e room_1 s m #[Value.ref b] below meth c H locs cells slots Q (F0 m 1638 ls []) := by
  obtain ⟨hx, hb, -, hown, hts, -, -, -, -, hj⟩ := id hC
  obtain ⟨r, hk1, hk2, hR2⟩ := hst σ hR 
  refine lv_aload_n hx hb d_L_law_1638 rfl (lv_at hl 1 rfl) ?_
  refine g_calll hS (g_runV (b := 0) (As := []) (rest := []) hC hP (c_X_lower hj hk1) (rkl (by decide) (by decide)) nm_X_lower cd_X_lower it_WideTown ml_L_207 im_X_lower sl_X_lower o_0 co_X rfl hl.1 rfl (Nat.le_of_ble_eq_true rfl) d_L_law_1639 hf) (fun H locs hP hS => ?_)
  refine lv_aload_n hx hb d_L_law_1642 rfl (lv_at hl 2 rfl) ?_
  refine g_calll hS (g_runV (b := 63) (As := []) (rest := [.long r]) hC hP (c_M_lower hj hk2) (rkl (by decide) (by decide)) nm_M_lower cd_M_lower it_WideTownModel ml_L_210 im_M_lower sl_M_lower o_63 co_M rfl hl.1 rfl (Nat.le_of_ble_eq_true rfl) d_L_law_1643 hf) (fun H locs hP hS => ?_)
  refine W.lcmp hx hb d_L_law_1646 ?_
  exact lv_if_eq (tgt := 1725) hx hb d_L_law_1647 (by decide) (fun _ => kk _ _ _ hR2 hP hS) (fun hc => absurd (lg_self r) hc)
set_option maxHeartbeats 4000000 in
theorem lc_count {ls : Array Slot} (hl : lv_has ls 4 [(0, .ref b), (1, .ref (ad 0)), (2, .ref (ad 63)), (3, .int x3)]) (hC : Ctx p s m #[Value.ref b] meth c D K ad "WideTownLaw" code 4 ret) (hX : va_X b L xs s s.heap) (hbl : b < s.heap.size) (hbA : ¬ GA ad b) (h_1 : vp_in (x3 + 1) L) (h_2 : vp_in (x3 + 2) L) (h_3 : vp_in (x3 + 3) L) (h_4 : vp_in (x3 + 4) L) (h_5 : vp_in (x3 + 5) L) (hf : cells ≤ room_1.cells ∧ slots ≤ room_1.slots) (hst : St_count Rel) (hR : Rel σ) (hP : va_P D vwCl (wG K ad σ) H) (hS : va_S (GA ad) s.heap H locs)
    (kk : ∀ (σ' : GS) (H1 : Heap) (locs1 : List Loc), Rel σ' → va_P D vwCl (wG K ad σ') H1 → va_S (GA ad) s.heap H1 locs1 → W p l e room_1 s m #[Value.ref b] below meth c H1 locs1 cells slots Q (F0 m 1725 ls [])) : W p l e room_1 s m #[Value.ref b] below meth c H locs cells slots Q (F0 m 1652 ls []) := by
  obtain ⟨hx, hb, -, hown, hts, -, -, -, -, hj⟩ := id hC
  obtain ⟨r, hk1, hk2, hR2⟩ := hst σ hR (xs (x3 + 1).toNatClampNeg)
  refine lv_aload_n hx hb d_L_law_1652 rfl (lv_at hl 1 rfl) ?_
  refine lv_aload_n hx hb d_L_law_1653 rfl (lv_at hl 0 rfl) ?_
  refine lv_iload_n hx hb d_L_law_1654 rfl (lv_at hl 3 rfl) ?_
  refine lv_iconst (v := 1) hx hb d_L_law_1655 (by decide) ?_
  refine lv_iadd hx hb d_L_law_1656 ?_
  refine va_sld hx hb hX hbl hbA hS h_1 d_L_law_1657 ?_
  refine g_calli hS (g_runV (b := 0) (As := [.int (xs (x3 + 1).toNatClampNeg)]) (rest := []) hC hP (c_X_count hj hk1) (rkl (by decide) (by decide)) nm_X_count cd_X_count it_WideTown ml_L_211 im_X_count sl_X_count o_0 co_X rfl hl.1 rfl (Nat.le_of_ble_eq_true rfl) d_L_law_1658 hf) (fun H locs hP hS => ?_)
  refine lv_aload_n hx hb d_L_law_1661 rfl (lv_at hl 2 rfl) ?_
  refine lv_aload_n hx hb d_L_law_1662 rfl (lv_at hl 0 rfl) ?_
  refine lv_iload_n hx hb d_L_law_1663 rfl (lv_at hl 3 rfl) ?_
  refine lv_iconst (v := 1) hx hb d_L_law_1664 (by decide) ?_
  refine lv_iadd hx hb d_L_law_1665 ?_
  refine va_sld hx hb hX hbl hbA hS h_1 d_L_law_1666 ?_
  refine g_calli hS (g_runV (b := 63) (As := [.int (xs (x3 + 1).toNatClampNeg)]) (rest := [.int r]) hC hP (c_M_count hj hk2) (rkl (by decide) (by decide)) nm_M_count cd_M_count it_WideTownModel ml_L_214 im_M_count sl_M_count o_63 co_M rfl hl.1 rfl (Nat.le_of_ble_eq_true rfl) d_L_law_1667 hf) (fun H locs hP hS => ?_)
  exact lv_icmp_eq (tgt := 1725) hx hb d_L_law_1670 (by decide) (fun _ => kk _ _ _ hR2 hP hS) (fun hc => absurd rfl hc)
set_option maxHeartbeats 4000000 in
theorem lc_finding {ls : Array Slot} (hl : lv_has ls 4 [(0, .ref b), (1, .ref (ad 0)), (2, .ref (ad 63)), (3, .int x3)]) (hC : Ctx p s m #[Value.ref b] meth c D K ad "WideTownLaw" code 4 ret) (hX : va_X b L xs s s.heap) (hbl : b < s.heap.size) (hbA : ¬ GA ad b) (h_1 : vp_in (x3 + 1) L) (h_2 : vp_in (x3 + 2) L) (h_3 : vp_in (x3 + 3) L) (h_4 : vp_in (x3 + 4) L) (h_5 : vp_in (x3 + 5) L) (hf : cells ≤ room_1.cells ∧ slots ≤ room_1.slots) (hst : St_finding Rel) (hR : Rel σ) (hP : va_P D vwCl (wG K ad σ) H) (hS : va_S (GA ad) s.heap H locs)
    (kk : ∀ (σ' : GS) (H1 : Heap) (locs1 : List Loc), Rel σ' → va_P D vwCl (wG K ad σ') H1 → va_S (GA ad) s.heap H1 locs1 → W p l e room_1 s m #[Value.ref b] below meth c H1 locs1 cells slots Q (F0 m 1725 ls [])) : W p l e room_1 s m #[Value.ref b] below meth c H locs cells slots Q (F0 m 1675 ls []) := by
  obtain ⟨hx, hb, -, hown, hts, -, -, -, -, hj⟩ := id hC
  obtain ⟨r, hk1, hk2, hR2⟩ := hst σ hR 
  refine lv_aload_n hx hb d_L_law_1675 rfl (lv_at hl 1 rfl) ?_
  refine g_calli hS (g_runV (b := 0) (As := []) (rest := []) hC hP (c_X_finding hj hk1) (rkl (by decide) (by decide)) nm_X_finding cd_X_finding it_WideTown ml_L_215 im_X_finding sl_X_finding o_0 co_X rfl hl.1 rfl (Nat.le_of_ble_eq_true rfl) d_L_law_1676 hf) (fun H locs hP hS => ?_)
  refine lv_aload_n hx hb d_L_law_1679 rfl (lv_at hl 2 rfl) ?_
  refine g_calli hS (g_runV (b := 63) (As := []) (rest := [.int r]) hC hP (c_M_finding hj hk2) (rkl (by decide) (by decide)) nm_M_finding cd_M_finding it_WideTownModel ml_L_218 im_M_finding sl_M_finding o_63 co_M rfl hl.1 rfl (Nat.le_of_ble_eq_true rfl) d_L_law_1680 hf) (fun H locs hP hS => ?_)
  exact lv_icmp_eq (tgt := 1725) hx hb d_L_law_1683 (by decide) (fun _ => kk _ _ _ hR2 hP hS) (fun hc => absurd rfl hc)
set_option maxHeartbeats 4000000 in
theorem lc_findings {ls : Array Slot} (hl : lv_has ls 4 [(0, .ref b), (1, .ref (ad 0)), (2, .ref (ad 63)), (3, .int x3)]) (hC : Ctx p s m #[Value.ref b] meth c D K ad "WideTownLaw" code 4 ret) (hX : va_X b L xs s s.heap) (hbl : b < s.heap.size) (hbA : ¬ GA ad b) (h_1 : vp_in (x3 + 1) L) (h_2 : vp_in (x3 + 2) L) (h_3 : vp_in (x3 + 3) L) (h_4 : vp_in (x3 + 4) L) (h_5 : vp_in (x3 + 5) L) (hf : cells ≤ room_1.cells ∧ slots ≤ room_1.slots) (hst : St_findings Rel) (hR : Rel σ) (hP : va_P D vwCl (wG K ad σ) H) (hS : va_S (GA ad) s.heap H locs)
    (kk : ∀ (σ' : GS) (H1 : Heap) (locs1 : List Loc), Rel σ' → va_P D vwCl (wG K ad σ') H1 → va_S (GA ad) s.heap H1 locs1 → W p l e room_1 s m #[Value.ref b] below meth c H1 locs1 cells slots Q (F0 m 1725 ls [])) : W p l e room_1 s m #[Value.ref b] below meth c H locs cells slots Q (F0 m 1688 ls []) := by
  obtain ⟨hx, hb, -, hown, hts, -, -, -, -, hj⟩ := id hC
  obtain ⟨r, hk1, hk2, hR2⟩ := hst σ hR (xs (x3 + 1).toNatClampNeg)
  refine lv_aload_n hx hb d_L_law_1688 rfl (lv_at hl 1 rfl) ?_
  refine lv_aload_n hx hb d_L_law_1689 rfl (lv_at hl 0 rfl) ?_
  refine lv_iload_n hx hb d_L_law_1690 rfl (lv_at hl 3 rfl) ?_
  refine lv_iconst (v := 1) hx hb d_L_law_1691 (by decide) ?_
  refine lv_iadd hx hb d_L_law_1692 ?_
  refine va_sld hx hb hX hbl hbA hS h_1 d_L_law_1693 ?_
  refine g_calli hS (g_runV (b := 0) (As := [.int (xs (x3 + 1).toNatClampNeg)]) (rest := []) hC hP (c_X_findings hj hk1) (rkl (by decide) (by decide)) nm_X_findings cd_X_findings it_WideTown ml_L_219 im_X_findings sl_X_findings o_0 co_X rfl hl.1 rfl (Nat.le_of_ble_eq_true rfl) d_L_law_1694 hf) (fun H locs hP hS => ?_)
  refine lv_aload_n hx hb d_L_law_1697 rfl (lv_at hl 2 rfl) ?_
  refine lv_aload_n hx hb d_L_law_1698 rfl (lv_at hl 0 rfl) ?_
  refine lv_iload_n hx hb d_L_law_1699 rfl (lv_at hl 3 rfl) ?_
  refine lv_iconst (v := 1) hx hb d_L_law_1700 (by decide) ?_
  refine lv_iadd hx hb d_L_law_1701 ?_
  refine va_sld hx hb hX hbl hbA hS h_1 d_L_law_1702 ?_
  refine g_calli hS (g_runV (b := 63) (As := [.int (xs (x3 + 1).toNatClampNeg)]) (rest := [.int r]) hC hP (c_M_findings hj hk2) (rkl (by decide) (by decide)) nm_M_findings cd_M_findings it_WideTownModel ml_L_222 im_M_findings sl_M_findings o_63 co_M rfl hl.1 rfl (Nat.le_of_ble_eq_true rfl) d_L_law_1703 hf) (fun H locs hP hS => ?_)
  exact lv_icmp_eq (tgt := 1725) hx hb d_L_law_1706 (by decide) (fun _ => kk _ _ _ hR2 hP hS) (fun hc => absurd rfl hc)
set_option maxHeartbeats 4000000 in
theorem lc_digest {ls : Array Slot} (hl : lv_has ls 4 [(0, .ref b), (1, .ref (ad 0)), (2, .ref (ad 63)), (3, .int x3)]) (hC : Ctx p s m #[Value.ref b] meth c D K ad "WideTownLaw" code 4 ret) (hX : va_X b L xs s s.heap) (hbl : b < s.heap.size) (hbA : ¬ GA ad b) (h_1 : vp_in (x3 + 1) L) (h_2 : vp_in (x3 + 2) L) (h_3 : vp_in (x3 + 3) L) (h_4 : vp_in (x3 + 4) L) (h_5 : vp_in (x3 + 5) L) (hf : cells ≤ room_1.cells ∧ slots ≤ room_1.slots) (hst : St_digest Rel) (hR : Rel σ) (hP : va_P D vwCl (wG K ad σ) H) (hS : va_S (GA ad) s.heap H locs)
    (kk : ∀ (σ' : GS) (H1 : Heap) (locs1 : List Loc), Rel σ' → va_P D vwCl (wG K ad σ') H1 → va_S (GA ad) s.heap H1 locs1 → W p l e room_1 s m #[Value.ref b] below meth c H1 locs1 cells slots Q (F0 m 1725 ls [])) : W p l e room_1 s m #[Value.ref b] below meth c H locs cells slots Q (F0 m 1711 ls []) := by
  obtain ⟨hx, hb, -, hown, hts, -, -, -, -, hj⟩ := id hC
  obtain ⟨r, σ1, hk1, hk2, hR2⟩ := hst σ hR 
  refine lv_aload_n hx hb d_L_law_1711 rfl (lv_at hl 1 rfl) ?_
  refine g_calll hS (g_runV (b := 0) (As := []) (rest := []) hC hP (c_X_digest hj hk1) (rkl (by decide) (by decide)) nm_X_digest cd_X_digest it_WideTown ml_L_223 im_X_digest sl_X_digest o_0 co_X rfl hl.1 rfl (Nat.le_of_ble_eq_true rfl) d_L_law_1712 hf) (fun H locs hP hS => ?_)
  refine lv_aload_n hx hb d_L_law_1715 rfl (lv_at hl 2 rfl) ?_
  refine g_calll hS (g_runV (b := 63) (As := []) (rest := [.long r]) hC hP (c_M_digest hj hk2) (rkl (by decide) (by decide)) nm_M_digest cd_M_digest it_WideTownModel ml_L_226 im_M_digest sl_M_digest o_63 co_M rfl hl.1 rfl (Nat.le_of_ble_eq_true rfl) d_L_law_1716 hf) (fun H locs hP hS => ?_)
  refine W.lcmp hx hb d_L_law_1719 ?_
  exact lv_if_eq (tgt := 1725) hx hb d_L_law_1720 (by decide) (fun _ => kk _ _ _ hR2 hP hS) (fun hc => absurd (lg_self r) hc)
end LC
