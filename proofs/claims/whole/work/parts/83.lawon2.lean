/-! THE LAW, a call at a time: with power, what writes (laid by wip/gen/spec_law.py) -/
set_option maxHeartbeats 4000000 in
set_option maxRecDepth 100000 in
theorem lw_on_window {pz : Program} {l : Launch} {ez : Env} {sz : State} {mz : MethodId} {below : List Frame} {meth : Method} {cz : Code} {X : kX} {bb L : Nat} {xs : Nat → Int32} {A_ : Nat → Prop} {bl bk b n i a p pk pv h hk hv d lk lv t fa oa t2 fa2 oa2 ch ck cv rs rk_ rv rd m mn xr yr vr cr wr wl wc rx ry mv fr : Nat} {Q : State → Prop} {H : Heap} {locs : List Loc} {ls : Array Slot} (C0 : lwc pz sz mz cz X bb L xs A_) (hpar : lpar bl bk b) (hn : n < 512) (hi : i + 6 ≤ L) (hL : L ≤ 3075) (hI : LOn X A_ bl bk b n a p pk pv h hk hv d lk lv t fa oa t2 fa2 oa2 ch ck cv rs rk_ rv rd m mn xr yr vr cr wr wl wc rx ry mv fr H) (hS : va_S A_ sz.heap H locs) (hl : lv_has ls 4 [(0, .ref bb), (1, .ref a), (2, .ref m), (3, .int (nI i))]) (kk : ∀ (H1 : Heap) (locs1 : List Loc), LOn X A_ bl bk b (n + 1) a p pk pv h hk hv d lk lv t fa oa t2 fa2 oa2 ch ck cv rs rk_ rv rd m mn xr yr vr cr wr wl wc rx ry mv fr H1 ∨ LOff X A_ bl bk b (n + 1) a p pk pv h hk hv d lk lv t fa oa t2 fa2 oa2 ch ck cv rs rk_ rv rd m mn xr yr vr cr wr wl wc rx ry mv fr H1 → va_S A_ sz.heap H1 locs1 → W pz l ez room_1 sz mz #[Value.ref bb] below meth cz H1 locs1 600000 7302250 Q (F0 mz 649 ls [])) : W pz l ez room_1 sz mz #[Value.ref bb] below meth cz H locs 600000 7302250 Q (F0 mz 259 ls []) := by
  obtain ⟨hx, hb, hml, hown, hts, hXs, hbl0, hK, hN, hbA⟩ := C0
  obtain ⟨hbl1, hbl, hbk, hbk2, hb1⟩ := hpar
  have hsp := pw15 hb1
  refine LOn.use hI (fun cp w wh f_ct f_nn f_dd f_mo e_nn e_dd e_mo f_wt f_lv f_fi f_en f_cd pkf pvf hkf hvf lkf lvf ff o ffb ob ckf cvf rkf rvf mf xf yf vf wf lf rxf ryf mvf rdf cf kf frf P Hm ZP ZQ C R K f_cp f_w f_wh f_p f_h f_c f_r f_t f_t2 f_m0 f_m1 f_mr f_ap f_tr f_tr2 f_k f_kh f_kc hP hD => ?_)
  clear hI
  refine lv_aload_n hx hb dL_law_259 rfl (lv_at hl 1 rfl) ?_
  refine lv_aload_n hx hb dL_law_260 rfl (lv_at hl 0 rfl) ?_
  refine lv_iload_n hx hb dL_law_261 rfl (lv_at hl 3 rfl) ?_
  refine lv_iconst (v := nI 1) hx hb dL_law_262 (by decide) ?_
  refine lv_iadd hx hb dL_law_263 ?_
  refine lv_topi (fun x_1 ex_1 => ?_)
  obtain rfl : x_1 = nI (i + 1) := by
    rw [ex_1]
    exact nI_add _ _
  refine va_sld hx hb hXs hbl0 hbA hS (vp_in_nI (n := i + 1) (by omega) (by omega)) dL_law_264 ?_
  refine lv_topi (fun x_2 ex_2 => ?_)
  obtain rfl : x_2 = xs (i + 1) := by
    rw [ex_2]
    rw [nI_clamp (by omega)]
  refine lv_aload_n hx hb dL_law_265 rfl (lv_at hl 0 rfl) ?_
  refine lv_iload_n hx hb dL_law_266 rfl (lv_at hl 3 rfl) ?_
  refine lv_iconst (v := nI 2) hx hb dL_law_267 (by decide) ?_
  refine lv_iadd hx hb dL_law_268 ?_
  refine lv_topi (fun x_3 ex_3 => ?_)
  obtain rfl : x_3 = nI (i + 2) := by
    rw [ex_3]
    exact nI_add _ _
  refine va_sld hx hb hXs hbl0 hbA hS (vp_in_nI (n := i + 2) (by omega) (by omega)) dL_law_269 ?_
  refine lv_topi (fun x_4 ex_4 => ?_)
  obtain rfl : x_4 = xs (i + 2) := by
    rw [ex_4]
    rw [nI_clamp (by omega)]
  refine lv_aload_n hx hb dL_law_270 rfl (lv_at hl 0 rfl) ?_
  refine lv_iload_n hx hb dL_law_271 rfl (lv_at hl 3 rfl) ?_
  refine lv_iconst (v := nI 3) hx hb dL_law_272 (by decide) ?_
  refine lv_iadd hx hb dL_law_273 ?_
  refine lv_topi (fun x_5 ex_5 => ?_)
  obtain rfl : x_5 = nI (i + 3) := by
    rw [ex_5]
    exact nI_add _ _
  refine va_sld hx hb hXs hbl0 hbA hS (vp_in_nI (n := i + 3) (by omega) (by omega)) dL_law_274 ?_
  refine lv_topi (fun x_6 ex_6 => ?_)
  obtain rfl : x_6 = xs (i + 3) := by
    rw [ex_6]
    rw [nI_clamp (by omega)]
  refine lv_aload_n hx hb dL_law_275 rfl (lv_at hl 0 rfl) ?_
  refine lv_iload_n hx hb dL_law_276 rfl (lv_at hl 3 rfl) ?_
  refine lv_iconst (v := nI 4) hx hb dL_law_277 (by decide) ?_
  refine lv_iadd hx hb dL_law_278 ?_
  refine lv_topi (fun x_7 ex_7 => ?_)
  obtain rfl : x_7 = nI (i + 4) := by
    rw [ex_7]
    exact nI_add _ _
  refine va_sld hx hb hXs hbl0 hbA hS (vp_in_nI (n := i + 4) (by omega) (by omega)) dL_law_279 ?_
  refine lv_topi (fun x_8 ex_8 => ?_)
  obtain rfl : x_8 = xs (i + 4) := by
    rw [ex_8]
    rw [nI_clamp (by omega)]
  refine lv_aload_n hx hb dL_law_280 rfl (lv_at hl 0 rfl) ?_
  refine lv_iload_n hx hb dL_law_281 rfl (lv_at hl 3 rfl) ?_
  refine lv_iconst (v := nI 5) hx hb dL_law_282 (by decide) ?_
  refine lv_iadd hx hb dL_law_283 ?_
  refine lv_topi (fun x_9 ex_9 => ?_)
  obtain rfl : x_9 = nI (i + 5) := by
    rw [ex_9]
    exact nI_add _ _
  refine va_sld hx hb hXs hbl0 hbA hS (vp_in_nI (n := i + 5) (by omega) (by omega)) dL_law_284 ?_
  refine lv_topi (fun x_10 ex_10 => ?_)
  obtain rfl : x_10 = xs (i + 5) := by
    rw [ex_10]
    rw [nI_clamp (by omega)]
  refine ckVi (As := [.int (xs (i + 1)), .int (xs (i + 2)), .int (xs (i + 3)), .int (xs (i + 4)), .int (xs (i + 5))]) (rest := []) 0 [0, 7, 1, 2, 3, 4, 5, 6, 19, 20, 21] (c_X5_window l X a d p t t2 ch rs (2 ^ b) bl bk cp f_ct h lk lv 0 pk pv w hk hv wh rk_ rv rd (xs (i + 1)) (xs (i + 2)) (xs (i + 3)) (xs (i + 4)) (xs (i + 5)) pkf pvf hkf hvf rkf rvf P Hm R f_p f_h f_r) ⟨hx, hb, hml, hown, hts⟩ (cwV 5 hts gL_law_X5_window rfl rfl rfl (by decide +kernel) ⟨Nat.le_of_ble_eq_true rfl, Nat.le_of_ble_eq_true rfl⟩) hK hN hP hD hS (by decide) rfl (ci := 5) rfl rfl (fun _ => rfl) rfl hl.1 rfl (Nat.le_of_ble_eq_true rfl) dL_law_285 ⟨lroom.1, lroom.2⟩ (fun ra u_11 H locs ha hP hD hS => ?_)
  obtain ⟨rk2, rv2, R2⟩ := u_11
  have hP : va_P X.1 vwCl [(a, .inr (5, [.int (nI bl), .int (nI bk), .int (nI (2 ^ b)), .ref d, .ref p, .ref t, .ref t2, .ref ch, .ref rs, .int (nI 1), .int f_ct, .int (nI cp)])), (p, .inr (2, [.ref pk, .ref pv, .int (nI P.length), .int (nI w)])), (pk, .inl (X.2.1, 512, .inl pkf)), (pv, .inl (X.2.1, 512, .inl pvf)), (h, .inr (2, [.ref hk, .ref hv, .int (nI Hm.length), .int (nI wh)])), (hk, .inl (X.2.1, 512, .inl hkf)), (hv, .inl (X.2.1, 512, .inl hvf)), (d, .inr (1, [.ref h, .ref lk, .ref lv, .int (nI 0)])), (lk, .inl (X.2.1, 60, .inl lkf)), (lv, .inl (X.2.1, 60, .inl lvf)), (t, .inr (4, [.ref p, .int (nI bk), .int (nI b), .int (nI (bl + 1)), .ref fa, .ref oa, .int f_nn, .int f_dd, .int f_mo])), (fa, .inl (X.2.1, 6 * (bl + 1), .inl ff)), (oa, .inl (X.2.1, 512, .inl o)), (t2, .inr (4, [.ref h, .int (nI bk), .int (nI b), .int (nI (bl + 1)), .ref fa2, .ref oa2, .int e_nn, .int e_dd, .int e_mo])), (fa2, .inl (X.2.1, 6 * (bl + 1), .inl ffb)), (oa2, .inl (X.2.1, 512, .inl ob)), (ch, .inr (0, [.ref ck, .ref cv, .int (nI C.length)])), (ck, .inl (X.2.1, 60, .inl ckf)), (cv, .inl (X.2.1, 60, .inl cvf)), (rs, .inr (3, [.ref rk_, .ref rv, .ref rd, .int (nI R2.length)])), (rk_, .inl (X.2.1, 150, .inl rk2)), (rv, .inl (X.2.1, 150, .inl rv2)), (rd, .inl (X.2.2, 150, .inr (.inl rdf))), (m, .inr (6, [.int (nI bl), .int (nI bk), .int (nI b), .int (nI (2 ^ b)), .ref mn, .ref xr, .ref yr, .ref vr, .ref cr, .ref wr, .int (nI C.length), .int (nI 0), .int f_ct, .ref wl, .ref wc, .int f_wt, .int f_lv, .int f_fi, .int f_en, .long f_cd, .ref rx, .ref ry, .ref mv, .ref fr, .int (nI R.length)])), (mn, .inl (X.2.1, 2, .inl mf)), (xr, .inl (X.2.1, 6600, .inl xf)), (yr, .inl (X.2.1, 6600, .inl yf)), (vr, .inl (X.2.1, 6600, .inl vf)), (cr, .inl (X.2.2, 6600, .inr (.inl cf))), (wr, .inl (X.2.1, 6600, .inl wf)), (wl, .inl (X.2.1, 80, .inl lf)), (wc, .inl (X.2.2, 80, .inr (.inl kf))), (rx, .inl (X.2.1, 150, .inl rxf)), (ry, .inl (X.2.1, 150, .inl ryf)), (mv, .inl (X.2.1, 150, .inl mvf)), (fr, .inl (X.2.2, 150, .inr (.inl frf)))] H := hP
  have hD : va_D A_ [(a, .inr (5, [.int (nI bl), .int (nI bk), .int (nI (2 ^ b)), .ref d, .ref p, .ref t, .ref t2, .ref ch, .ref rs, .int (nI 1), .int f_ct, .int (nI cp)])), (p, .inr (2, [.ref pk, .ref pv, .int (nI P.length), .int (nI w)])), (pk, .inl (X.2.1, 512, .inl pkf)), (pv, .inl (X.2.1, 512, .inl pvf)), (h, .inr (2, [.ref hk, .ref hv, .int (nI Hm.length), .int (nI wh)])), (hk, .inl (X.2.1, 512, .inl hkf)), (hv, .inl (X.2.1, 512, .inl hvf)), (d, .inr (1, [.ref h, .ref lk, .ref lv, .int (nI 0)])), (lk, .inl (X.2.1, 60, .inl lkf)), (lv, .inl (X.2.1, 60, .inl lvf)), (t, .inr (4, [.ref p, .int (nI bk), .int (nI b), .int (nI (bl + 1)), .ref fa, .ref oa, .int f_nn, .int f_dd, .int f_mo])), (fa, .inl (X.2.1, 6 * (bl + 1), .inl ff)), (oa, .inl (X.2.1, 512, .inl o)), (t2, .inr (4, [.ref h, .int (nI bk), .int (nI b), .int (nI (bl + 1)), .ref fa2, .ref oa2, .int e_nn, .int e_dd, .int e_mo])), (fa2, .inl (X.2.1, 6 * (bl + 1), .inl ffb)), (oa2, .inl (X.2.1, 512, .inl ob)), (ch, .inr (0, [.ref ck, .ref cv, .int (nI C.length)])), (ck, .inl (X.2.1, 60, .inl ckf)), (cv, .inl (X.2.1, 60, .inl cvf)), (rs, .inr (3, [.ref rk_, .ref rv, .ref rd, .int (nI R2.length)])), (rk_, .inl (X.2.1, 150, .inl rk2)), (rv, .inl (X.2.1, 150, .inl rv2)), (rd, .inl (X.2.2, 150, .inr (.inl rdf))), (m, .inr (6, [.int (nI bl), .int (nI bk), .int (nI b), .int (nI (2 ^ b)), .ref mn, .ref xr, .ref yr, .ref vr, .ref cr, .ref wr, .int (nI C.length), .int (nI 0), .int f_ct, .ref wl, .ref wc, .int f_wt, .int f_lv, .int f_fi, .int f_en, .long f_cd, .ref rx, .ref ry, .ref mv, .ref fr, .int (nI R.length)])), (mn, .inl (X.2.1, 2, .inl mf)), (xr, .inl (X.2.1, 6600, .inl xf)), (yr, .inl (X.2.1, 6600, .inl yf)), (vr, .inl (X.2.1, 6600, .inl vf)), (cr, .inl (X.2.2, 6600, .inr (.inl cf))), (wr, .inl (X.2.1, 6600, .inl wf)), (wl, .inl (X.2.1, 80, .inl lf)), (wc, .inl (X.2.2, 80, .inr (.inl kf))), (rx, .inl (X.2.1, 150, .inl rxf)), (ry, .inl (X.2.1, 150, .inl ryf)), (mv, .inl (X.2.1, 150, .inl mvf)), (fr, .inl (X.2.2, 150, .inr (.inl frf)))] := hD
  try dsimp only at ha
  refine lv_aload_n hx hb dL_law_288 rfl (lv_at hl 2 rfl) ?_
  refine lv_aload_n hx hb dL_law_289 rfl (lv_at hl 0 rfl) ?_
  refine lv_iload_n hx hb dL_law_290 rfl (lv_at hl 3 rfl) ?_
  refine lv_iconst (v := nI 1) hx hb dL_law_291 (by decide) ?_
  refine lv_iadd hx hb dL_law_292 ?_
  refine lv_topi (fun x_12 ex_12 => ?_)
  obtain rfl : x_12 = nI (i + 1) := by
    rw [ex_12]
    exact nI_add _ _
  refine va_sld hx hb hXs hbl0 hbA hS (vp_in_nI (n := i + 1) (by omega) (by omega)) dL_law_293 ?_
  refine lv_topi (fun x_13 ex_13 => ?_)
  obtain rfl : x_13 = xs (i + 1) := by
    rw [ex_13]
    rw [nI_clamp (by omega)]
  refine lv_aload_n hx hb dL_law_294 rfl (lv_at hl 0 rfl) ?_
  refine lv_iload_n hx hb dL_law_295 rfl (lv_at hl 3 rfl) ?_
  refine lv_iconst (v := nI 2) hx hb dL_law_296 (by decide) ?_
  refine lv_iadd hx hb dL_law_297 ?_
  refine lv_topi (fun x_14 ex_14 => ?_)
  obtain rfl : x_14 = nI (i + 2) := by
    rw [ex_14]
    exact nI_add _ _
  refine va_sld hx hb hXs hbl0 hbA hS (vp_in_nI (n := i + 2) (by omega) (by omega)) dL_law_298 ?_
  refine lv_topi (fun x_15 ex_15 => ?_)
  obtain rfl : x_15 = xs (i + 2) := by
    rw [ex_15]
    rw [nI_clamp (by omega)]
  refine lv_aload_n hx hb dL_law_299 rfl (lv_at hl 0 rfl) ?_
  refine lv_iload_n hx hb dL_law_300 rfl (lv_at hl 3 rfl) ?_
  refine lv_iconst (v := nI 3) hx hb dL_law_301 (by decide) ?_
  refine lv_iadd hx hb dL_law_302 ?_
  refine lv_topi (fun x_16 ex_16 => ?_)
  obtain rfl : x_16 = nI (i + 3) := by
    rw [ex_16]
    exact nI_add _ _
  refine va_sld hx hb hXs hbl0 hbA hS (vp_in_nI (n := i + 3) (by omega) (by omega)) dL_law_303 ?_
  refine lv_topi (fun x_17 ex_17 => ?_)
  obtain rfl : x_17 = xs (i + 3) := by
    rw [ex_17]
    rw [nI_clamp (by omega)]
  refine lv_aload_n hx hb dL_law_304 rfl (lv_at hl 0 rfl) ?_
  refine lv_iload_n hx hb dL_law_305 rfl (lv_at hl 3 rfl) ?_
  refine lv_iconst (v := nI 4) hx hb dL_law_306 (by decide) ?_
  refine lv_iadd hx hb dL_law_307 ?_
  refine lv_topi (fun x_18 ex_18 => ?_)
  obtain rfl : x_18 = nI (i + 4) := by
    rw [ex_18]
    exact nI_add _ _
  refine va_sld hx hb hXs hbl0 hbA hS (vp_in_nI (n := i + 4) (by omega) (by omega)) dL_law_308 ?_
  refine lv_topi (fun x_19 ex_19 => ?_)
  obtain rfl : x_19 = xs (i + 4) := by
    rw [ex_19]
    rw [nI_clamp (by omega)]
  refine lv_aload_n hx hb dL_law_309 rfl (lv_at hl 0 rfl) ?_
  refine lv_iload_n hx hb dL_law_310 rfl (lv_at hl 3 rfl) ?_
  refine lv_iconst (v := nI 5) hx hb dL_law_311 (by decide) ?_
  refine lv_iadd hx hb dL_law_312 ?_
  refine lv_topi (fun x_20 ex_20 => ?_)
  obtain rfl : x_20 = nI (i + 5) := by
    rw [ex_20]
    exact nI_add _ _
  refine va_sld hx hb hXs hbl0 hbA hS (vp_in_nI (n := i + 5) (by omega) (by omega)) dL_law_313 ?_
  refine lv_topi (fun x_21 ex_21 => ?_)
  obtain rfl : x_21 = xs (i + 5) := by
    rw [ex_21]
    rw [nI_clamp (by omega)]
  refine ckVi (As := [.int (xs (i + 1)), .int (xs (i + 2)), .int (xs (i + 3)), .int (xs (i + 4)), .int (xs (i + 5))]) (rest := [.int ra]) 0 [23, 24, 25, 26, 27, 32, 33, 34] (c_X6_window l X m bl bk b (2 ^ b) mn xr yr vr cr wr C.length wl wc rx ry mv fr f_ct f_wt f_lv f_fi f_en f_cd (xs (i + 1)) (xs (i + 2)) (xs (i + 3)) (xs (i + 4)) (xs (i + 5)) rxf ryf mvf R f_mr mf xf yf vf wf cf P ZP Hm ZQ f_m0 f_m1) ⟨hx, hb, hml, hown, hts⟩ (cwV 5 hts gL_law_X6_window rfl rfl rfl (by decide +kernel) ⟨Nat.le_of_ble_eq_true rfl, Nat.le_of_ble_eq_true rfl⟩) hK hN hP hD hS (by decide) rfl (ci := 6) rfl rfl (fun _ => rfl) rfl hl.1 rfl (Nat.le_of_ble_eq_true rfl) dL_law_314 ⟨lroom.1, lroom.2⟩ (fun rb u_22 H locs hb2 hP hD hS => ?_)
  obtain ⟨rx2, ry2, mv2, R3⟩ := u_22
  have hP : va_P X.1 vwCl [(a, .inr (5, [.int (nI bl), .int (nI bk), .int (nI (2 ^ b)), .ref d, .ref p, .ref t, .ref t2, .ref ch, .ref rs, .int (nI 1), .int f_ct, .int (nI cp)])), (p, .inr (2, [.ref pk, .ref pv, .int (nI P.length), .int (nI w)])), (pk, .inl (X.2.1, 512, .inl pkf)), (pv, .inl (X.2.1, 512, .inl pvf)), (h, .inr (2, [.ref hk, .ref hv, .int (nI Hm.length), .int (nI wh)])), (hk, .inl (X.2.1, 512, .inl hkf)), (hv, .inl (X.2.1, 512, .inl hvf)), (d, .inr (1, [.ref h, .ref lk, .ref lv, .int (nI 0)])), (lk, .inl (X.2.1, 60, .inl lkf)), (lv, .inl (X.2.1, 60, .inl lvf)), (t, .inr (4, [.ref p, .int (nI bk), .int (nI b), .int (nI (bl + 1)), .ref fa, .ref oa, .int f_nn, .int f_dd, .int f_mo])), (fa, .inl (X.2.1, 6 * (bl + 1), .inl ff)), (oa, .inl (X.2.1, 512, .inl o)), (t2, .inr (4, [.ref h, .int (nI bk), .int (nI b), .int (nI (bl + 1)), .ref fa2, .ref oa2, .int e_nn, .int e_dd, .int e_mo])), (fa2, .inl (X.2.1, 6 * (bl + 1), .inl ffb)), (oa2, .inl (X.2.1, 512, .inl ob)), (ch, .inr (0, [.ref ck, .ref cv, .int (nI C.length)])), (ck, .inl (X.2.1, 60, .inl ckf)), (cv, .inl (X.2.1, 60, .inl cvf)), (rs, .inr (3, [.ref rk_, .ref rv, .ref rd, .int (nI R2.length)])), (rk_, .inl (X.2.1, 150, .inl rk2)), (rv, .inl (X.2.1, 150, .inl rv2)), (rd, .inl (X.2.2, 150, .inr (.inl rdf))), (m, .inr (6, [.int (nI bl), .int (nI bk), .int (nI b), .int (nI (2 ^ b)), .ref mn, .ref xr, .ref yr, .ref vr, .ref cr, .ref wr, .int (nI C.length), .int (nI 0), .int f_ct, .ref wl, .ref wc, .int f_wt, .int f_lv, .int f_fi, .int f_en, .long f_cd, .ref rx, .ref ry, .ref mv, .ref fr, .int (nI R3.length)])), (mn, .inl (X.2.1, 2, .inl mf)), (xr, .inl (X.2.1, 6600, .inl xf)), (yr, .inl (X.2.1, 6600, .inl yf)), (vr, .inl (X.2.1, 6600, .inl vf)), (cr, .inl (X.2.2, 6600, .inr (.inl cf))), (wr, .inl (X.2.1, 6600, .inl wf)), (wl, .inl (X.2.1, 80, .inl lf)), (wc, .inl (X.2.2, 80, .inr (.inl kf))), (rx, .inl (X.2.1, 150, .inl rx2)), (ry, .inl (X.2.1, 150, .inl ry2)), (mv, .inl (X.2.1, 150, .inl mv2)), (fr, .inl (X.2.2, 150, .inr (.inl frf)))] H := hP
  have hD : va_D A_ [(a, .inr (5, [.int (nI bl), .int (nI bk), .int (nI (2 ^ b)), .ref d, .ref p, .ref t, .ref t2, .ref ch, .ref rs, .int (nI 1), .int f_ct, .int (nI cp)])), (p, .inr (2, [.ref pk, .ref pv, .int (nI P.length), .int (nI w)])), (pk, .inl (X.2.1, 512, .inl pkf)), (pv, .inl (X.2.1, 512, .inl pvf)), (h, .inr (2, [.ref hk, .ref hv, .int (nI Hm.length), .int (nI wh)])), (hk, .inl (X.2.1, 512, .inl hkf)), (hv, .inl (X.2.1, 512, .inl hvf)), (d, .inr (1, [.ref h, .ref lk, .ref lv, .int (nI 0)])), (lk, .inl (X.2.1, 60, .inl lkf)), (lv, .inl (X.2.1, 60, .inl lvf)), (t, .inr (4, [.ref p, .int (nI bk), .int (nI b), .int (nI (bl + 1)), .ref fa, .ref oa, .int f_nn, .int f_dd, .int f_mo])), (fa, .inl (X.2.1, 6 * (bl + 1), .inl ff)), (oa, .inl (X.2.1, 512, .inl o)), (t2, .inr (4, [.ref h, .int (nI bk), .int (nI b), .int (nI (bl + 1)), .ref fa2, .ref oa2, .int e_nn, .int e_dd, .int e_mo])), (fa2, .inl (X.2.1, 6 * (bl + 1), .inl ffb)), (oa2, .inl (X.2.1, 512, .inl ob)), (ch, .inr (0, [.ref ck, .ref cv, .int (nI C.length)])), (ck, .inl (X.2.1, 60, .inl ckf)), (cv, .inl (X.2.1, 60, .inl cvf)), (rs, .inr (3, [.ref rk_, .ref rv, .ref rd, .int (nI R2.length)])), (rk_, .inl (X.2.1, 150, .inl rk2)), (rv, .inl (X.2.1, 150, .inl rv2)), (rd, .inl (X.2.2, 150, .inr (.inl rdf))), (m, .inr (6, [.int (nI bl), .int (nI bk), .int (nI b), .int (nI (2 ^ b)), .ref mn, .ref xr, .ref yr, .ref vr, .ref cr, .ref wr, .int (nI C.length), .int (nI 0), .int f_ct, .ref wl, .ref wc, .int f_wt, .int f_lv, .int f_fi, .int f_en, .long f_cd, .ref rx, .ref ry, .ref mv, .ref fr, .int (nI R3.length)])), (mn, .inl (X.2.1, 2, .inl mf)), (xr, .inl (X.2.1, 6600, .inl xf)), (yr, .inl (X.2.1, 6600, .inl yf)), (vr, .inl (X.2.1, 6600, .inl vf)), (cr, .inl (X.2.2, 6600, .inr (.inl cf))), (wr, .inl (X.2.1, 6600, .inl wf)), (wl, .inl (X.2.1, 80, .inl lf)), (wc, .inl (X.2.2, 80, .inr (.inl kf))), (rx, .inl (X.2.1, 150, .inl rx2)), (ry, .inl (X.2.1, 150, .inl ry2)), (mv, .inl (X.2.1, 150, .inl mv2)), (fr, .inl (X.2.2, 150, .inr (.inl frf)))] := hD
  try dsimp only at hb2
  have hE9 := ha.2.trans hb2.2.symm
  have hE : ra = rb := congrArg Prod.fst hE9
  have hE2 : R2 = R3 := congrArg Prod.snd hE9
  subst hE2
  refine lv_icmp_eq (tgt := 649) hx hb dL_law_317 (by decide) (fun c_317 => ?_) (fun c_317 => ?_)
  · skip
    exact kk _ _ (Or.inl ⟨cp, w, wh, f_ct, f_nn, f_dd, f_mo, e_nn, e_dd, e_mo, f_wt, f_lv, f_fi, f_en, f_cd, pkf, pvf, hkf, hvf, lkf, lvf, ff, o, ffb, ob, ckf, cvf, rk2, rv2, mf, xf, yf, vf, wf, lf, rx2, ry2, mv2, rdf, cf, kf, frf, P, Hm, ZP, ZQ, C, R2, K, ⟨f_cp, (by omega), (by omega), f_p, f_h, f_c, ha.1, f_t, f_t2, f_m0, f_m1, hb2.1, f_ap, f_tr, f_tr2, (by omega), f_kh, f_kc⟩, hP, hD⟩) hS
  · skip
    exact absurd hE c_317
set_option maxHeartbeats 4000000 in
set_option maxRecDepth 100000 in
theorem lw_on_nearest {pz : Program} {l : Launch} {ez : Env} {sz : State} {mz : MethodId} {below : List Frame} {meth : Method} {cz : Code} {X : kX} {bb L : Nat} {xs : Nat → Int32} {A_ : Nat → Prop} {bl bk b n i a p pk pv h hk hv d lk lv t fa oa t2 fa2 oa2 ch ck cv rs rk_ rv rd m mn xr yr vr cr wr wl wc rx ry mv fr : Nat} {Q : State → Prop} {H : Heap} {locs : List Loc} {ls : Array Slot} (C0 : lwc pz sz mz cz X bb L xs A_) (hpar : lpar bl bk b) (hn : n < 512) (hi : i + 6 ≤ L) (hL : L ≤ 3075) (hI : LOn X A_ bl bk b n a p pk pv h hk hv d lk lv t fa oa t2 fa2 oa2 ch ck cv rs rk_ rv rd m mn xr yr vr cr wr wl wc rx ry mv fr H) (hS : va_S A_ sz.heap H locs) (hl : lv_has ls 4 [(0, .ref bb), (1, .ref a), (2, .ref m), (3, .int (nI i))]) (kk : ∀ (H1 : Heap) (locs1 : List Loc), LOn X A_ bl bk b (n + 1) a p pk pv h hk hv d lk lv t fa oa t2 fa2 oa2 ch ck cv rs rk_ rv rd m mn xr yr vr cr wr wl wc rx ry mv fr H1 ∨ LOff X A_ bl bk b (n + 1) a p pk pv h hk hv d lk lv t fa oa t2 fa2 oa2 ch ck cv rs rk_ rv rd m mn xr yr vr cr wr wl wc rx ry mv fr H1 → va_S A_ sz.heap H1 locs1 → W pz l ez room_1 sz mz #[Value.ref bb] below meth cz H1 locs1 600000 7302250 Q (F0 mz 649 ls [])) : W pz l ez room_1 sz mz #[Value.ref bb] below meth cz H locs 600000 7302250 Q (F0 mz 322 ls []) := by
  obtain ⟨hx, hb, hml, hown, hts, hXs, hbl0, hK, hN, hbA⟩ := C0
  obtain ⟨hbl1, hbl, hbk, hbk2, hb1⟩ := hpar
  have hsp := pw15 hb1
  refine LOn.use hI (fun cp w wh f_ct f_nn f_dd f_mo e_nn e_dd e_mo f_wt f_lv f_fi f_en f_cd pkf pvf hkf hvf lkf lvf ff o ffb ob ckf cvf rkf rvf mf xf yf vf wf lf rxf ryf mvf rdf cf kf frf P Hm ZP ZQ C R K f_cp f_w f_wh f_p f_h f_c f_r f_t f_t2 f_m0 f_m1 f_mr f_ap f_tr f_tr2 f_k f_kh f_kc hP hD => ?_)
  clear hI
  refine lv_aload_n hx hb dL_law_322 rfl (lv_at hl 1 rfl) ?_
  refine lv_aload_n hx hb dL_law_323 rfl (lv_at hl 0 rfl) ?_
  refine lv_iload_n hx hb dL_law_324 rfl (lv_at hl 3 rfl) ?_
  refine lv_iconst (v := nI 1) hx hb dL_law_325 (by decide) ?_
  refine lv_iadd hx hb dL_law_326 ?_
  refine lv_topi (fun x_1 ex_1 => ?_)
  obtain rfl : x_1 = nI (i + 1) := by
    rw [ex_1]
    exact nI_add _ _
  refine va_sld hx hb hXs hbl0 hbA hS (vp_in_nI (n := i + 1) (by omega) (by omega)) dL_law_327 ?_
  refine lv_topi (fun x_2 ex_2 => ?_)
  obtain rfl : x_2 = xs (i + 1) := by
    rw [ex_2]
    rw [nI_clamp (by omega)]
  refine lv_aload_n hx hb dL_law_328 rfl (lv_at hl 0 rfl) ?_
  refine lv_iload_n hx hb dL_law_329 rfl (lv_at hl 3 rfl) ?_
  refine lv_iconst (v := nI 2) hx hb dL_law_330 (by decide) ?_
  refine lv_iadd hx hb dL_law_331 ?_
  refine lv_topi (fun x_3 ex_3 => ?_)
  obtain rfl : x_3 = nI (i + 2) := by
    rw [ex_3]
    exact nI_add _ _
  refine va_sld hx hb hXs hbl0 hbA hS (vp_in_nI (n := i + 2) (by omega) (by omega)) dL_law_332 ?_
  refine lv_topi (fun x_4 ex_4 => ?_)
  obtain rfl : x_4 = xs (i + 2) := by
    rw [ex_4]
    rw [nI_clamp (by omega)]
  refine lv_aload_n hx hb dL_law_333 rfl (lv_at hl 0 rfl) ?_
  refine lv_iload_n hx hb dL_law_334 rfl (lv_at hl 3 rfl) ?_
  refine lv_iconst (v := nI 3) hx hb dL_law_335 (by decide) ?_
  refine lv_iadd hx hb dL_law_336 ?_
  refine lv_topi (fun x_5 ex_5 => ?_)
  obtain rfl : x_5 = nI (i + 3) := by
    rw [ex_5]
    exact nI_add _ _
  refine va_sld hx hb hXs hbl0 hbA hS (vp_in_nI (n := i + 3) (by omega) (by omega)) dL_law_337 ?_
  refine lv_topi (fun x_6 ex_6 => ?_)
  obtain rfl : x_6 = xs (i + 3) := by
    rw [ex_6]
    rw [nI_clamp (by omega)]
  refine lv_aload_n hx hb dL_law_338 rfl (lv_at hl 0 rfl) ?_
  refine lv_iload_n hx hb dL_law_339 rfl (lv_at hl 3 rfl) ?_
  refine lv_iconst (v := nI 4) hx hb dL_law_340 (by decide) ?_
  refine lv_iadd hx hb dL_law_341 ?_
  refine lv_topi (fun x_7 ex_7 => ?_)
  obtain rfl : x_7 = nI (i + 4) := by
    rw [ex_7]
    exact nI_add _ _
  refine va_sld hx hb hXs hbl0 hbA hS (vp_in_nI (n := i + 4) (by omega) (by omega)) dL_law_342 ?_
  refine lv_topi (fun x_8 ex_8 => ?_)
  obtain rfl : x_8 = xs (i + 4) := by
    rw [ex_8]
    rw [nI_clamp (by omega)]
  refine ckVi (As := [.int (xs (i + 1)), .int (xs (i + 2)), .int (xs (i + 3)), .int (xs (i + 4))]) (rest := []) 0 [0, 7, 1, 2, 3, 4, 5, 6, 19, 20, 21, 22] (c_X5_nearest l X a d p t t2 ch rs (2 ^ b) bl bk cp f_ct h lk lv 0 pk pv w hk hv wh rk_ rv rd (xs (i + 1)) (xs (i + 2)) (xs (i + 3)) (xs (i + 4)) pkf pvf hkf hvf rkf rvf rdf P Hm R f_p f_h f_r) ⟨hx, hb, hml, hown, hts⟩ (cwV 4 hts gL_law_X5_nearest rfl rfl rfl (by decide +kernel) ⟨Nat.le_of_ble_eq_true rfl, Nat.le_of_ble_eq_true rfl⟩) hK hN hP hD hS (by decide) rfl (ci := 5) rfl rfl (fun _ => rfl) rfl hl.1 rfl (Nat.le_of_ble_eq_true rfl) dL_law_343 ⟨lroom.1, lroom.2⟩ (fun ra u_9 H locs ha hP hD hS => ?_)
  obtain ⟨rk2, rv2, rd2, R2⟩ := u_9
  have hP : va_P X.1 vwCl [(a, .inr (5, [.int (nI bl), .int (nI bk), .int (nI (2 ^ b)), .ref d, .ref p, .ref t, .ref t2, .ref ch, .ref rs, .int (nI 1), .int f_ct, .int (nI cp)])), (p, .inr (2, [.ref pk, .ref pv, .int (nI P.length), .int (nI w)])), (pk, .inl (X.2.1, 512, .inl pkf)), (pv, .inl (X.2.1, 512, .inl pvf)), (h, .inr (2, [.ref hk, .ref hv, .int (nI Hm.length), .int (nI wh)])), (hk, .inl (X.2.1, 512, .inl hkf)), (hv, .inl (X.2.1, 512, .inl hvf)), (d, .inr (1, [.ref h, .ref lk, .ref lv, .int (nI 0)])), (lk, .inl (X.2.1, 60, .inl lkf)), (lv, .inl (X.2.1, 60, .inl lvf)), (t, .inr (4, [.ref p, .int (nI bk), .int (nI b), .int (nI (bl + 1)), .ref fa, .ref oa, .int f_nn, .int f_dd, .int f_mo])), (fa, .inl (X.2.1, 6 * (bl + 1), .inl ff)), (oa, .inl (X.2.1, 512, .inl o)), (t2, .inr (4, [.ref h, .int (nI bk), .int (nI b), .int (nI (bl + 1)), .ref fa2, .ref oa2, .int e_nn, .int e_dd, .int e_mo])), (fa2, .inl (X.2.1, 6 * (bl + 1), .inl ffb)), (oa2, .inl (X.2.1, 512, .inl ob)), (ch, .inr (0, [.ref ck, .ref cv, .int (nI C.length)])), (ck, .inl (X.2.1, 60, .inl ckf)), (cv, .inl (X.2.1, 60, .inl cvf)), (rs, .inr (3, [.ref rk_, .ref rv, .ref rd, .int (nI R2.length)])), (rk_, .inl (X.2.1, 150, .inl rk2)), (rv, .inl (X.2.1, 150, .inl rv2)), (rd, .inl (X.2.2, 150, .inr (.inl rd2))), (m, .inr (6, [.int (nI bl), .int (nI bk), .int (nI b), .int (nI (2 ^ b)), .ref mn, .ref xr, .ref yr, .ref vr, .ref cr, .ref wr, .int (nI C.length), .int (nI 0), .int f_ct, .ref wl, .ref wc, .int f_wt, .int f_lv, .int f_fi, .int f_en, .long f_cd, .ref rx, .ref ry, .ref mv, .ref fr, .int (nI R.length)])), (mn, .inl (X.2.1, 2, .inl mf)), (xr, .inl (X.2.1, 6600, .inl xf)), (yr, .inl (X.2.1, 6600, .inl yf)), (vr, .inl (X.2.1, 6600, .inl vf)), (cr, .inl (X.2.2, 6600, .inr (.inl cf))), (wr, .inl (X.2.1, 6600, .inl wf)), (wl, .inl (X.2.1, 80, .inl lf)), (wc, .inl (X.2.2, 80, .inr (.inl kf))), (rx, .inl (X.2.1, 150, .inl rxf)), (ry, .inl (X.2.1, 150, .inl ryf)), (mv, .inl (X.2.1, 150, .inl mvf)), (fr, .inl (X.2.2, 150, .inr (.inl frf)))] H := hP
  have hD : va_D A_ [(a, .inr (5, [.int (nI bl), .int (nI bk), .int (nI (2 ^ b)), .ref d, .ref p, .ref t, .ref t2, .ref ch, .ref rs, .int (nI 1), .int f_ct, .int (nI cp)])), (p, .inr (2, [.ref pk, .ref pv, .int (nI P.length), .int (nI w)])), (pk, .inl (X.2.1, 512, .inl pkf)), (pv, .inl (X.2.1, 512, .inl pvf)), (h, .inr (2, [.ref hk, .ref hv, .int (nI Hm.length), .int (nI wh)])), (hk, .inl (X.2.1, 512, .inl hkf)), (hv, .inl (X.2.1, 512, .inl hvf)), (d, .inr (1, [.ref h, .ref lk, .ref lv, .int (nI 0)])), (lk, .inl (X.2.1, 60, .inl lkf)), (lv, .inl (X.2.1, 60, .inl lvf)), (t, .inr (4, [.ref p, .int (nI bk), .int (nI b), .int (nI (bl + 1)), .ref fa, .ref oa, .int f_nn, .int f_dd, .int f_mo])), (fa, .inl (X.2.1, 6 * (bl + 1), .inl ff)), (oa, .inl (X.2.1, 512, .inl o)), (t2, .inr (4, [.ref h, .int (nI bk), .int (nI b), .int (nI (bl + 1)), .ref fa2, .ref oa2, .int e_nn, .int e_dd, .int e_mo])), (fa2, .inl (X.2.1, 6 * (bl + 1), .inl ffb)), (oa2, .inl (X.2.1, 512, .inl ob)), (ch, .inr (0, [.ref ck, .ref cv, .int (nI C.length)])), (ck, .inl (X.2.1, 60, .inl ckf)), (cv, .inl (X.2.1, 60, .inl cvf)), (rs, .inr (3, [.ref rk_, .ref rv, .ref rd, .int (nI R2.length)])), (rk_, .inl (X.2.1, 150, .inl rk2)), (rv, .inl (X.2.1, 150, .inl rv2)), (rd, .inl (X.2.2, 150, .inr (.inl rd2))), (m, .inr (6, [.int (nI bl), .int (nI bk), .int (nI b), .int (nI (2 ^ b)), .ref mn, .ref xr, .ref yr, .ref vr, .ref cr, .ref wr, .int (nI C.length), .int (nI 0), .int f_ct, .ref wl, .ref wc, .int f_wt, .int f_lv, .int f_fi, .int f_en, .long f_cd, .ref rx, .ref ry, .ref mv, .ref fr, .int (nI R.length)])), (mn, .inl (X.2.1, 2, .inl mf)), (xr, .inl (X.2.1, 6600, .inl xf)), (yr, .inl (X.2.1, 6600, .inl yf)), (vr, .inl (X.2.1, 6600, .inl vf)), (cr, .inl (X.2.2, 6600, .inr (.inl cf))), (wr, .inl (X.2.1, 6600, .inl wf)), (wl, .inl (X.2.1, 80, .inl lf)), (wc, .inl (X.2.2, 80, .inr (.inl kf))), (rx, .inl (X.2.1, 150, .inl rxf)), (ry, .inl (X.2.1, 150, .inl ryf)), (mv, .inl (X.2.1, 150, .inl mvf)), (fr, .inl (X.2.2, 150, .inr (.inl frf)))] := hD
  try dsimp only at ha
  refine lv_aload_n hx hb dL_law_346 rfl (lv_at hl 2 rfl) ?_
  refine lv_aload_n hx hb dL_law_347 rfl (lv_at hl 0 rfl) ?_
  refine lv_iload_n hx hb dL_law_348 rfl (lv_at hl 3 rfl) ?_
  refine lv_iconst (v := nI 1) hx hb dL_law_349 (by decide) ?_
  refine lv_iadd hx hb dL_law_350 ?_
  refine lv_topi (fun x_10 ex_10 => ?_)
  obtain rfl : x_10 = nI (i + 1) := by
    rw [ex_10]
    exact nI_add _ _
  refine va_sld hx hb hXs hbl0 hbA hS (vp_in_nI (n := i + 1) (by omega) (by omega)) dL_law_351 ?_
  refine lv_topi (fun x_11 ex_11 => ?_)
  obtain rfl : x_11 = xs (i + 1) := by
    rw [ex_11]
    rw [nI_clamp (by omega)]
  refine lv_aload_n hx hb dL_law_352 rfl (lv_at hl 0 rfl) ?_
  refine lv_iload_n hx hb dL_law_353 rfl (lv_at hl 3 rfl) ?_
  refine lv_iconst (v := nI 2) hx hb dL_law_354 (by decide) ?_
  refine lv_iadd hx hb dL_law_355 ?_
  refine lv_topi (fun x_12 ex_12 => ?_)
  obtain rfl : x_12 = nI (i + 2) := by
    rw [ex_12]
    exact nI_add _ _
  refine va_sld hx hb hXs hbl0 hbA hS (vp_in_nI (n := i + 2) (by omega) (by omega)) dL_law_356 ?_
  refine lv_topi (fun x_13 ex_13 => ?_)
  obtain rfl : x_13 = xs (i + 2) := by
    rw [ex_13]
    rw [nI_clamp (by omega)]
  refine lv_aload_n hx hb dL_law_357 rfl (lv_at hl 0 rfl) ?_
  refine lv_iload_n hx hb dL_law_358 rfl (lv_at hl 3 rfl) ?_
  refine lv_iconst (v := nI 3) hx hb dL_law_359 (by decide) ?_
  refine lv_iadd hx hb dL_law_360 ?_
  refine lv_topi (fun x_14 ex_14 => ?_)
  obtain rfl : x_14 = nI (i + 3) := by
    rw [ex_14]
    exact nI_add _ _
  refine va_sld hx hb hXs hbl0 hbA hS (vp_in_nI (n := i + 3) (by omega) (by omega)) dL_law_361 ?_
  refine lv_topi (fun x_15 ex_15 => ?_)
  obtain rfl : x_15 = xs (i + 3) := by
    rw [ex_15]
    rw [nI_clamp (by omega)]
  refine lv_aload_n hx hb dL_law_362 rfl (lv_at hl 0 rfl) ?_
  refine lv_iload_n hx hb dL_law_363 rfl (lv_at hl 3 rfl) ?_
  refine lv_iconst (v := nI 4) hx hb dL_law_364 (by decide) ?_
  refine lv_iadd hx hb dL_law_365 ?_
  refine lv_topi (fun x_16 ex_16 => ?_)
  obtain rfl : x_16 = nI (i + 4) := by
    rw [ex_16]
    exact nI_add _ _
  refine va_sld hx hb hXs hbl0 hbA hS (vp_in_nI (n := i + 4) (by omega) (by omega)) dL_law_366 ?_
  refine lv_topi (fun x_17 ex_17 => ?_)
  obtain rfl : x_17 = xs (i + 4) := by
    rw [ex_17]
    rw [nI_clamp (by omega)]
  refine ckVi (As := [.int (xs (i + 1)), .int (xs (i + 2)), .int (xs (i + 3)), .int (xs (i + 4))]) (rest := [.int ra]) 0 [23, 24, 25, 26, 27, 32, 33, 34, 35] (c_X6_nearest l X m bl bk b (2 ^ b) mn xr yr vr cr wr C.length wl wc rx ry mv fr f_ct f_wt f_lv f_fi f_en f_cd (xs (i + 1)) (xs (i + 2)) (xs (i + 3)) (xs (i + 4)) rxf ryf mvf frf R f_mr mf xf yf vf wf cf P ZP Hm ZQ f_m0 f_m1) ⟨hx, hb, hml, hown, hts⟩ (cwV 4 hts gL_law_X6_nearest rfl rfl rfl (by decide +kernel) ⟨Nat.le_of_ble_eq_true rfl, Nat.le_of_ble_eq_true rfl⟩) hK hN hP hD hS (by decide) rfl (ci := 6) rfl rfl (fun _ => rfl) rfl hl.1 rfl (Nat.le_of_ble_eq_true rfl) dL_law_367 ⟨lroom.1, lroom.2⟩ (fun rb u_18 H locs hb2 hP hD hS => ?_)
  obtain ⟨rx2, ry2, mv2, fr2, R3⟩ := u_18
  have hP : va_P X.1 vwCl [(a, .inr (5, [.int (nI bl), .int (nI bk), .int (nI (2 ^ b)), .ref d, .ref p, .ref t, .ref t2, .ref ch, .ref rs, .int (nI 1), .int f_ct, .int (nI cp)])), (p, .inr (2, [.ref pk, .ref pv, .int (nI P.length), .int (nI w)])), (pk, .inl (X.2.1, 512, .inl pkf)), (pv, .inl (X.2.1, 512, .inl pvf)), (h, .inr (2, [.ref hk, .ref hv, .int (nI Hm.length), .int (nI wh)])), (hk, .inl (X.2.1, 512, .inl hkf)), (hv, .inl (X.2.1, 512, .inl hvf)), (d, .inr (1, [.ref h, .ref lk, .ref lv, .int (nI 0)])), (lk, .inl (X.2.1, 60, .inl lkf)), (lv, .inl (X.2.1, 60, .inl lvf)), (t, .inr (4, [.ref p, .int (nI bk), .int (nI b), .int (nI (bl + 1)), .ref fa, .ref oa, .int f_nn, .int f_dd, .int f_mo])), (fa, .inl (X.2.1, 6 * (bl + 1), .inl ff)), (oa, .inl (X.2.1, 512, .inl o)), (t2, .inr (4, [.ref h, .int (nI bk), .int (nI b), .int (nI (bl + 1)), .ref fa2, .ref oa2, .int e_nn, .int e_dd, .int e_mo])), (fa2, .inl (X.2.1, 6 * (bl + 1), .inl ffb)), (oa2, .inl (X.2.1, 512, .inl ob)), (ch, .inr (0, [.ref ck, .ref cv, .int (nI C.length)])), (ck, .inl (X.2.1, 60, .inl ckf)), (cv, .inl (X.2.1, 60, .inl cvf)), (rs, .inr (3, [.ref rk_, .ref rv, .ref rd, .int (nI R2.length)])), (rk_, .inl (X.2.1, 150, .inl rk2)), (rv, .inl (X.2.1, 150, .inl rv2)), (rd, .inl (X.2.2, 150, .inr (.inl rd2))), (m, .inr (6, [.int (nI bl), .int (nI bk), .int (nI b), .int (nI (2 ^ b)), .ref mn, .ref xr, .ref yr, .ref vr, .ref cr, .ref wr, .int (nI C.length), .int (nI 0), .int f_ct, .ref wl, .ref wc, .int f_wt, .int f_lv, .int f_fi, .int f_en, .long f_cd, .ref rx, .ref ry, .ref mv, .ref fr, .int (nI R3.length)])), (mn, .inl (X.2.1, 2, .inl mf)), (xr, .inl (X.2.1, 6600, .inl xf)), (yr, .inl (X.2.1, 6600, .inl yf)), (vr, .inl (X.2.1, 6600, .inl vf)), (cr, .inl (X.2.2, 6600, .inr (.inl cf))), (wr, .inl (X.2.1, 6600, .inl wf)), (wl, .inl (X.2.1, 80, .inl lf)), (wc, .inl (X.2.2, 80, .inr (.inl kf))), (rx, .inl (X.2.1, 150, .inl rx2)), (ry, .inl (X.2.1, 150, .inl ry2)), (mv, .inl (X.2.1, 150, .inl mv2)), (fr, .inl (X.2.2, 150, .inr (.inl fr2)))] H := hP
  have hD : va_D A_ [(a, .inr (5, [.int (nI bl), .int (nI bk), .int (nI (2 ^ b)), .ref d, .ref p, .ref t, .ref t2, .ref ch, .ref rs, .int (nI 1), .int f_ct, .int (nI cp)])), (p, .inr (2, [.ref pk, .ref pv, .int (nI P.length), .int (nI w)])), (pk, .inl (X.2.1, 512, .inl pkf)), (pv, .inl (X.2.1, 512, .inl pvf)), (h, .inr (2, [.ref hk, .ref hv, .int (nI Hm.length), .int (nI wh)])), (hk, .inl (X.2.1, 512, .inl hkf)), (hv, .inl (X.2.1, 512, .inl hvf)), (d, .inr (1, [.ref h, .ref lk, .ref lv, .int (nI 0)])), (lk, .inl (X.2.1, 60, .inl lkf)), (lv, .inl (X.2.1, 60, .inl lvf)), (t, .inr (4, [.ref p, .int (nI bk), .int (nI b), .int (nI (bl + 1)), .ref fa, .ref oa, .int f_nn, .int f_dd, .int f_mo])), (fa, .inl (X.2.1, 6 * (bl + 1), .inl ff)), (oa, .inl (X.2.1, 512, .inl o)), (t2, .inr (4, [.ref h, .int (nI bk), .int (nI b), .int (nI (bl + 1)), .ref fa2, .ref oa2, .int e_nn, .int e_dd, .int e_mo])), (fa2, .inl (X.2.1, 6 * (bl + 1), .inl ffb)), (oa2, .inl (X.2.1, 512, .inl ob)), (ch, .inr (0, [.ref ck, .ref cv, .int (nI C.length)])), (ck, .inl (X.2.1, 60, .inl ckf)), (cv, .inl (X.2.1, 60, .inl cvf)), (rs, .inr (3, [.ref rk_, .ref rv, .ref rd, .int (nI R2.length)])), (rk_, .inl (X.2.1, 150, .inl rk2)), (rv, .inl (X.2.1, 150, .inl rv2)), (rd, .inl (X.2.2, 150, .inr (.inl rd2))), (m, .inr (6, [.int (nI bl), .int (nI bk), .int (nI b), .int (nI (2 ^ b)), .ref mn, .ref xr, .ref yr, .ref vr, .ref cr, .ref wr, .int (nI C.length), .int (nI 0), .int f_ct, .ref wl, .ref wc, .int f_wt, .int f_lv, .int f_fi, .int f_en, .long f_cd, .ref rx, .ref ry, .ref mv, .ref fr, .int (nI R3.length)])), (mn, .inl (X.2.1, 2, .inl mf)), (xr, .inl (X.2.1, 6600, .inl xf)), (yr, .inl (X.2.1, 6600, .inl yf)), (vr, .inl (X.2.1, 6600, .inl vf)), (cr, .inl (X.2.2, 6600, .inr (.inl cf))), (wr, .inl (X.2.1, 6600, .inl wf)), (wl, .inl (X.2.1, 80, .inl lf)), (wc, .inl (X.2.2, 80, .inr (.inl kf))), (rx, .inl (X.2.1, 150, .inl rx2)), (ry, .inl (X.2.1, 150, .inl ry2)), (mv, .inl (X.2.1, 150, .inl mv2)), (fr, .inl (X.2.2, 150, .inr (.inl fr2)))] := hD
  try dsimp only at hb2
  have hE9 := ha.2.trans hb2.2.symm
  have hE : ra = rb := congrArg Prod.fst hE9
  have hE2 : R2 = R3 := congrArg Prod.snd hE9
  subst hE2
  refine lv_icmp_eq (tgt := 649) hx hb dL_law_370 (by decide) (fun c_370 => ?_) (fun c_370 => ?_)
  · skip
    exact kk _ _ (Or.inl ⟨cp, w, wh, f_ct, f_nn, f_dd, f_mo, e_nn, e_dd, e_mo, f_wt, f_lv, f_fi, f_en, f_cd, pkf, pvf, hkf, hvf, lkf, lvf, ff, o, ffb, ob, ckf, cvf, rk2, rv2, mf, xf, yf, vf, wf, lf, rx2, ry2, mv2, rd2, cf, kf, fr2, P, Hm, ZP, ZQ, C, R2, K, ⟨f_cp, (by omega), (by omega), f_p, f_h, f_c, ha.1, f_t, f_t2, f_m0, f_m1, hb2.1, f_ap, f_tr, f_tr2, (by omega), f_kh, f_kc⟩, hP, hD⟩) hS
  · skip
    exact absurd hE c_370
set_option maxHeartbeats 4000000 in
set_option maxRecDepth 100000 in
theorem lw_on_differs {pz : Program} {l : Launch} {ez : Env} {sz : State} {mz : MethodId} {below : List Frame} {meth : Method} {cz : Code} {X : kX} {bb L : Nat} {xs : Nat → Int32} {A_ : Nat → Prop} {bl bk b n i a p pk pv h hk hv d lk lv t fa oa t2 fa2 oa2 ch ck cv rs rk_ rv rd m mn xr yr vr cr wr wl wc rx ry mv fr : Nat} {Q : State → Prop} {H : Heap} {locs : List Loc} {ls : Array Slot} (C0 : lwc pz sz mz cz X bb L xs A_) (hpar : lpar bl bk b) (hn : n < 512) (hi : i + 6 ≤ L) (hL : L ≤ 3075) (hI : LOn X A_ bl bk b n a p pk pv h hk hv d lk lv t fa oa t2 fa2 oa2 ch ck cv rs rk_ rv rd m mn xr yr vr cr wr wl wc rx ry mv fr H) (hS : va_S A_ sz.heap H locs) (hl : lv_has ls 4 [(0, .ref bb), (1, .ref a), (2, .ref m), (3, .int (nI i))]) (kk : ∀ (H1 : Heap) (locs1 : List Loc), LOn X A_ bl bk b (n + 1) a p pk pv h hk hv d lk lv t fa oa t2 fa2 oa2 ch ck cv rs rk_ rv rd m mn xr yr vr cr wr wl wc rx ry mv fr H1 ∨ LOff X A_ bl bk b (n + 1) a p pk pv h hk hv d lk lv t fa oa t2 fa2 oa2 ch ck cv rs rk_ rv rd m mn xr yr vr cr wr wl wc rx ry mv fr H1 → va_S A_ sz.heap H1 locs1 → W pz l ez room_1 sz mz #[Value.ref bb] below meth cz H1 locs1 600000 7302250 Q (F0 mz 649 ls [])) : W pz l ez room_1 sz mz #[Value.ref bb] below meth cz H locs 600000 7302250 Q (F0 mz 375 ls []) := by
  obtain ⟨hx, hb, hml, hown, hts, hXs, hbl0, hK, hN, hbA⟩ := C0
  obtain ⟨hbl1, hbl, hbk, hbk2, hb1⟩ := hpar
  have hsp := pw15 hb1
  refine LOn.use hI (fun cp w wh f_ct f_nn f_dd f_mo e_nn e_dd e_mo f_wt f_lv f_fi f_en f_cd pkf pvf hkf hvf lkf lvf ff o ffb ob ckf cvf rkf rvf mf xf yf vf wf lf rxf ryf mvf rdf cf kf frf P Hm ZP ZQ C R K f_cp f_w f_wh f_p f_h f_c f_r f_t f_t2 f_m0 f_m1 f_mr f_ap f_tr f_tr2 f_k f_kh f_kc hP hD => ?_)
  clear hI
  refine lv_aload_n hx hb dL_law_375 rfl (lv_at hl 1 rfl) ?_
  refine ckVi (As := []) (rest := []) 0 [0, 7, 1, 2, 3, 4, 5, 6, 19, 20, 21] (c_X5_differs l X a d p t t2 ch rs (2 ^ b) bl bk cp f_ct h lk lv 0 pk pv w hk hv wh rk_ rv rd pkf pvf hkf hvf rkf rvf P Hm R f_p f_h f_r) ⟨hx, hb, hml, hown, hts⟩ (cwV 0 hts gL_law_X5_differs rfl rfl rfl (by decide +kernel) ⟨Nat.le_of_ble_eq_true rfl, Nat.le_of_ble_eq_true rfl⟩) hK hN hP hD hS (by decide) rfl (ci := 5) rfl rfl (fun _ => rfl) rfl hl.1 rfl (Nat.le_of_ble_eq_true rfl) dL_law_376 ⟨lroom.1, lroom.2⟩ (fun ra u_1 H locs ha hP hD hS => ?_)
  obtain ⟨rk2, rv2, R2⟩ := u_1
  have hP : va_P X.1 vwCl [(a, .inr (5, [.int (nI bl), .int (nI bk), .int (nI (2 ^ b)), .ref d, .ref p, .ref t, .ref t2, .ref ch, .ref rs, .int (nI 1), .int f_ct, .int (nI cp)])), (p, .inr (2, [.ref pk, .ref pv, .int (nI P.length), .int (nI w)])), (pk, .inl (X.2.1, 512, .inl pkf)), (pv, .inl (X.2.1, 512, .inl pvf)), (h, .inr (2, [.ref hk, .ref hv, .int (nI Hm.length), .int (nI wh)])), (hk, .inl (X.2.1, 512, .inl hkf)), (hv, .inl (X.2.1, 512, .inl hvf)), (d, .inr (1, [.ref h, .ref lk, .ref lv, .int (nI 0)])), (lk, .inl (X.2.1, 60, .inl lkf)), (lv, .inl (X.2.1, 60, .inl lvf)), (t, .inr (4, [.ref p, .int (nI bk), .int (nI b), .int (nI (bl + 1)), .ref fa, .ref oa, .int f_nn, .int f_dd, .int f_mo])), (fa, .inl (X.2.1, 6 * (bl + 1), .inl ff)), (oa, .inl (X.2.1, 512, .inl o)), (t2, .inr (4, [.ref h, .int (nI bk), .int (nI b), .int (nI (bl + 1)), .ref fa2, .ref oa2, .int e_nn, .int e_dd, .int e_mo])), (fa2, .inl (X.2.1, 6 * (bl + 1), .inl ffb)), (oa2, .inl (X.2.1, 512, .inl ob)), (ch, .inr (0, [.ref ck, .ref cv, .int (nI C.length)])), (ck, .inl (X.2.1, 60, .inl ckf)), (cv, .inl (X.2.1, 60, .inl cvf)), (rs, .inr (3, [.ref rk_, .ref rv, .ref rd, .int (nI R2.length)])), (rk_, .inl (X.2.1, 150, .inl rk2)), (rv, .inl (X.2.1, 150, .inl rv2)), (rd, .inl (X.2.2, 150, .inr (.inl rdf))), (m, .inr (6, [.int (nI bl), .int (nI bk), .int (nI b), .int (nI (2 ^ b)), .ref mn, .ref xr, .ref yr, .ref vr, .ref cr, .ref wr, .int (nI C.length), .int (nI 0), .int f_ct, .ref wl, .ref wc, .int f_wt, .int f_lv, .int f_fi, .int f_en, .long f_cd, .ref rx, .ref ry, .ref mv, .ref fr, .int (nI R.length)])), (mn, .inl (X.2.1, 2, .inl mf)), (xr, .inl (X.2.1, 6600, .inl xf)), (yr, .inl (X.2.1, 6600, .inl yf)), (vr, .inl (X.2.1, 6600, .inl vf)), (cr, .inl (X.2.2, 6600, .inr (.inl cf))), (wr, .inl (X.2.1, 6600, .inl wf)), (wl, .inl (X.2.1, 80, .inl lf)), (wc, .inl (X.2.2, 80, .inr (.inl kf))), (rx, .inl (X.2.1, 150, .inl rxf)), (ry, .inl (X.2.1, 150, .inl ryf)), (mv, .inl (X.2.1, 150, .inl mvf)), (fr, .inl (X.2.2, 150, .inr (.inl frf)))] H := hP
  have hD : va_D A_ [(a, .inr (5, [.int (nI bl), .int (nI bk), .int (nI (2 ^ b)), .ref d, .ref p, .ref t, .ref t2, .ref ch, .ref rs, .int (nI 1), .int f_ct, .int (nI cp)])), (p, .inr (2, [.ref pk, .ref pv, .int (nI P.length), .int (nI w)])), (pk, .inl (X.2.1, 512, .inl pkf)), (pv, .inl (X.2.1, 512, .inl pvf)), (h, .inr (2, [.ref hk, .ref hv, .int (nI Hm.length), .int (nI wh)])), (hk, .inl (X.2.1, 512, .inl hkf)), (hv, .inl (X.2.1, 512, .inl hvf)), (d, .inr (1, [.ref h, .ref lk, .ref lv, .int (nI 0)])), (lk, .inl (X.2.1, 60, .inl lkf)), (lv, .inl (X.2.1, 60, .inl lvf)), (t, .inr (4, [.ref p, .int (nI bk), .int (nI b), .int (nI (bl + 1)), .ref fa, .ref oa, .int f_nn, .int f_dd, .int f_mo])), (fa, .inl (X.2.1, 6 * (bl + 1), .inl ff)), (oa, .inl (X.2.1, 512, .inl o)), (t2, .inr (4, [.ref h, .int (nI bk), .int (nI b), .int (nI (bl + 1)), .ref fa2, .ref oa2, .int e_nn, .int e_dd, .int e_mo])), (fa2, .inl (X.2.1, 6 * (bl + 1), .inl ffb)), (oa2, .inl (X.2.1, 512, .inl ob)), (ch, .inr (0, [.ref ck, .ref cv, .int (nI C.length)])), (ck, .inl (X.2.1, 60, .inl ckf)), (cv, .inl (X.2.1, 60, .inl cvf)), (rs, .inr (3, [.ref rk_, .ref rv, .ref rd, .int (nI R2.length)])), (rk_, .inl (X.2.1, 150, .inl rk2)), (rv, .inl (X.2.1, 150, .inl rv2)), (rd, .inl (X.2.2, 150, .inr (.inl rdf))), (m, .inr (6, [.int (nI bl), .int (nI bk), .int (nI b), .int (nI (2 ^ b)), .ref mn, .ref xr, .ref yr, .ref vr, .ref cr, .ref wr, .int (nI C.length), .int (nI 0), .int f_ct, .ref wl, .ref wc, .int f_wt, .int f_lv, .int f_fi, .int f_en, .long f_cd, .ref rx, .ref ry, .ref mv, .ref fr, .int (nI R.length)])), (mn, .inl (X.2.1, 2, .inl mf)), (xr, .inl (X.2.1, 6600, .inl xf)), (yr, .inl (X.2.1, 6600, .inl yf)), (vr, .inl (X.2.1, 6600, .inl vf)), (cr, .inl (X.2.2, 6600, .inr (.inl cf))), (wr, .inl (X.2.1, 6600, .inl wf)), (wl, .inl (X.2.1, 80, .inl lf)), (wc, .inl (X.2.2, 80, .inr (.inl kf))), (rx, .inl (X.2.1, 150, .inl rxf)), (ry, .inl (X.2.1, 150, .inl ryf)), (mv, .inl (X.2.1, 150, .inl mvf)), (fr, .inl (X.2.2, 150, .inr (.inl frf)))] := hD
  try dsimp only at ha
  refine lv_aload_n hx hb dL_law_379 rfl (lv_at hl 2 rfl) ?_
  refine ckVi (As := []) (rest := [.int ra]) 0 [23, 24, 25, 26, 27, 32, 33, 34] (c_X6_differs l X m bl bk b (2 ^ b) mn xr yr vr cr wr C.length wl wc rx ry mv fr f_ct f_wt f_lv f_fi f_en f_cd rxf ryf mvf R f_mr mf xf yf vf wf cf P ZP Hm ZQ f_m0 f_m1) ⟨hx, hb, hml, hown, hts⟩ (cwV 0 hts gL_law_X6_differs rfl rfl rfl (by decide +kernel) ⟨Nat.le_of_ble_eq_true rfl, Nat.le_of_ble_eq_true rfl⟩) hK hN hP hD hS (by decide) rfl (ci := 6) rfl rfl (fun _ => rfl) rfl hl.1 rfl (Nat.le_of_ble_eq_true rfl) dL_law_380 ⟨lroom.1, lroom.2⟩ (fun rb u_2 H locs hb2 hP hD hS => ?_)
  obtain ⟨rx2, ry2, mv2, R3⟩ := u_2
  have hP : va_P X.1 vwCl [(a, .inr (5, [.int (nI bl), .int (nI bk), .int (nI (2 ^ b)), .ref d, .ref p, .ref t, .ref t2, .ref ch, .ref rs, .int (nI 1), .int f_ct, .int (nI cp)])), (p, .inr (2, [.ref pk, .ref pv, .int (nI P.length), .int (nI w)])), (pk, .inl (X.2.1, 512, .inl pkf)), (pv, .inl (X.2.1, 512, .inl pvf)), (h, .inr (2, [.ref hk, .ref hv, .int (nI Hm.length), .int (nI wh)])), (hk, .inl (X.2.1, 512, .inl hkf)), (hv, .inl (X.2.1, 512, .inl hvf)), (d, .inr (1, [.ref h, .ref lk, .ref lv, .int (nI 0)])), (lk, .inl (X.2.1, 60, .inl lkf)), (lv, .inl (X.2.1, 60, .inl lvf)), (t, .inr (4, [.ref p, .int (nI bk), .int (nI b), .int (nI (bl + 1)), .ref fa, .ref oa, .int f_nn, .int f_dd, .int f_mo])), (fa, .inl (X.2.1, 6 * (bl + 1), .inl ff)), (oa, .inl (X.2.1, 512, .inl o)), (t2, .inr (4, [.ref h, .int (nI bk), .int (nI b), .int (nI (bl + 1)), .ref fa2, .ref oa2, .int e_nn, .int e_dd, .int e_mo])), (fa2, .inl (X.2.1, 6 * (bl + 1), .inl ffb)), (oa2, .inl (X.2.1, 512, .inl ob)), (ch, .inr (0, [.ref ck, .ref cv, .int (nI C.length)])), (ck, .inl (X.2.1, 60, .inl ckf)), (cv, .inl (X.2.1, 60, .inl cvf)), (rs, .inr (3, [.ref rk_, .ref rv, .ref rd, .int (nI R2.length)])), (rk_, .inl (X.2.1, 150, .inl rk2)), (rv, .inl (X.2.1, 150, .inl rv2)), (rd, .inl (X.2.2, 150, .inr (.inl rdf))), (m, .inr (6, [.int (nI bl), .int (nI bk), .int (nI b), .int (nI (2 ^ b)), .ref mn, .ref xr, .ref yr, .ref vr, .ref cr, .ref wr, .int (nI C.length), .int (nI 0), .int f_ct, .ref wl, .ref wc, .int f_wt, .int f_lv, .int f_fi, .int f_en, .long f_cd, .ref rx, .ref ry, .ref mv, .ref fr, .int (nI R3.length)])), (mn, .inl (X.2.1, 2, .inl mf)), (xr, .inl (X.2.1, 6600, .inl xf)), (yr, .inl (X.2.1, 6600, .inl yf)), (vr, .inl (X.2.1, 6600, .inl vf)), (cr, .inl (X.2.2, 6600, .inr (.inl cf))), (wr, .inl (X.2.1, 6600, .inl wf)), (wl, .inl (X.2.1, 80, .inl lf)), (wc, .inl (X.2.2, 80, .inr (.inl kf))), (rx, .inl (X.2.1, 150, .inl rx2)), (ry, .inl (X.2.1, 150, .inl ry2)), (mv, .inl (X.2.1, 150, .inl mv2)), (fr, .inl (X.2.2, 150, .inr (.inl frf)))] H := hP
  have hD : va_D A_ [(a, .inr (5, [.int (nI bl), .int (nI bk), .int (nI (2 ^ b)), .ref d, .ref p, .ref t, .ref t2, .ref ch, .ref rs, .int (nI 1), .int f_ct, .int (nI cp)])), (p, .inr (2, [.ref pk, .ref pv, .int (nI P.length), .int (nI w)])), (pk, .inl (X.2.1, 512, .inl pkf)), (pv, .inl (X.2.1, 512, .inl pvf)), (h, .inr (2, [.ref hk, .ref hv, .int (nI Hm.length), .int (nI wh)])), (hk, .inl (X.2.1, 512, .inl hkf)), (hv, .inl (X.2.1, 512, .inl hvf)), (d, .inr (1, [.ref h, .ref lk, .ref lv, .int (nI 0)])), (lk, .inl (X.2.1, 60, .inl lkf)), (lv, .inl (X.2.1, 60, .inl lvf)), (t, .inr (4, [.ref p, .int (nI bk), .int (nI b), .int (nI (bl + 1)), .ref fa, .ref oa, .int f_nn, .int f_dd, .int f_mo])), (fa, .inl (X.2.1, 6 * (bl + 1), .inl ff)), (oa, .inl (X.2.1, 512, .inl o)), (t2, .inr (4, [.ref h, .int (nI bk), .int (nI b), .int (nI (bl + 1)), .ref fa2, .ref oa2, .int e_nn, .int e_dd, .int e_mo])), (fa2, .inl (X.2.1, 6 * (bl + 1), .inl ffb)), (oa2, .inl (X.2.1, 512, .inl ob)), (ch, .inr (0, [.ref ck, .ref cv, .int (nI C.length)])), (ck, .inl (X.2.1, 60, .inl ckf)), (cv, .inl (X.2.1, 60, .inl cvf)), (rs, .inr (3, [.ref rk_, .ref rv, .ref rd, .int (nI R2.length)])), (rk_, .inl (X.2.1, 150, .inl rk2)), (rv, .inl (X.2.1, 150, .inl rv2)), (rd, .inl (X.2.2, 150, .inr (.inl rdf))), (m, .inr (6, [.int (nI bl), .int (nI bk), .int (nI b), .int (nI (2 ^ b)), .ref mn, .ref xr, .ref yr, .ref vr, .ref cr, .ref wr, .int (nI C.length), .int (nI 0), .int f_ct, .ref wl, .ref wc, .int f_wt, .int f_lv, .int f_fi, .int f_en, .long f_cd, .ref rx, .ref ry, .ref mv, .ref fr, .int (nI R3.length)])), (mn, .inl (X.2.1, 2, .inl mf)), (xr, .inl (X.2.1, 6600, .inl xf)), (yr, .inl (X.2.1, 6600, .inl yf)), (vr, .inl (X.2.1, 6600, .inl vf)), (cr, .inl (X.2.2, 6600, .inr (.inl cf))), (wr, .inl (X.2.1, 6600, .inl wf)), (wl, .inl (X.2.1, 80, .inl lf)), (wc, .inl (X.2.2, 80, .inr (.inl kf))), (rx, .inl (X.2.1, 150, .inl rx2)), (ry, .inl (X.2.1, 150, .inl ry2)), (mv, .inl (X.2.1, 150, .inl mv2)), (fr, .inl (X.2.2, 150, .inr (.inl frf)))] := hD
  try dsimp only at hb2
  have hE9 := ha.2.trans hb2.2.symm
  have hE : ra = rb := congrArg Prod.fst hE9
  have hE2 : R2 = R3 := congrArg Prod.snd hE9
  subst hE2
  refine lv_icmp_eq (tgt := 649) hx hb dL_law_383 (by decide) (fun c_383 => ?_) (fun c_383 => ?_)
  · skip
    exact kk _ _ (Or.inl ⟨cp, w, wh, f_ct, f_nn, f_dd, f_mo, e_nn, e_dd, e_mo, f_wt, f_lv, f_fi, f_en, f_cd, pkf, pvf, hkf, hvf, lkf, lvf, ff, o, ffb, ob, ckf, cvf, rk2, rv2, mf, xf, yf, vf, wf, lf, rx2, ry2, mv2, rdf, cf, kf, frf, P, Hm, ZP, ZQ, C, R2, K, ⟨f_cp, (by omega), (by omega), f_p, f_h, f_c, ha.1, f_t, f_t2, f_m0, f_m1, hb2.1, f_ap, f_tr, f_tr2, (by omega), f_kh, f_kc⟩, hP, hD⟩) hS
  · skip
    exact absurd hE c_383
set_option maxHeartbeats 4000000 in
set_option maxRecDepth 100000 in
theorem lw_on_insert {pz : Program} {l : Launch} {ez : Env} {sz : State} {mz : MethodId} {below : List Frame} {meth : Method} {cz : Code} {X : kX} {bb L : Nat} {xs : Nat → Int32} {A_ : Nat → Prop} {bl bk b n i a p pk pv h hk hv d lk lv t fa oa t2 fa2 oa2 ch ck cv rs rk_ rv rd m mn xr yr vr cr wr wl wc rx ry mv fr : Nat} {Q : State → Prop} {H : Heap} {locs : List Loc} {ls : Array Slot} (C0 : lwc pz sz mz cz X bb L xs A_) (hpar : lpar bl bk b) (hn : n < 512) (hi : i + 6 ≤ L) (hL : L ≤ 3075) (hI : LOn X A_ bl bk b n a p pk pv h hk hv d lk lv t fa oa t2 fa2 oa2 ch ck cv rs rk_ rv rd m mn xr yr vr cr wr wl wc rx ry mv fr H) (hS : va_S A_ sz.heap H locs) (hl : lv_has ls 4 [(0, .ref bb), (1, .ref a), (2, .ref m), (3, .int (nI i))]) (kk : ∀ (H1 : Heap) (locs1 : List Loc), LOn X A_ bl bk b (n + 1) a p pk pv h hk hv d lk lv t fa oa t2 fa2 oa2 ch ck cv rs rk_ rv rd m mn xr yr vr cr wr wl wc rx ry mv fr H1 ∨ LOff X A_ bl bk b (n + 1) a p pk pv h hk hv d lk lv t fa oa t2 fa2 oa2 ch ck cv rs rk_ rv rd m mn xr yr vr cr wr wl wc rx ry mv fr H1 → va_S A_ sz.heap H1 locs1 → W pz l ez room_1 sz mz #[Value.ref bb] below meth cz H1 locs1 600000 7302250 Q (F0 mz 649 ls [])) : W pz l ez room_1 sz mz #[Value.ref bb] below meth cz H locs 600000 7302250 Q (F0 mz 140 ls []) := by
  obtain ⟨hx, hb, hml, hown, hts, hXs, hbl0, hK, hN, hbA⟩ := C0
  obtain ⟨hbl1, hbl, hbk, hbk2, hb1⟩ := hpar
  have hsp := pw15 hb1
  refine LOn.use hI (fun cp w wh f_ct f_nn f_dd f_mo e_nn e_dd e_mo f_wt f_lv f_fi f_en f_cd pkf pvf hkf hvf lkf lvf ff o ffb ob ckf cvf rkf rvf mf xf yf vf wf lf rxf ryf mvf rdf cf kf frf P Hm ZP ZQ C R K f_cp f_w f_wh f_p f_h f_c f_r f_t f_t2 f_m0 f_m1 f_mr f_ap f_tr f_tr2 f_k f_kh f_kc hP hD => ?_)
  clear hI
  have hlt : P.length < 512 := by
    have h9 := ki_len f_p.2.2.1 (f_ap ▸ ki_apL C f_kh f_kc)
    omega
  refine lv_aload_n hx hb dL_law_140 rfl (lv_at hl 1 rfl) ?_
  refine lv_aload_n hx hb dL_law_141 rfl (lv_at hl 0 rfl) ?_
  refine lv_iload_n hx hb dL_law_142 rfl (lv_at hl 3 rfl) ?_
  refine lv_iconst (v := nI 1) hx hb dL_law_143 (by decide) ?_
  refine lv_iadd hx hb dL_law_144 ?_
  refine lv_topi (fun x_1 ex_1 => ?_)
  obtain rfl : x_1 = nI (i + 1) := by
    rw [ex_1]
    exact nI_add _ _
  refine va_sld hx hb hXs hbl0 hbA hS (vp_in_nI (n := i + 1) (by omega) (by omega)) dL_law_145 ?_
  refine lv_topi (fun x_2 ex_2 => ?_)
  obtain rfl : x_2 = xs (i + 1) := by
    rw [ex_2]
    rw [nI_clamp (by omega)]
  refine lv_aload_n hx hb dL_law_146 rfl (lv_at hl 0 rfl) ?_
  refine lv_iload_n hx hb dL_law_147 rfl (lv_at hl 3 rfl) ?_
  refine lv_iconst (v := nI 2) hx hb dL_law_148 (by decide) ?_
  refine lv_iadd hx hb dL_law_149 ?_
  refine lv_topi (fun x_3 ex_3 => ?_)
  obtain rfl : x_3 = nI (i + 2) := by
    rw [ex_3]
    exact nI_add _ _
  refine va_sld hx hb hXs hbl0 hbA hS (vp_in_nI (n := i + 2) (by omega) (by omega)) dL_law_150 ?_
  refine lv_topi (fun x_4 ex_4 => ?_)
  obtain rfl : x_4 = xs (i + 2) := by
    rw [ex_4]
    rw [nI_clamp (by omega)]
  refine lv_aload_n hx hb dL_law_151 rfl (lv_at hl 0 rfl) ?_
  refine lv_iload_n hx hb dL_law_152 rfl (lv_at hl 3 rfl) ?_
  refine lv_iconst (v := nI 3) hx hb dL_law_153 (by decide) ?_
  refine lv_iadd hx hb dL_law_154 ?_
  refine lv_topi (fun x_5 ex_5 => ?_)
  obtain rfl : x_5 = nI (i + 3) := by
    rw [ex_5]
    exact nI_add _ _
  refine va_sld hx hb hXs hbl0 hbA hS (vp_in_nI (n := i + 3) (by omega) (by omega)) dL_law_155 ?_
  refine lv_topi (fun x_6 ex_6 => ?_)
  obtain rfl : x_6 = xs (i + 3) := by
    rw [ex_6]
    rw [nI_clamp (by omega)]
  refine ckVi (As := [.int (xs (i + 1)), .int (xs (i + 2)), .int (xs (i + 3))]) (rest := []) 0 [0, 1, 2, 3, 10, 11, 12, 16, 17, 18] (c_X5_insert l X a d p t t2 ch rs (2 ^ b) bl bk cp f_ct pk pv w fa oa b ck cv f_nn f_dd f_mo (xs (i + 1)) (xs (i + 2)) (xs (i + 3)) pkf pvf ff o ckf cvf P C f_p f_c hlt hbl hb1 hbk hbk2 hsp rfl f_t f_m0.I (by omega)) ⟨hx, hb, hml, hown, hts⟩ (cwV 3 hts gL_law_X5_insert rfl rfl rfl (by decide +kernel) ⟨(by show b + 6 + 1 + 1 ≤ 2048; omega), (by show 8 + (6 + 11) + 100 * (b + 6 + 1) ≤ 84000; omega)⟩) hK hN hP hD hS (by decide) rfl (ci := 5) rfl rfl (fun _ => rfl) rfl hl.1 rfl (Nat.le_of_ble_eq_true rfl) dL_law_156 ⟨lroom.1, lroom.2⟩ (fun ra u_7 H locs ha hP hD hS => ?_)
  obtain ⟨kf2, vf2, P2, w2, g_nn, g_dd, g_mo, ff2, o2, ck2, cv2, D⟩ := u_7
  have hP : va_P X.1 vwCl [(a, .inr (5, [.int (nI bl), .int (nI bk), .int (nI (2 ^ b)), .ref d, .ref p, .ref t, .ref t2, .ref ch, .ref rs, .int (nI 1), .int f_ct, .int (nI cp)])), (p, .inr (2, [.ref pk, .ref pv, .int (nI P2.length), .int (nI w2)])), (pk, .inl (X.2.1, 512, .inl kf2)), (pv, .inl (X.2.1, 512, .inl vf2)), (h, .inr (2, [.ref hk, .ref hv, .int (nI Hm.length), .int (nI wh)])), (hk, .inl (X.2.1, 512, .inl hkf)), (hv, .inl (X.2.1, 512, .inl hvf)), (d, .inr (1, [.ref h, .ref lk, .ref lv, .int (nI 0)])), (lk, .inl (X.2.1, 60, .inl lkf)), (lv, .inl (X.2.1, 60, .inl lvf)), (t, .inr (4, [.ref p, .int (nI bk), .int (nI b), .int (nI (bl + 1)), .ref fa, .ref oa, .int g_nn, .int g_dd, .int g_mo])), (fa, .inl (X.2.1, 6 * (bl + 1), .inl ff2)), (oa, .inl (X.2.1, 512, .inl o2)), (t2, .inr (4, [.ref h, .int (nI bk), .int (nI b), .int (nI (bl + 1)), .ref fa2, .ref oa2, .int e_nn, .int e_dd, .int e_mo])), (fa2, .inl (X.2.1, 6 * (bl + 1), .inl ffb)), (oa2, .inl (X.2.1, 512, .inl ob)), (ch, .inr (0, [.ref ck, .ref cv, .int (nI ((C ++ D).length))])), (ck, .inl (X.2.1, 60, .inl ck2)), (cv, .inl (X.2.1, 60, .inl cv2)), (rs, .inr (3, [.ref rk_, .ref rv, .ref rd, .int (nI R.length)])), (rk_, .inl (X.2.1, 150, .inl rkf)), (rv, .inl (X.2.1, 150, .inl rvf)), (rd, .inl (X.2.2, 150, .inr (.inl rdf))), (m, .inr (6, [.int (nI bl), .int (nI bk), .int (nI b), .int (nI (2 ^ b)), .ref mn, .ref xr, .ref yr, .ref vr, .ref cr, .ref wr, .int (nI C.length), .int (nI 0), .int f_ct, .ref wl, .ref wc, .int f_wt, .int f_lv, .int f_fi, .int f_en, .long f_cd, .ref rx, .ref ry, .ref mv, .ref fr, .int (nI R.length)])), (mn, .inl (X.2.1, 2, .inl mf)), (xr, .inl (X.2.1, 6600, .inl xf)), (yr, .inl (X.2.1, 6600, .inl yf)), (vr, .inl (X.2.1, 6600, .inl vf)), (cr, .inl (X.2.2, 6600, .inr (.inl cf))), (wr, .inl (X.2.1, 6600, .inl wf)), (wl, .inl (X.2.1, 80, .inl lf)), (wc, .inl (X.2.2, 80, .inr (.inl kf))), (rx, .inl (X.2.1, 150, .inl rxf)), (ry, .inl (X.2.1, 150, .inl ryf)), (mv, .inl (X.2.1, 150, .inl mvf)), (fr, .inl (X.2.2, 150, .inr (.inl frf)))] H := hP
  have hD : va_D A_ [(a, .inr (5, [.int (nI bl), .int (nI bk), .int (nI (2 ^ b)), .ref d, .ref p, .ref t, .ref t2, .ref ch, .ref rs, .int (nI 1), .int f_ct, .int (nI cp)])), (p, .inr (2, [.ref pk, .ref pv, .int (nI P2.length), .int (nI w2)])), (pk, .inl (X.2.1, 512, .inl kf2)), (pv, .inl (X.2.1, 512, .inl vf2)), (h, .inr (2, [.ref hk, .ref hv, .int (nI Hm.length), .int (nI wh)])), (hk, .inl (X.2.1, 512, .inl hkf)), (hv, .inl (X.2.1, 512, .inl hvf)), (d, .inr (1, [.ref h, .ref lk, .ref lv, .int (nI 0)])), (lk, .inl (X.2.1, 60, .inl lkf)), (lv, .inl (X.2.1, 60, .inl lvf)), (t, .inr (4, [.ref p, .int (nI bk), .int (nI b), .int (nI (bl + 1)), .ref fa, .ref oa, .int g_nn, .int g_dd, .int g_mo])), (fa, .inl (X.2.1, 6 * (bl + 1), .inl ff2)), (oa, .inl (X.2.1, 512, .inl o2)), (t2, .inr (4, [.ref h, .int (nI bk), .int (nI b), .int (nI (bl + 1)), .ref fa2, .ref oa2, .int e_nn, .int e_dd, .int e_mo])), (fa2, .inl (X.2.1, 6 * (bl + 1), .inl ffb)), (oa2, .inl (X.2.1, 512, .inl ob)), (ch, .inr (0, [.ref ck, .ref cv, .int (nI ((C ++ D).length))])), (ck, .inl (X.2.1, 60, .inl ck2)), (cv, .inl (X.2.1, 60, .inl cv2)), (rs, .inr (3, [.ref rk_, .ref rv, .ref rd, .int (nI R.length)])), (rk_, .inl (X.2.1, 150, .inl rkf)), (rv, .inl (X.2.1, 150, .inl rvf)), (rd, .inl (X.2.2, 150, .inr (.inl rdf))), (m, .inr (6, [.int (nI bl), .int (nI bk), .int (nI b), .int (nI (2 ^ b)), .ref mn, .ref xr, .ref yr, .ref vr, .ref cr, .ref wr, .int (nI C.length), .int (nI 0), .int f_ct, .ref wl, .ref wc, .int f_wt, .int f_lv, .int f_fi, .int f_en, .long f_cd, .ref rx, .ref ry, .ref mv, .ref fr, .int (nI R.length)])), (mn, .inl (X.2.1, 2, .inl mf)), (xr, .inl (X.2.1, 6600, .inl xf)), (yr, .inl (X.2.1, 6600, .inl yf)), (vr, .inl (X.2.1, 6600, .inl vf)), (cr, .inl (X.2.2, 6600, .inr (.inl cf))), (wr, .inl (X.2.1, 6600, .inl wf)), (wl, .inl (X.2.1, 80, .inl lf)), (wc, .inl (X.2.2, 80, .inr (.inl kf))), (rx, .inl (X.2.1, 150, .inl rxf)), (ry, .inl (X.2.1, 150, .inl ryf)), (mv, .inl (X.2.1, 150, .inl mvf)), (fr, .inl (X.2.2, 150, .inr (.inl frf)))] := hD
  try dsimp only at ha
  refine lv_aload_n hx hb dL_law_159 rfl (lv_at hl 2 rfl) ?_
  refine lv_aload_n hx hb dL_law_160 rfl (lv_at hl 0 rfl) ?_
  refine lv_iload_n hx hb dL_law_161 rfl (lv_at hl 3 rfl) ?_
  refine lv_iconst (v := nI 1) hx hb dL_law_162 (by decide) ?_
  refine lv_iadd hx hb dL_law_163 ?_
  refine lv_topi (fun x_8 ex_8 => ?_)
  obtain rfl : x_8 = nI (i + 1) := by
    rw [ex_8]
    exact nI_add _ _
  refine va_sld hx hb hXs hbl0 hbA hS (vp_in_nI (n := i + 1) (by omega) (by omega)) dL_law_164 ?_
  refine lv_topi (fun x_9 ex_9 => ?_)
  obtain rfl : x_9 = xs (i + 1) := by
    rw [ex_9]
    rw [nI_clamp (by omega)]
  refine lv_aload_n hx hb dL_law_165 rfl (lv_at hl 0 rfl) ?_
  refine lv_iload_n hx hb dL_law_166 rfl (lv_at hl 3 rfl) ?_
  refine lv_iconst (v := nI 2) hx hb dL_law_167 (by decide) ?_
  refine lv_iadd hx hb dL_law_168 ?_
  refine lv_topi (fun x_10 ex_10 => ?_)
  obtain rfl : x_10 = nI (i + 2) := by
    rw [ex_10]
    exact nI_add _ _
  refine va_sld hx hb hXs hbl0 hbA hS (vp_in_nI (n := i + 2) (by omega) (by omega)) dL_law_169 ?_
  refine lv_topi (fun x_11 ex_11 => ?_)
  obtain rfl : x_11 = xs (i + 2) := by
    rw [ex_11]
    rw [nI_clamp (by omega)]
  refine lv_aload_n hx hb dL_law_170 rfl (lv_at hl 0 rfl) ?_
  refine lv_iload_n hx hb dL_law_171 rfl (lv_at hl 3 rfl) ?_
  refine lv_iconst (v := nI 3) hx hb dL_law_172 (by decide) ?_
  refine lv_iadd hx hb dL_law_173 ?_
  refine lv_topi (fun x_12 ex_12 => ?_)
  obtain rfl : x_12 = nI (i + 3) := by
    rw [ex_12]
    exact nI_add _ _
  refine va_sld hx hb hXs hbl0 hbA hS (vp_in_nI (n := i + 3) (by omega) (by omega)) dL_law_174 ?_
  refine lv_topi (fun x_13 ex_13 => ?_)
  obtain rfl : x_13 = xs (i + 3) := by
    rw [ex_13]
    rw [nI_clamp (by omega)]
  refine ckVi (As := [.int (xs (i + 1)), .int (xs (i + 2)), .int (xs (i + 3))]) (rest := [.int ra]) 0 [23, 24, 25, 26, 27, 28, 29, 30, 31] (c_X6_insert l X m bl bk b (2 ^ b) mn xr yr vr cr wr C.length wl wc rx ry mv fr f_ct f_wt f_lv f_fi f_en (nI R.length) f_cd (xs (i + 1)) (xs (i + 2)) (xs (i + 3)) mf xf yf vf wf cf lf kf P ZP Hm ZQ f_m0 f_m1 hb1 hsp rfl f_c.1 hlt hbl hbk hbk2) ⟨hx, hb, hml, hown, hts⟩ (cwV 3 hts gL_law_X6_insert rfl rfl rfl (by decide +kernel) ⟨Nat.le_of_ble_eq_true rfl, Nat.le_of_ble_eq_true rfl⟩) hK hN hP hD hS (by decide) rfl (ci := 6) rfl rfl (fun _ => rfl) rfl hl.1 rfl (Nat.le_of_ble_eq_true rfl) dL_law_175 ⟨lroom.1, lroom.2⟩ (fun rb u_14 H locs hb2 hP hD hS => ?_)
  obtain ⟨⟨mf2, xf2, yf2, vf3, wf2, cf2⟩, ⟨⟨lf2, kf3⟩, ⟨g_wt, g_lv, g_fi, g_en, g_cd⟩⟩, ⟨P3, ZP3, D3⟩⟩ := u_14
  have hP : va_P X.1 vwCl [(a, .inr (5, [.int (nI bl), .int (nI bk), .int (nI (2 ^ b)), .ref d, .ref p, .ref t, .ref t2, .ref ch, .ref rs, .int (nI 1), .int f_ct, .int (nI cp)])), (p, .inr (2, [.ref pk, .ref pv, .int (nI P2.length), .int (nI w2)])), (pk, .inl (X.2.1, 512, .inl kf2)), (pv, .inl (X.2.1, 512, .inl vf2)), (h, .inr (2, [.ref hk, .ref hv, .int (nI Hm.length), .int (nI wh)])), (hk, .inl (X.2.1, 512, .inl hkf)), (hv, .inl (X.2.1, 512, .inl hvf)), (d, .inr (1, [.ref h, .ref lk, .ref lv, .int (nI 0)])), (lk, .inl (X.2.1, 60, .inl lkf)), (lv, .inl (X.2.1, 60, .inl lvf)), (t, .inr (4, [.ref p, .int (nI bk), .int (nI b), .int (nI (bl + 1)), .ref fa, .ref oa, .int g_nn, .int g_dd, .int g_mo])), (fa, .inl (X.2.1, 6 * (bl + 1), .inl ff2)), (oa, .inl (X.2.1, 512, .inl o2)), (t2, .inr (4, [.ref h, .int (nI bk), .int (nI b), .int (nI (bl + 1)), .ref fa2, .ref oa2, .int e_nn, .int e_dd, .int e_mo])), (fa2, .inl (X.2.1, 6 * (bl + 1), .inl ffb)), (oa2, .inl (X.2.1, 512, .inl ob)), (ch, .inr (0, [.ref ck, .ref cv, .int (nI ((C ++ D).length))])), (ck, .inl (X.2.1, 60, .inl ck2)), (cv, .inl (X.2.1, 60, .inl cv2)), (rs, .inr (3, [.ref rk_, .ref rv, .ref rd, .int (nI R.length)])), (rk_, .inl (X.2.1, 150, .inl rkf)), (rv, .inl (X.2.1, 150, .inl rvf)), (rd, .inl (X.2.2, 150, .inr (.inl rdf))), (m, .inr (6, [.int (nI bl), .int (nI bk), .int (nI b), .int (nI (2 ^ b)), .ref mn, .ref xr, .ref yr, .ref vr, .ref cr, .ref wr, .int (nI (C.length + D3.length)), .int (nI 0), .int f_ct, .ref wl, .ref wc, .int g_wt, .int g_lv, .int g_fi, .int g_en, .long g_cd, .ref rx, .ref ry, .ref mv, .ref fr, .int (nI R.length)])), (mn, .inl (X.2.1, 2, .inl mf2)), (xr, .inl (X.2.1, 6600, .inl xf2)), (yr, .inl (X.2.1, 6600, .inl yf2)), (vr, .inl (X.2.1, 6600, .inl vf3)), (cr, .inl (X.2.2, 6600, .inr (.inl cf2))), (wr, .inl (X.2.1, 6600, .inl wf2)), (wl, .inl (X.2.1, 80, .inl lf2)), (wc, .inl (X.2.2, 80, .inr (.inl kf3))), (rx, .inl (X.2.1, 150, .inl rxf)), (ry, .inl (X.2.1, 150, .inl ryf)), (mv, .inl (X.2.1, 150, .inl mvf)), (fr, .inl (X.2.2, 150, .inr (.inl frf)))] H := hP
  have hD : va_D A_ [(a, .inr (5, [.int (nI bl), .int (nI bk), .int (nI (2 ^ b)), .ref d, .ref p, .ref t, .ref t2, .ref ch, .ref rs, .int (nI 1), .int f_ct, .int (nI cp)])), (p, .inr (2, [.ref pk, .ref pv, .int (nI P2.length), .int (nI w2)])), (pk, .inl (X.2.1, 512, .inl kf2)), (pv, .inl (X.2.1, 512, .inl vf2)), (h, .inr (2, [.ref hk, .ref hv, .int (nI Hm.length), .int (nI wh)])), (hk, .inl (X.2.1, 512, .inl hkf)), (hv, .inl (X.2.1, 512, .inl hvf)), (d, .inr (1, [.ref h, .ref lk, .ref lv, .int (nI 0)])), (lk, .inl (X.2.1, 60, .inl lkf)), (lv, .inl (X.2.1, 60, .inl lvf)), (t, .inr (4, [.ref p, .int (nI bk), .int (nI b), .int (nI (bl + 1)), .ref fa, .ref oa, .int g_nn, .int g_dd, .int g_mo])), (fa, .inl (X.2.1, 6 * (bl + 1), .inl ff2)), (oa, .inl (X.2.1, 512, .inl o2)), (t2, .inr (4, [.ref h, .int (nI bk), .int (nI b), .int (nI (bl + 1)), .ref fa2, .ref oa2, .int e_nn, .int e_dd, .int e_mo])), (fa2, .inl (X.2.1, 6 * (bl + 1), .inl ffb)), (oa2, .inl (X.2.1, 512, .inl ob)), (ch, .inr (0, [.ref ck, .ref cv, .int (nI ((C ++ D).length))])), (ck, .inl (X.2.1, 60, .inl ck2)), (cv, .inl (X.2.1, 60, .inl cv2)), (rs, .inr (3, [.ref rk_, .ref rv, .ref rd, .int (nI R.length)])), (rk_, .inl (X.2.1, 150, .inl rkf)), (rv, .inl (X.2.1, 150, .inl rvf)), (rd, .inl (X.2.2, 150, .inr (.inl rdf))), (m, .inr (6, [.int (nI bl), .int (nI bk), .int (nI b), .int (nI (2 ^ b)), .ref mn, .ref xr, .ref yr, .ref vr, .ref cr, .ref wr, .int (nI (C.length + D3.length)), .int (nI 0), .int f_ct, .ref wl, .ref wc, .int g_wt, .int g_lv, .int g_fi, .int g_en, .long g_cd, .ref rx, .ref ry, .ref mv, .ref fr, .int (nI R.length)])), (mn, .inl (X.2.1, 2, .inl mf2)), (xr, .inl (X.2.1, 6600, .inl xf2)), (yr, .inl (X.2.1, 6600, .inl yf2)), (vr, .inl (X.2.1, 6600, .inl vf3)), (cr, .inl (X.2.2, 6600, .inr (.inl cf2))), (wr, .inl (X.2.1, 6600, .inl wf2)), (wl, .inl (X.2.1, 80, .inl lf2)), (wc, .inl (X.2.2, 80, .inr (.inl kf3))), (rx, .inl (X.2.1, 150, .inl rxf)), (ry, .inl (X.2.1, 150, .inl ryf)), (mv, .inl (X.2.1, 150, .inl mvf)), (fr, .inl (X.2.2, 150, .inr (.inl frf)))] := hD
  try dsimp only at hb2
  have hE9 := ha.1.trans hb2.1.symm
  have hE : ra = rb := congrArg Prod.fst hE9
  have hE2 : P2 = P3 := congrArg (fun z => z.2.1) hE9
  have hE3 : D = D3 := congrArg (fun z => z.2.2) hE9
  rw [← hE2] at hb2
  rw [← hE3, ← List.length_append] at hP hD
  have hP : va_P X.1 vwCl [(a, .inr (5, [.int (nI bl), .int (nI bk), .int (nI (2 ^ b)), .ref d, .ref p, .ref t, .ref t2, .ref ch, .ref rs, .int (nI 1), .int f_ct, .int (nI cp)])), (p, .inr (2, [.ref pk, .ref pv, .int (nI P2.length), .int (nI w2)])), (pk, .inl (X.2.1, 512, .inl kf2)), (pv, .inl (X.2.1, 512, .inl vf2)), (h, .inr (2, [.ref hk, .ref hv, .int (nI Hm.length), .int (nI wh)])), (hk, .inl (X.2.1, 512, .inl hkf)), (hv, .inl (X.2.1, 512, .inl hvf)), (d, .inr (1, [.ref h, .ref lk, .ref lv, .int (nI 0)])), (lk, .inl (X.2.1, 60, .inl lkf)), (lv, .inl (X.2.1, 60, .inl lvf)), (t, .inr (4, [.ref p, .int (nI bk), .int (nI b), .int (nI (bl + 1)), .ref fa, .ref oa, .int g_nn, .int g_dd, .int g_mo])), (fa, .inl (X.2.1, 6 * (bl + 1), .inl ff2)), (oa, .inl (X.2.1, 512, .inl o2)), (t2, .inr (4, [.ref h, .int (nI bk), .int (nI b), .int (nI (bl + 1)), .ref fa2, .ref oa2, .int e_nn, .int e_dd, .int e_mo])), (fa2, .inl (X.2.1, 6 * (bl + 1), .inl ffb)), (oa2, .inl (X.2.1, 512, .inl ob)), (ch, .inr (0, [.ref ck, .ref cv, .int (nI ((C ++ D).length))])), (ck, .inl (X.2.1, 60, .inl ck2)), (cv, .inl (X.2.1, 60, .inl cv2)), (rs, .inr (3, [.ref rk_, .ref rv, .ref rd, .int (nI R.length)])), (rk_, .inl (X.2.1, 150, .inl rkf)), (rv, .inl (X.2.1, 150, .inl rvf)), (rd, .inl (X.2.2, 150, .inr (.inl rdf))), (m, .inr (6, [.int (nI bl), .int (nI bk), .int (nI b), .int (nI (2 ^ b)), .ref mn, .ref xr, .ref yr, .ref vr, .ref cr, .ref wr, .int (nI ((C ++ D).length)), .int (nI 0), .int f_ct, .ref wl, .ref wc, .int g_wt, .int g_lv, .int g_fi, .int g_en, .long g_cd, .ref rx, .ref ry, .ref mv, .ref fr, .int (nI R.length)])), (mn, .inl (X.2.1, 2, .inl mf2)), (xr, .inl (X.2.1, 6600, .inl xf2)), (yr, .inl (X.2.1, 6600, .inl yf2)), (vr, .inl (X.2.1, 6600, .inl vf3)), (cr, .inl (X.2.2, 6600, .inr (.inl cf2))), (wr, .inl (X.2.1, 6600, .inl wf2)), (wl, .inl (X.2.1, 80, .inl lf2)), (wc, .inl (X.2.2, 80, .inr (.inl kf3))), (rx, .inl (X.2.1, 150, .inl rxf)), (ry, .inl (X.2.1, 150, .inl ryf)), (mv, .inl (X.2.1, 150, .inl mvf)), (fr, .inl (X.2.2, 150, .inr (.inl frf)))] _ := hP
  have hD : va_D A_ [(a, .inr (5, [.int (nI bl), .int (nI bk), .int (nI (2 ^ b)), .ref d, .ref p, .ref t, .ref t2, .ref ch, .ref rs, .int (nI 1), .int f_ct, .int (nI cp)])), (p, .inr (2, [.ref pk, .ref pv, .int (nI P2.length), .int (nI w2)])), (pk, .inl (X.2.1, 512, .inl kf2)), (pv, .inl (X.2.1, 512, .inl vf2)), (h, .inr (2, [.ref hk, .ref hv, .int (nI Hm.length), .int (nI wh)])), (hk, .inl (X.2.1, 512, .inl hkf)), (hv, .inl (X.2.1, 512, .inl hvf)), (d, .inr (1, [.ref h, .ref lk, .ref lv, .int (nI 0)])), (lk, .inl (X.2.1, 60, .inl lkf)), (lv, .inl (X.2.1, 60, .inl lvf)), (t, .inr (4, [.ref p, .int (nI bk), .int (nI b), .int (nI (bl + 1)), .ref fa, .ref oa, .int g_nn, .int g_dd, .int g_mo])), (fa, .inl (X.2.1, 6 * (bl + 1), .inl ff2)), (oa, .inl (X.2.1, 512, .inl o2)), (t2, .inr (4, [.ref h, .int (nI bk), .int (nI b), .int (nI (bl + 1)), .ref fa2, .ref oa2, .int e_nn, .int e_dd, .int e_mo])), (fa2, .inl (X.2.1, 6 * (bl + 1), .inl ffb)), (oa2, .inl (X.2.1, 512, .inl ob)), (ch, .inr (0, [.ref ck, .ref cv, .int (nI ((C ++ D).length))])), (ck, .inl (X.2.1, 60, .inl ck2)), (cv, .inl (X.2.1, 60, .inl cv2)), (rs, .inr (3, [.ref rk_, .ref rv, .ref rd, .int (nI R.length)])), (rk_, .inl (X.2.1, 150, .inl rkf)), (rv, .inl (X.2.1, 150, .inl rvf)), (rd, .inl (X.2.2, 150, .inr (.inl rdf))), (m, .inr (6, [.int (nI bl), .int (nI bk), .int (nI b), .int (nI (2 ^ b)), .ref mn, .ref xr, .ref yr, .ref vr, .ref cr, .ref wr, .int (nI ((C ++ D).length)), .int (nI 0), .int f_ct, .ref wl, .ref wc, .int g_wt, .int g_lv, .int g_fi, .int g_en, .long g_cd, .ref rx, .ref ry, .ref mv, .ref fr, .int (nI R.length)])), (mn, .inl (X.2.1, 2, .inl mf2)), (xr, .inl (X.2.1, 6600, .inl xf2)), (yr, .inl (X.2.1, 6600, .inl yf2)), (vr, .inl (X.2.1, 6600, .inl vf3)), (cr, .inl (X.2.2, 6600, .inr (.inl cf2))), (wr, .inl (X.2.1, 6600, .inl wf2)), (wl, .inl (X.2.1, 80, .inl lf2)), (wc, .inl (X.2.2, 80, .inr (.inl kf3))), (rx, .inl (X.2.1, 150, .inl rxf)), (ry, .inl (X.2.1, 150, .inl ryf)), (mv, .inl (X.2.1, 150, .inl mvf)), (fr, .inl (X.2.2, 150, .inr (.inl frf)))] := hD
  obtain ⟨hq1, hq2, hq3, hq4, hq5⟩ := ha
  obtain ⟨ho1, ho2, -, kq, hkq⟩ := ins_of f_p.2.2.1 hq1 f_tr
  refine lv_icmp_eq (tgt := 649) hx hb dL_law_178 (by decide) (fun c_178 => ?_) (fun c_178 => ?_)
  · skip
    exact kk _ _ (Or.inl ⟨cp, w2, wh, f_ct, g_nn, g_dd, g_mo, e_nn, e_dd, e_mo, g_wt, g_lv, g_fi, g_en, g_cd, kf2, vf2, hkf, hvf, lkf, lvf, ff2, o2, ffb, ob, ck2, cv2, rkf, rvf, mf2, xf2, yf2, vf3, wf2, lf2, rxf, ryf, mvf, rdf, cf2, kf3, frf, P2, Hm, ZP3, ZQ, (C ++ D), R, (kq :: K), ⟨f_cp, (by omega), (by omega), hq2, f_h, hq5, f_r, hq4, f_t2, hb2.2.1, hb2.2.2, f_mr, (by rw [apL_app, f_ap]; exact ho1), ho2, f_tr2, (by show K.length + 1 ≤ n + 1; omega), (ki_more f_kh kq), (oi_app (oi_more f_kc kq) (hkq K))⟩, hP, hD⟩) hS
  · skip
    exact absurd hE c_178
set_option maxHeartbeats 4000000 in
set_option maxRecDepth 100000 in
theorem lw_on_delete {pz : Program} {l : Launch} {ez : Env} {sz : State} {mz : MethodId} {below : List Frame} {meth : Method} {cz : Code} {X : kX} {bb L : Nat} {xs : Nat → Int32} {A_ : Nat → Prop} {bl bk b n i a p pk pv h hk hv d lk lv t fa oa t2 fa2 oa2 ch ck cv rs rk_ rv rd m mn xr yr vr cr wr wl wc rx ry mv fr : Nat} {Q : State → Prop} {H : Heap} {locs : List Loc} {ls : Array Slot} (C0 : lwc pz sz mz cz X bb L xs A_) (hpar : lpar bl bk b) (hn : n < 512) (hi : i + 6 ≤ L) (hL : L ≤ 3075) (hI : LOn X A_ bl bk b n a p pk pv h hk hv d lk lv t fa oa t2 fa2 oa2 ch ck cv rs rk_ rv rd m mn xr yr vr cr wr wl wc rx ry mv fr H) (hS : va_S A_ sz.heap H locs) (hl : lv_has ls 4 [(0, .ref bb), (1, .ref a), (2, .ref m), (3, .int (nI i))]) (kk : ∀ (H1 : Heap) (locs1 : List Loc), LOn X A_ bl bk b (n + 1) a p pk pv h hk hv d lk lv t fa oa t2 fa2 oa2 ch ck cv rs rk_ rv rd m mn xr yr vr cr wr wl wc rx ry mv fr H1 ∨ LOff X A_ bl bk b (n + 1) a p pk pv h hk hv d lk lv t fa oa t2 fa2 oa2 ch ck cv rs rk_ rv rd m mn xr yr vr cr wr wl wc rx ry mv fr H1 → va_S A_ sz.heap H1 locs1 → W pz l ez room_1 sz mz #[Value.ref bb] below meth cz H1 locs1 600000 7302250 Q (F0 mz 649 ls [])) : W pz l ez room_1 sz mz #[Value.ref bb] below meth cz H locs 600000 7302250 Q (F0 mz 183 ls []) := by
  obtain ⟨hx, hb, hml, hown, hts, hXs, hbl0, hK, hN, hbA⟩ := C0
  obtain ⟨hbl1, hbl, hbk, hbk2, hb1⟩ := hpar
  have hsp := pw15 hb1
  refine LOn.use hI (fun cp w wh f_ct f_nn f_dd f_mo e_nn e_dd e_mo f_wt f_lv f_fi f_en f_cd pkf pvf hkf hvf lkf lvf ff o ffb ob ckf cvf rkf rvf mf xf yf vf wf lf rxf ryf mvf rdf cf kf frf P Hm ZP ZQ C R K f_cp f_w f_wh f_p f_h f_c f_r f_t f_t2 f_m0 f_m1 f_mr f_ap f_tr f_tr2 f_k f_kh f_kc hP hD => ?_)
  clear hI
  refine lv_aload_n hx hb dL_law_183 rfl (lv_at hl 1 rfl) ?_
  refine lv_aload_n hx hb dL_law_184 rfl (lv_at hl 0 rfl) ?_
  refine lv_iload_n hx hb dL_law_185 rfl (lv_at hl 3 rfl) ?_
  refine lv_iconst (v := nI 1) hx hb dL_law_186 (by decide) ?_
  refine lv_iadd hx hb dL_law_187 ?_
  refine lv_topi (fun x_1 ex_1 => ?_)
  obtain rfl : x_1 = nI (i + 1) := by
    rw [ex_1]
    exact nI_add _ _
  refine va_sld hx hb hXs hbl0 hbA hS (vp_in_nI (n := i + 1) (by omega) (by omega)) dL_law_188 ?_
  refine lv_topi (fun x_2 ex_2 => ?_)
  obtain rfl : x_2 = xs (i + 1) := by
    rw [ex_2]
    rw [nI_clamp (by omega)]
  refine lv_aload_n hx hb dL_law_189 rfl (lv_at hl 0 rfl) ?_
  refine lv_iload_n hx hb dL_law_190 rfl (lv_at hl 3 rfl) ?_
  refine lv_iconst (v := nI 2) hx hb dL_law_191 (by decide) ?_
  refine lv_iadd hx hb dL_law_192 ?_
  refine lv_topi (fun x_3 ex_3 => ?_)
  obtain rfl : x_3 = nI (i + 2) := by
    rw [ex_3]
    exact nI_add _ _
  refine va_sld hx hb hXs hbl0 hbA hS (vp_in_nI (n := i + 2) (by omega) (by omega)) dL_law_193 ?_
  refine lv_topi (fun x_4 ex_4 => ?_)
  obtain rfl : x_4 = xs (i + 2) := by
    rw [ex_4]
    rw [nI_clamp (by omega)]
  refine ckVi (As := [.int (xs (i + 1)), .int (xs (i + 2))]) (rest := []) 0 [0, 1, 2, 3, 16, 17, 18] (c_X5_delete l X a d p t t2 ch rs (2 ^ b) bl bk cp f_ct pk pv w b ck cv (xs (i + 1)) (xs (i + 2)) pkf pvf ckf cvf P C f_p f_c hsp) ⟨hx, hb, hml, hown, hts⟩ (cwV 2 hts gL_law_X5_delete rfl rfl rfl (by decide +kernel) ⟨Nat.le_of_ble_eq_true rfl, Nat.le_of_ble_eq_true rfl⟩) hK hN hP hD hS (by decide) rfl (ci := 5) rfl rfl (fun _ => rfl) rfl hl.1 rfl (Nat.le_of_ble_eq_true rfl) dL_law_194 ⟨lroom.1, lroom.2⟩ (fun ra u_5 H locs ha hP hD hS => ?_)
  obtain ⟨kf2, vf2, P2, w2, ck2, cv2, D⟩ := u_5
  have hP : va_P X.1 vwCl [(a, .inr (5, [.int (nI bl), .int (nI bk), .int (nI (2 ^ b)), .ref d, .ref p, .ref t, .ref t2, .ref ch, .ref rs, .int (nI 1), .int f_ct, .int (nI cp)])), (p, .inr (2, [.ref pk, .ref pv, .int (nI P2.length), .int (nI w2)])), (pk, .inl (X.2.1, 512, .inl kf2)), (pv, .inl (X.2.1, 512, .inl vf2)), (h, .inr (2, [.ref hk, .ref hv, .int (nI Hm.length), .int (nI wh)])), (hk, .inl (X.2.1, 512, .inl hkf)), (hv, .inl (X.2.1, 512, .inl hvf)), (d, .inr (1, [.ref h, .ref lk, .ref lv, .int (nI 0)])), (lk, .inl (X.2.1, 60, .inl lkf)), (lv, .inl (X.2.1, 60, .inl lvf)), (t, .inr (4, [.ref p, .int (nI bk), .int (nI b), .int (nI (bl + 1)), .ref fa, .ref oa, .int f_nn, .int f_dd, .int f_mo])), (fa, .inl (X.2.1, 6 * (bl + 1), .inl ff)), (oa, .inl (X.2.1, 512, .inl o)), (t2, .inr (4, [.ref h, .int (nI bk), .int (nI b), .int (nI (bl + 1)), .ref fa2, .ref oa2, .int e_nn, .int e_dd, .int e_mo])), (fa2, .inl (X.2.1, 6 * (bl + 1), .inl ffb)), (oa2, .inl (X.2.1, 512, .inl ob)), (ch, .inr (0, [.ref ck, .ref cv, .int (nI ((C ++ D).length))])), (ck, .inl (X.2.1, 60, .inl ck2)), (cv, .inl (X.2.1, 60, .inl cv2)), (rs, .inr (3, [.ref rk_, .ref rv, .ref rd, .int (nI R.length)])), (rk_, .inl (X.2.1, 150, .inl rkf)), (rv, .inl (X.2.1, 150, .inl rvf)), (rd, .inl (X.2.2, 150, .inr (.inl rdf))), (m, .inr (6, [.int (nI bl), .int (nI bk), .int (nI b), .int (nI (2 ^ b)), .ref mn, .ref xr, .ref yr, .ref vr, .ref cr, .ref wr, .int (nI C.length), .int (nI 0), .int f_ct, .ref wl, .ref wc, .int f_wt, .int f_lv, .int f_fi, .int f_en, .long f_cd, .ref rx, .ref ry, .ref mv, .ref fr, .int (nI R.length)])), (mn, .inl (X.2.1, 2, .inl mf)), (xr, .inl (X.2.1, 6600, .inl xf)), (yr, .inl (X.2.1, 6600, .inl yf)), (vr, .inl (X.2.1, 6600, .inl vf)), (cr, .inl (X.2.2, 6600, .inr (.inl cf))), (wr, .inl (X.2.1, 6600, .inl wf)), (wl, .inl (X.2.1, 80, .inl lf)), (wc, .inl (X.2.2, 80, .inr (.inl kf))), (rx, .inl (X.2.1, 150, .inl rxf)), (ry, .inl (X.2.1, 150, .inl ryf)), (mv, .inl (X.2.1, 150, .inl mvf)), (fr, .inl (X.2.2, 150, .inr (.inl frf)))] H := hP
  have hD : va_D A_ [(a, .inr (5, [.int (nI bl), .int (nI bk), .int (nI (2 ^ b)), .ref d, .ref p, .ref t, .ref t2, .ref ch, .ref rs, .int (nI 1), .int f_ct, .int (nI cp)])), (p, .inr (2, [.ref pk, .ref pv, .int (nI P2.length), .int (nI w2)])), (pk, .inl (X.2.1, 512, .inl kf2)), (pv, .inl (X.2.1, 512, .inl vf2)), (h, .inr (2, [.ref hk, .ref hv, .int (nI Hm.length), .int (nI wh)])), (hk, .inl (X.2.1, 512, .inl hkf)), (hv, .inl (X.2.1, 512, .inl hvf)), (d, .inr (1, [.ref h, .ref lk, .ref lv, .int (nI 0)])), (lk, .inl (X.2.1, 60, .inl lkf)), (lv, .inl (X.2.1, 60, .inl lvf)), (t, .inr (4, [.ref p, .int (nI bk), .int (nI b), .int (nI (bl + 1)), .ref fa, .ref oa, .int f_nn, .int f_dd, .int f_mo])), (fa, .inl (X.2.1, 6 * (bl + 1), .inl ff)), (oa, .inl (X.2.1, 512, .inl o)), (t2, .inr (4, [.ref h, .int (nI bk), .int (nI b), .int (nI (bl + 1)), .ref fa2, .ref oa2, .int e_nn, .int e_dd, .int e_mo])), (fa2, .inl (X.2.1, 6 * (bl + 1), .inl ffb)), (oa2, .inl (X.2.1, 512, .inl ob)), (ch, .inr (0, [.ref ck, .ref cv, .int (nI ((C ++ D).length))])), (ck, .inl (X.2.1, 60, .inl ck2)), (cv, .inl (X.2.1, 60, .inl cv2)), (rs, .inr (3, [.ref rk_, .ref rv, .ref rd, .int (nI R.length)])), (rk_, .inl (X.2.1, 150, .inl rkf)), (rv, .inl (X.2.1, 150, .inl rvf)), (rd, .inl (X.2.2, 150, .inr (.inl rdf))), (m, .inr (6, [.int (nI bl), .int (nI bk), .int (nI b), .int (nI (2 ^ b)), .ref mn, .ref xr, .ref yr, .ref vr, .ref cr, .ref wr, .int (nI C.length), .int (nI 0), .int f_ct, .ref wl, .ref wc, .int f_wt, .int f_lv, .int f_fi, .int f_en, .long f_cd, .ref rx, .ref ry, .ref mv, .ref fr, .int (nI R.length)])), (mn, .inl (X.2.1, 2, .inl mf)), (xr, .inl (X.2.1, 6600, .inl xf)), (yr, .inl (X.2.1, 6600, .inl yf)), (vr, .inl (X.2.1, 6600, .inl vf)), (cr, .inl (X.2.2, 6600, .inr (.inl cf))), (wr, .inl (X.2.1, 6600, .inl wf)), (wl, .inl (X.2.1, 80, .inl lf)), (wc, .inl (X.2.2, 80, .inr (.inl kf))), (rx, .inl (X.2.1, 150, .inl rxf)), (ry, .inl (X.2.1, 150, .inl ryf)), (mv, .inl (X.2.1, 150, .inl mvf)), (fr, .inl (X.2.2, 150, .inr (.inl frf)))] := hD
  try dsimp only at ha
  refine lv_aload_n hx hb dL_law_197 rfl (lv_at hl 2 rfl) ?_
  refine lv_aload_n hx hb dL_law_198 rfl (lv_at hl 0 rfl) ?_
  refine lv_iload_n hx hb dL_law_199 rfl (lv_at hl 3 rfl) ?_
  refine lv_iconst (v := nI 1) hx hb dL_law_200 (by decide) ?_
  refine lv_iadd hx hb dL_law_201 ?_
  refine lv_topi (fun x_6 ex_6 => ?_)
  obtain rfl : x_6 = nI (i + 1) := by
    rw [ex_6]
    exact nI_add _ _
  refine va_sld hx hb hXs hbl0 hbA hS (vp_in_nI (n := i + 1) (by omega) (by omega)) dL_law_202 ?_
  refine lv_topi (fun x_7 ex_7 => ?_)
  obtain rfl : x_7 = xs (i + 1) := by
    rw [ex_7]
    rw [nI_clamp (by omega)]
  refine lv_aload_n hx hb dL_law_203 rfl (lv_at hl 0 rfl) ?_
  refine lv_iload_n hx hb dL_law_204 rfl (lv_at hl 3 rfl) ?_
  refine lv_iconst (v := nI 2) hx hb dL_law_205 (by decide) ?_
  refine lv_iadd hx hb dL_law_206 ?_
  refine lv_topi (fun x_8 ex_8 => ?_)
  obtain rfl : x_8 = nI (i + 2) := by
    rw [ex_8]
    exact nI_add _ _
  refine va_sld hx hb hXs hbl0 hbA hS (vp_in_nI (n := i + 2) (by omega) (by omega)) dL_law_207 ?_
  refine lv_topi (fun x_9 ex_9 => ?_)
  obtain rfl : x_9 = xs (i + 2) := by
    rw [ex_9]
    rw [nI_clamp (by omega)]
  refine ckVi (As := [.int (xs (i + 1)), .int (xs (i + 2))]) (rest := [.int ra]) 0 [23, 24, 25, 26, 27, 28, 29] (c_X6_delete l X m bl bk b (2 ^ b) mn xr yr vr cr wr C.length wl wc rx ry mv fr f_ct f_wt f_lv f_fi f_en (nI R.length) f_cd (xs (i + 1)) (xs (i + 2)) mf xf yf vf wf cf P ZP Hm ZQ f_m0 f_m1 hb1 hsp rfl f_c.1) ⟨hx, hb, hml, hown, hts⟩ (cwV 2 hts gL_law_X6_delete rfl rfl rfl (by decide +kernel) ⟨Nat.le_of_ble_eq_true rfl, Nat.le_of_ble_eq_true rfl⟩) hK hN hP hD hS (by decide) rfl (ci := 6) rfl rfl (fun _ => rfl) rfl hl.1 rfl (Nat.le_of_ble_eq_true rfl) dL_law_208 ⟨lroom.1, lroom.2⟩ (fun rb u_10 H locs hb2 hP hD hS => ?_)
  obtain ⟨⟨mf2, xf2, yf2, vf3, wf2, cf2⟩, ⟨P3, ZP3, D3⟩⟩ := u_10
  have hP : va_P X.1 vwCl [(a, .inr (5, [.int (nI bl), .int (nI bk), .int (nI (2 ^ b)), .ref d, .ref p, .ref t, .ref t2, .ref ch, .ref rs, .int (nI 1), .int f_ct, .int (nI cp)])), (p, .inr (2, [.ref pk, .ref pv, .int (nI P2.length), .int (nI w2)])), (pk, .inl (X.2.1, 512, .inl kf2)), (pv, .inl (X.2.1, 512, .inl vf2)), (h, .inr (2, [.ref hk, .ref hv, .int (nI Hm.length), .int (nI wh)])), (hk, .inl (X.2.1, 512, .inl hkf)), (hv, .inl (X.2.1, 512, .inl hvf)), (d, .inr (1, [.ref h, .ref lk, .ref lv, .int (nI 0)])), (lk, .inl (X.2.1, 60, .inl lkf)), (lv, .inl (X.2.1, 60, .inl lvf)), (t, .inr (4, [.ref p, .int (nI bk), .int (nI b), .int (nI (bl + 1)), .ref fa, .ref oa, .int f_nn, .int f_dd, .int f_mo])), (fa, .inl (X.2.1, 6 * (bl + 1), .inl ff)), (oa, .inl (X.2.1, 512, .inl o)), (t2, .inr (4, [.ref h, .int (nI bk), .int (nI b), .int (nI (bl + 1)), .ref fa2, .ref oa2, .int e_nn, .int e_dd, .int e_mo])), (fa2, .inl (X.2.1, 6 * (bl + 1), .inl ffb)), (oa2, .inl (X.2.1, 512, .inl ob)), (ch, .inr (0, [.ref ck, .ref cv, .int (nI ((C ++ D).length))])), (ck, .inl (X.2.1, 60, .inl ck2)), (cv, .inl (X.2.1, 60, .inl cv2)), (rs, .inr (3, [.ref rk_, .ref rv, .ref rd, .int (nI R.length)])), (rk_, .inl (X.2.1, 150, .inl rkf)), (rv, .inl (X.2.1, 150, .inl rvf)), (rd, .inl (X.2.2, 150, .inr (.inl rdf))), (m, .inr (6, [.int (nI bl), .int (nI bk), .int (nI b), .int (nI (2 ^ b)), .ref mn, .ref xr, .ref yr, .ref vr, .ref cr, .ref wr, .int (nI (C.length + D3.length)), .int (nI 0), .int f_ct, .ref wl, .ref wc, .int f_wt, .int f_lv, .int f_fi, .int f_en, .long f_cd, .ref rx, .ref ry, .ref mv, .ref fr, .int (nI R.length)])), (mn, .inl (X.2.1, 2, .inl mf2)), (xr, .inl (X.2.1, 6600, .inl xf2)), (yr, .inl (X.2.1, 6600, .inl yf2)), (vr, .inl (X.2.1, 6600, .inl vf3)), (cr, .inl (X.2.2, 6600, .inr (.inl cf2))), (wr, .inl (X.2.1, 6600, .inl wf2)), (wl, .inl (X.2.1, 80, .inl lf)), (wc, .inl (X.2.2, 80, .inr (.inl kf))), (rx, .inl (X.2.1, 150, .inl rxf)), (ry, .inl (X.2.1, 150, .inl ryf)), (mv, .inl (X.2.1, 150, .inl mvf)), (fr, .inl (X.2.2, 150, .inr (.inl frf)))] H := hP
  have hD : va_D A_ [(a, .inr (5, [.int (nI bl), .int (nI bk), .int (nI (2 ^ b)), .ref d, .ref p, .ref t, .ref t2, .ref ch, .ref rs, .int (nI 1), .int f_ct, .int (nI cp)])), (p, .inr (2, [.ref pk, .ref pv, .int (nI P2.length), .int (nI w2)])), (pk, .inl (X.2.1, 512, .inl kf2)), (pv, .inl (X.2.1, 512, .inl vf2)), (h, .inr (2, [.ref hk, .ref hv, .int (nI Hm.length), .int (nI wh)])), (hk, .inl (X.2.1, 512, .inl hkf)), (hv, .inl (X.2.1, 512, .inl hvf)), (d, .inr (1, [.ref h, .ref lk, .ref lv, .int (nI 0)])), (lk, .inl (X.2.1, 60, .inl lkf)), (lv, .inl (X.2.1, 60, .inl lvf)), (t, .inr (4, [.ref p, .int (nI bk), .int (nI b), .int (nI (bl + 1)), .ref fa, .ref oa, .int f_nn, .int f_dd, .int f_mo])), (fa, .inl (X.2.1, 6 * (bl + 1), .inl ff)), (oa, .inl (X.2.1, 512, .inl o)), (t2, .inr (4, [.ref h, .int (nI bk), .int (nI b), .int (nI (bl + 1)), .ref fa2, .ref oa2, .int e_nn, .int e_dd, .int e_mo])), (fa2, .inl (X.2.1, 6 * (bl + 1), .inl ffb)), (oa2, .inl (X.2.1, 512, .inl ob)), (ch, .inr (0, [.ref ck, .ref cv, .int (nI ((C ++ D).length))])), (ck, .inl (X.2.1, 60, .inl ck2)), (cv, .inl (X.2.1, 60, .inl cv2)), (rs, .inr (3, [.ref rk_, .ref rv, .ref rd, .int (nI R.length)])), (rk_, .inl (X.2.1, 150, .inl rkf)), (rv, .inl (X.2.1, 150, .inl rvf)), (rd, .inl (X.2.2, 150, .inr (.inl rdf))), (m, .inr (6, [.int (nI bl), .int (nI bk), .int (nI b), .int (nI (2 ^ b)), .ref mn, .ref xr, .ref yr, .ref vr, .ref cr, .ref wr, .int (nI (C.length + D3.length)), .int (nI 0), .int f_ct, .ref wl, .ref wc, .int f_wt, .int f_lv, .int f_fi, .int f_en, .long f_cd, .ref rx, .ref ry, .ref mv, .ref fr, .int (nI R.length)])), (mn, .inl (X.2.1, 2, .inl mf2)), (xr, .inl (X.2.1, 6600, .inl xf2)), (yr, .inl (X.2.1, 6600, .inl yf2)), (vr, .inl (X.2.1, 6600, .inl vf3)), (cr, .inl (X.2.2, 6600, .inr (.inl cf2))), (wr, .inl (X.2.1, 6600, .inl wf2)), (wl, .inl (X.2.1, 80, .inl lf)), (wc, .inl (X.2.2, 80, .inr (.inl kf))), (rx, .inl (X.2.1, 150, .inl rxf)), (ry, .inl (X.2.1, 150, .inl ryf)), (mv, .inl (X.2.1, 150, .inl mvf)), (fr, .inl (X.2.2, 150, .inr (.inl frf)))] := hD
  try dsimp only at hb2
  have hE9 := ha.1.trans hb2.1.symm
  have hE : ra = rb := congrArg Prod.fst hE9
  have hE2 : P2 = P3 := congrArg (fun z => z.2.1) hE9
  have hE3 : D = D3 := congrArg (fun z => z.2.2) hE9
  rw [← hE2] at hb2
  rw [← hE3, ← List.length_append] at hP hD
  have hP : va_P X.1 vwCl [(a, .inr (5, [.int (nI bl), .int (nI bk), .int (nI (2 ^ b)), .ref d, .ref p, .ref t, .ref t2, .ref ch, .ref rs, .int (nI 1), .int f_ct, .int (nI cp)])), (p, .inr (2, [.ref pk, .ref pv, .int (nI P2.length), .int (nI w2)])), (pk, .inl (X.2.1, 512, .inl kf2)), (pv, .inl (X.2.1, 512, .inl vf2)), (h, .inr (2, [.ref hk, .ref hv, .int (nI Hm.length), .int (nI wh)])), (hk, .inl (X.2.1, 512, .inl hkf)), (hv, .inl (X.2.1, 512, .inl hvf)), (d, .inr (1, [.ref h, .ref lk, .ref lv, .int (nI 0)])), (lk, .inl (X.2.1, 60, .inl lkf)), (lv, .inl (X.2.1, 60, .inl lvf)), (t, .inr (4, [.ref p, .int (nI bk), .int (nI b), .int (nI (bl + 1)), .ref fa, .ref oa, .int f_nn, .int f_dd, .int f_mo])), (fa, .inl (X.2.1, 6 * (bl + 1), .inl ff)), (oa, .inl (X.2.1, 512, .inl o)), (t2, .inr (4, [.ref h, .int (nI bk), .int (nI b), .int (nI (bl + 1)), .ref fa2, .ref oa2, .int e_nn, .int e_dd, .int e_mo])), (fa2, .inl (X.2.1, 6 * (bl + 1), .inl ffb)), (oa2, .inl (X.2.1, 512, .inl ob)), (ch, .inr (0, [.ref ck, .ref cv, .int (nI ((C ++ D).length))])), (ck, .inl (X.2.1, 60, .inl ck2)), (cv, .inl (X.2.1, 60, .inl cv2)), (rs, .inr (3, [.ref rk_, .ref rv, .ref rd, .int (nI R.length)])), (rk_, .inl (X.2.1, 150, .inl rkf)), (rv, .inl (X.2.1, 150, .inl rvf)), (rd, .inl (X.2.2, 150, .inr (.inl rdf))), (m, .inr (6, [.int (nI bl), .int (nI bk), .int (nI b), .int (nI (2 ^ b)), .ref mn, .ref xr, .ref yr, .ref vr, .ref cr, .ref wr, .int (nI ((C ++ D).length)), .int (nI 0), .int f_ct, .ref wl, .ref wc, .int f_wt, .int f_lv, .int f_fi, .int f_en, .long f_cd, .ref rx, .ref ry, .ref mv, .ref fr, .int (nI R.length)])), (mn, .inl (X.2.1, 2, .inl mf2)), (xr, .inl (X.2.1, 6600, .inl xf2)), (yr, .inl (X.2.1, 6600, .inl yf2)), (vr, .inl (X.2.1, 6600, .inl vf3)), (cr, .inl (X.2.2, 6600, .inr (.inl cf2))), (wr, .inl (X.2.1, 6600, .inl wf2)), (wl, .inl (X.2.1, 80, .inl lf)), (wc, .inl (X.2.2, 80, .inr (.inl kf))), (rx, .inl (X.2.1, 150, .inl rxf)), (ry, .inl (X.2.1, 150, .inl ryf)), (mv, .inl (X.2.1, 150, .inl mvf)), (fr, .inl (X.2.2, 150, .inr (.inl frf)))] _ := hP
  have hD : va_D A_ [(a, .inr (5, [.int (nI bl), .int (nI bk), .int (nI (2 ^ b)), .ref d, .ref p, .ref t, .ref t2, .ref ch, .ref rs, .int (nI 1), .int f_ct, .int (nI cp)])), (p, .inr (2, [.ref pk, .ref pv, .int (nI P2.length), .int (nI w2)])), (pk, .inl (X.2.1, 512, .inl kf2)), (pv, .inl (X.2.1, 512, .inl vf2)), (h, .inr (2, [.ref hk, .ref hv, .int (nI Hm.length), .int (nI wh)])), (hk, .inl (X.2.1, 512, .inl hkf)), (hv, .inl (X.2.1, 512, .inl hvf)), (d, .inr (1, [.ref h, .ref lk, .ref lv, .int (nI 0)])), (lk, .inl (X.2.1, 60, .inl lkf)), (lv, .inl (X.2.1, 60, .inl lvf)), (t, .inr (4, [.ref p, .int (nI bk), .int (nI b), .int (nI (bl + 1)), .ref fa, .ref oa, .int f_nn, .int f_dd, .int f_mo])), (fa, .inl (X.2.1, 6 * (bl + 1), .inl ff)), (oa, .inl (X.2.1, 512, .inl o)), (t2, .inr (4, [.ref h, .int (nI bk), .int (nI b), .int (nI (bl + 1)), .ref fa2, .ref oa2, .int e_nn, .int e_dd, .int e_mo])), (fa2, .inl (X.2.1, 6 * (bl + 1), .inl ffb)), (oa2, .inl (X.2.1, 512, .inl ob)), (ch, .inr (0, [.ref ck, .ref cv, .int (nI ((C ++ D).length))])), (ck, .inl (X.2.1, 60, .inl ck2)), (cv, .inl (X.2.1, 60, .inl cv2)), (rs, .inr (3, [.ref rk_, .ref rv, .ref rd, .int (nI R.length)])), (rk_, .inl (X.2.1, 150, .inl rkf)), (rv, .inl (X.2.1, 150, .inl rvf)), (rd, .inl (X.2.2, 150, .inr (.inl rdf))), (m, .inr (6, [.int (nI bl), .int (nI bk), .int (nI b), .int (nI (2 ^ b)), .ref mn, .ref xr, .ref yr, .ref vr, .ref cr, .ref wr, .int (nI ((C ++ D).length)), .int (nI 0), .int f_ct, .ref wl, .ref wc, .int f_wt, .int f_lv, .int f_fi, .int f_en, .long f_cd, .ref rx, .ref ry, .ref mv, .ref fr, .int (nI R.length)])), (mn, .inl (X.2.1, 2, .inl mf2)), (xr, .inl (X.2.1, 6600, .inl xf2)), (yr, .inl (X.2.1, 6600, .inl yf2)), (vr, .inl (X.2.1, 6600, .inl vf3)), (cr, .inl (X.2.2, 6600, .inr (.inl cf2))), (wr, .inl (X.2.1, 6600, .inl wf2)), (wl, .inl (X.2.1, 80, .inl lf)), (wc, .inl (X.2.2, 80, .inr (.inl kf))), (rx, .inl (X.2.1, 150, .inl rxf)), (ry, .inl (X.2.1, 150, .inl ryf)), (mv, .inl (X.2.1, 150, .inl mvf)), (fr, .inl (X.2.2, 150, .inr (.inl frf)))] := hD
  obtain ⟨hq1, hq2, hq3, hq5⟩ := ha
  obtain ⟨ho1, ho2, hkq⟩ := del_of f_p.2.2.1 hq1 f_tr
  have hw9 : w2 ≤ w + 1 := by rcases hq3 with h9 | ⟨h9, -⟩ <;> omega
  have hq4 : tcOk bk b (bl + 1) P2 w2 f_nn f_dd f_mo ff := by
    rcases hq3 with h9 | ⟨h9, h8⟩
    · rw [h9]; exact tc_next f_t (by omega) (by omega)
    · rw [h9, h8]; exact f_t
  refine lv_icmp_eq (tgt := 649) hx hb dL_law_211 (by decide) (fun c_211 => ?_) (fun c_211 => ?_)
  · skip
    exact kk _ _ (Or.inl ⟨cp, w2, wh, f_ct, f_nn, f_dd, f_mo, e_nn, e_dd, e_mo, f_wt, f_lv, f_fi, f_en, f_cd, kf2, vf2, hkf, hvf, lkf, lvf, ff, o, ffb, ob, ck2, cv2, rkf, rvf, mf2, xf2, yf2, vf3, wf2, lf, rxf, ryf, mvf, rdf, cf2, kf, frf, P2, Hm, ZP3, ZQ, (C ++ D), R, K, ⟨f_cp, (by omega), (by omega), hq2, f_h, hq5, f_r, hq4, f_t2, hb2.2.1, hb2.2.2, f_mr, (by rw [apL_app, f_ap]; exact ho1), ho2, f_tr2, (by omega), f_kh, (oi_app f_kc (hkq K))⟩, hP, hD⟩) hS
  · skip
    exact absurd hE c_211
