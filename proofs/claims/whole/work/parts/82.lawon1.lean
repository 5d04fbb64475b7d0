/-! THE LAW, a call at a time: with power, what only answers (laid by wip/gen/spec_law.py) -/
set_option maxHeartbeats 4000000 in
set_option maxRecDepth 100000 in
theorem lw_on_arm {pz : Program} {l : Launch} {ez : Env} {sz : State} {mz : MethodId} {below : List Frame} {meth : Method} {cz : Code} {X : kX} {bb L : Nat} {xs : Nat → Int32} {A_ : Nat → Prop} {bl bk b n i a p pk pv h hk hv d lk lv t fa oa t2 fa2 oa2 ch ck cv rs rk_ rv rd m mn xr yr vr cr wr wl wc rx ry mv fr : Nat} {Q : State → Prop} {H : Heap} {locs : List Loc} {ls : Array Slot} (C0 : lwc pz sz mz cz X bb L xs A_) (hpar : lpar bl bk b) (hn : n < 512) (hi : i + 6 ≤ L) (hL : L ≤ 3075) (hI : LOn X A_ bl bk b n a p pk pv h hk hv d lk lv t fa oa t2 fa2 oa2 ch ck cv rs rk_ rv rd m mn xr yr vr cr wr wl wc rx ry mv fr H) (hS : va_S A_ sz.heap H locs) (hl : lv_has ls 4 [(0, .ref bb), (1, .ref a), (2, .ref m), (3, .int (nI i))]) (kk : ∀ (H1 : Heap) (locs1 : List Loc), LOn X A_ bl bk b (n + 1) a p pk pv h hk hv d lk lv t fa oa t2 fa2 oa2 ch ck cv rs rk_ rv rd m mn xr yr vr cr wr wl wc rx ry mv fr H1 ∨ LOff X A_ bl bk b (n + 1) a p pk pv h hk hv d lk lv t fa oa t2 fa2 oa2 ch ck cv rs rk_ rv rd m mn xr yr vr cr wr wl wc rx ry mv fr H1 → va_S A_ sz.heap H1 locs1 → W pz l ez room_1 sz mz #[Value.ref bb] below meth cz H1 locs1 600000 7302250 Q (F0 mz 649 ls [])) : W pz l ez room_1 sz mz #[Value.ref bb] below meth cz H locs 600000 7302250 Q (F0 mz 537 ls []) := by
  obtain ⟨hx, hb, hml, hown, hts, hXs, hbl0, hK, hN, hbA⟩ := C0
  obtain ⟨hbl1, hbl, hbk, hbk2, hb1⟩ := hpar
  have hsp := pw15 hb1
  refine LOn.use hI (fun cp w wh f_ct f_nn f_dd f_mo e_nn e_dd e_mo f_wt f_lv f_fi f_en f_cd pkf pvf hkf hvf lkf lvf ff o ffb ob ckf cvf rkf rvf mf xf yf vf wf lf rxf ryf mvf rdf cf kf frf P Hm ZP ZQ C R K f_cp f_w f_wh f_p f_h f_c f_r f_t f_t2 f_m0 f_m1 f_mr f_ap f_tr f_tr2 f_k f_kh f_kc hP hD => ?_)
  clear hI
  refine lv_aload_n hx hb dL_law_537 rfl (lv_at hl 1 rfl) ?_
  refine lv_aload_n hx hb dL_law_538 rfl (lv_at hl 0 rfl) ?_
  refine lv_iload_n hx hb dL_law_539 rfl (lv_at hl 3 rfl) ?_
  refine lv_iconst (v := nI 1) hx hb dL_law_540 (by decide) ?_
  refine lv_iadd hx hb dL_law_541 ?_
  refine lv_topi (fun x_1 ex_1 => ?_)
  obtain rfl : x_1 = nI (i + 1) := by
    rw [ex_1]
    exact nI_add _ _
  refine va_sld hx hb hXs hbl0 hbA hS (vp_in_nI (n := i + 1) (by omega) (by omega)) dL_law_542 ?_
  refine lv_topi (fun x_2 ex_2 => ?_)
  obtain rfl : x_2 = xs (i + 1) := by
    rw [ex_2]
    rw [nI_clamp (by omega)]
  refine lv_aload_n hx hb dL_law_543 rfl (lv_at hl 0 rfl) ?_
  refine lv_iload_n hx hb dL_law_544 rfl (lv_at hl 3 rfl) ?_
  refine lv_iconst (v := nI 2) hx hb dL_law_545 (by decide) ?_
  refine lv_iadd hx hb dL_law_546 ?_
  refine lv_topi (fun x_3 ex_3 => ?_)
  obtain rfl : x_3 = nI (i + 2) := by
    rw [ex_3]
    exact nI_add _ _
  refine va_sld hx hb hXs hbl0 hbA hS (vp_in_nI (n := i + 2) (by omega) (by omega)) dL_law_547 ?_
  refine lv_topi (fun x_4 ex_4 => ?_)
  obtain rfl : x_4 = xs (i + 2) := by
    rw [ex_4]
    rw [nI_clamp (by omega)]
  refine ckVi (As := [.int (xs (i + 1)), .int (xs (i + 2))]) (rest := []) 0 [0] (c_X5_arm l X a d p t t2 ch rs (2 ^ b) bl bk cp f_ct (nI 1) (xs (i + 1)) (xs (i + 2))) ⟨hx, hb, hml, hown, hts⟩ (cwV 2 hts gL_law_X5_arm rfl rfl rfl (by decide +kernel) ⟨Nat.le_of_ble_eq_true rfl, Nat.le_of_ble_eq_true rfl⟩) hK hN hP hD hS (by decide) rfl (ci := 5) rfl rfl (fun _ => rfl) rfl hl.1 rfl (Nat.le_of_ble_eq_true rfl) dL_law_548 ⟨lroom.1, lroom.2⟩ (fun ra u_5 H locs ha hP hD hS => ?_)
  obtain ⟨ct2, cp2⟩ := u_5
  have hP : va_P X.1 vwCl [(a, .inr (5, [.int (nI bl), .int (nI bk), .int (nI (2 ^ b)), .ref d, .ref p, .ref t, .ref t2, .ref ch, .ref rs, .int (nI 1), .int ct2, .int (nI cp2)])), (p, .inr (2, [.ref pk, .ref pv, .int (nI P.length), .int (nI w)])), (pk, .inl (X.2.1, 512, .inl pkf)), (pv, .inl (X.2.1, 512, .inl pvf)), (h, .inr (2, [.ref hk, .ref hv, .int (nI Hm.length), .int (nI wh)])), (hk, .inl (X.2.1, 512, .inl hkf)), (hv, .inl (X.2.1, 512, .inl hvf)), (d, .inr (1, [.ref h, .ref lk, .ref lv, .int (nI 0)])), (lk, .inl (X.2.1, 60, .inl lkf)), (lv, .inl (X.2.1, 60, .inl lvf)), (t, .inr (4, [.ref p, .int (nI bk), .int (nI b), .int (nI (bl + 1)), .ref fa, .ref oa, .int f_nn, .int f_dd, .int f_mo])), (fa, .inl (X.2.1, 6 * (bl + 1), .inl ff)), (oa, .inl (X.2.1, 512, .inl o)), (t2, .inr (4, [.ref h, .int (nI bk), .int (nI b), .int (nI (bl + 1)), .ref fa2, .ref oa2, .int e_nn, .int e_dd, .int e_mo])), (fa2, .inl (X.2.1, 6 * (bl + 1), .inl ffb)), (oa2, .inl (X.2.1, 512, .inl ob)), (ch, .inr (0, [.ref ck, .ref cv, .int (nI C.length)])), (ck, .inl (X.2.1, 60, .inl ckf)), (cv, .inl (X.2.1, 60, .inl cvf)), (rs, .inr (3, [.ref rk_, .ref rv, .ref rd, .int (nI R.length)])), (rk_, .inl (X.2.1, 150, .inl rkf)), (rv, .inl (X.2.1, 150, .inl rvf)), (rd, .inl (X.2.2, 150, .inr (.inl rdf))), (m, .inr (6, [.int (nI bl), .int (nI bk), .int (nI b), .int (nI (2 ^ b)), .ref mn, .ref xr, .ref yr, .ref vr, .ref cr, .ref wr, .int (nI C.length), .int (nI 0), .int f_ct, .ref wl, .ref wc, .int f_wt, .int f_lv, .int f_fi, .int f_en, .long f_cd, .ref rx, .ref ry, .ref mv, .ref fr, .int (nI R.length)])), (mn, .inl (X.2.1, 2, .inl mf)), (xr, .inl (X.2.1, 6600, .inl xf)), (yr, .inl (X.2.1, 6600, .inl yf)), (vr, .inl (X.2.1, 6600, .inl vf)), (cr, .inl (X.2.2, 6600, .inr (.inl cf))), (wr, .inl (X.2.1, 6600, .inl wf)), (wl, .inl (X.2.1, 80, .inl lf)), (wc, .inl (X.2.2, 80, .inr (.inl kf))), (rx, .inl (X.2.1, 150, .inl rxf)), (ry, .inl (X.2.1, 150, .inl ryf)), (mv, .inl (X.2.1, 150, .inl mvf)), (fr, .inl (X.2.2, 150, .inr (.inl frf)))] H := hP
  have hD : va_D A_ [(a, .inr (5, [.int (nI bl), .int (nI bk), .int (nI (2 ^ b)), .ref d, .ref p, .ref t, .ref t2, .ref ch, .ref rs, .int (nI 1), .int ct2, .int (nI cp2)])), (p, .inr (2, [.ref pk, .ref pv, .int (nI P.length), .int (nI w)])), (pk, .inl (X.2.1, 512, .inl pkf)), (pv, .inl (X.2.1, 512, .inl pvf)), (h, .inr (2, [.ref hk, .ref hv, .int (nI Hm.length), .int (nI wh)])), (hk, .inl (X.2.1, 512, .inl hkf)), (hv, .inl (X.2.1, 512, .inl hvf)), (d, .inr (1, [.ref h, .ref lk, .ref lv, .int (nI 0)])), (lk, .inl (X.2.1, 60, .inl lkf)), (lv, .inl (X.2.1, 60, .inl lvf)), (t, .inr (4, [.ref p, .int (nI bk), .int (nI b), .int (nI (bl + 1)), .ref fa, .ref oa, .int f_nn, .int f_dd, .int f_mo])), (fa, .inl (X.2.1, 6 * (bl + 1), .inl ff)), (oa, .inl (X.2.1, 512, .inl o)), (t2, .inr (4, [.ref h, .int (nI bk), .int (nI b), .int (nI (bl + 1)), .ref fa2, .ref oa2, .int e_nn, .int e_dd, .int e_mo])), (fa2, .inl (X.2.1, 6 * (bl + 1), .inl ffb)), (oa2, .inl (X.2.1, 512, .inl ob)), (ch, .inr (0, [.ref ck, .ref cv, .int (nI C.length)])), (ck, .inl (X.2.1, 60, .inl ckf)), (cv, .inl (X.2.1, 60, .inl cvf)), (rs, .inr (3, [.ref rk_, .ref rv, .ref rd, .int (nI R.length)])), (rk_, .inl (X.2.1, 150, .inl rkf)), (rv, .inl (X.2.1, 150, .inl rvf)), (rd, .inl (X.2.2, 150, .inr (.inl rdf))), (m, .inr (6, [.int (nI bl), .int (nI bk), .int (nI b), .int (nI (2 ^ b)), .ref mn, .ref xr, .ref yr, .ref vr, .ref cr, .ref wr, .int (nI C.length), .int (nI 0), .int f_ct, .ref wl, .ref wc, .int f_wt, .int f_lv, .int f_fi, .int f_en, .long f_cd, .ref rx, .ref ry, .ref mv, .ref fr, .int (nI R.length)])), (mn, .inl (X.2.1, 2, .inl mf)), (xr, .inl (X.2.1, 6600, .inl xf)), (yr, .inl (X.2.1, 6600, .inl yf)), (vr, .inl (X.2.1, 6600, .inl vf)), (cr, .inl (X.2.2, 6600, .inr (.inl cf))), (wr, .inl (X.2.1, 6600, .inl wf)), (wl, .inl (X.2.1, 80, .inl lf)), (wc, .inl (X.2.2, 80, .inr (.inl kf))), (rx, .inl (X.2.1, 150, .inl rxf)), (ry, .inl (X.2.1, 150, .inl ryf)), (mv, .inl (X.2.1, 150, .inl mvf)), (fr, .inl (X.2.2, 150, .inr (.inl frf)))] := hD
  try dsimp only at ha
  refine lv_aload_n hx hb dL_law_551 rfl (lv_at hl 2 rfl) ?_
  refine lv_aload_n hx hb dL_law_552 rfl (lv_at hl 0 rfl) ?_
  refine lv_iload_n hx hb dL_law_553 rfl (lv_at hl 3 rfl) ?_
  refine lv_iconst (v := nI 1) hx hb dL_law_554 (by decide) ?_
  refine lv_iadd hx hb dL_law_555 ?_
  refine lv_topi (fun x_6 ex_6 => ?_)
  obtain rfl : x_6 = nI (i + 1) := by
    rw [ex_6]
    exact nI_add _ _
  refine va_sld hx hb hXs hbl0 hbA hS (vp_in_nI (n := i + 1) (by omega) (by omega)) dL_law_556 ?_
  refine lv_topi (fun x_7 ex_7 => ?_)
  obtain rfl : x_7 = xs (i + 1) := by
    rw [ex_7]
    rw [nI_clamp (by omega)]
  refine lv_aload_n hx hb dL_law_557 rfl (lv_at hl 0 rfl) ?_
  refine lv_iload_n hx hb dL_law_558 rfl (lv_at hl 3 rfl) ?_
  refine lv_iconst (v := nI 2) hx hb dL_law_559 (by decide) ?_
  refine lv_iadd hx hb dL_law_560 ?_
  refine lv_topi (fun x_8 ex_8 => ?_)
  obtain rfl : x_8 = nI (i + 2) := by
    rw [ex_8]
    exact nI_add _ _
  refine va_sld hx hb hXs hbl0 hbA hS (vp_in_nI (n := i + 2) (by omega) (by omega)) dL_law_561 ?_
  refine lv_topi (fun x_9 ex_9 => ?_)
  obtain rfl : x_9 = xs (i + 2) := by
    rw [ex_9]
    rw [nI_clamp (by omega)]
  refine ckVi (As := [.int (xs (i + 1)), .int (xs (i + 2))]) (rest := [.int ra]) 0 [23] (c_X6_arm l X m bl bk b (2 ^ b) mn xr yr vr cr wr C.length wl wc rx ry mv fr (nI 0) f_ct f_wt f_lv f_fi f_en (nI R.length) f_cd cp (xs (i + 1)) (xs (i + 2))) ⟨hx, hb, hml, hown, hts⟩ (cwV 2 hts gL_law_X6_arm rfl rfl rfl (by decide +kernel) ⟨Nat.le_of_ble_eq_true rfl, Nat.le_of_ble_eq_true rfl⟩) hK hN hP hD hS (by decide) rfl (ci := 6) rfl rfl (fun _ => rfl) rfl hl.1 rfl (Nat.le_of_ble_eq_true rfl) dL_law_562 ⟨lroom.1, lroom.2⟩ (fun rb u_10 H locs hb2 hP hD hS => ?_)
  obtain ⟨ar2, rfl⟩ := (⟨_, rfl⟩ : ∃ z, z = u_10)
  have hP : va_P X.1 vwCl [(a, .inr (5, [.int (nI bl), .int (nI bk), .int (nI (2 ^ b)), .ref d, .ref p, .ref t, .ref t2, .ref ch, .ref rs, .int (nI 1), .int ct2, .int (nI cp2)])), (p, .inr (2, [.ref pk, .ref pv, .int (nI P.length), .int (nI w)])), (pk, .inl (X.2.1, 512, .inl pkf)), (pv, .inl (X.2.1, 512, .inl pvf)), (h, .inr (2, [.ref hk, .ref hv, .int (nI Hm.length), .int (nI wh)])), (hk, .inl (X.2.1, 512, .inl hkf)), (hv, .inl (X.2.1, 512, .inl hvf)), (d, .inr (1, [.ref h, .ref lk, .ref lv, .int (nI 0)])), (lk, .inl (X.2.1, 60, .inl lkf)), (lv, .inl (X.2.1, 60, .inl lvf)), (t, .inr (4, [.ref p, .int (nI bk), .int (nI b), .int (nI (bl + 1)), .ref fa, .ref oa, .int f_nn, .int f_dd, .int f_mo])), (fa, .inl (X.2.1, 6 * (bl + 1), .inl ff)), (oa, .inl (X.2.1, 512, .inl o)), (t2, .inr (4, [.ref h, .int (nI bk), .int (nI b), .int (nI (bl + 1)), .ref fa2, .ref oa2, .int e_nn, .int e_dd, .int e_mo])), (fa2, .inl (X.2.1, 6 * (bl + 1), .inl ffb)), (oa2, .inl (X.2.1, 512, .inl ob)), (ch, .inr (0, [.ref ck, .ref cv, .int (nI C.length)])), (ck, .inl (X.2.1, 60, .inl ckf)), (cv, .inl (X.2.1, 60, .inl cvf)), (rs, .inr (3, [.ref rk_, .ref rv, .ref rd, .int (nI R.length)])), (rk_, .inl (X.2.1, 150, .inl rkf)), (rv, .inl (X.2.1, 150, .inl rvf)), (rd, .inl (X.2.2, 150, .inr (.inl rdf))), (m, .inr (6, [.int (nI bl), .int (nI bk), .int (nI b), .int (nI (2 ^ b)), .ref mn, .ref xr, .ref yr, .ref vr, .ref cr, .ref wr, .int (nI C.length), .int (nI 0), .int ar2, .ref wl, .ref wc, .int f_wt, .int f_lv, .int f_fi, .int f_en, .long f_cd, .ref rx, .ref ry, .ref mv, .ref fr, .int (nI R.length)])), (mn, .inl (X.2.1, 2, .inl mf)), (xr, .inl (X.2.1, 6600, .inl xf)), (yr, .inl (X.2.1, 6600, .inl yf)), (vr, .inl (X.2.1, 6600, .inl vf)), (cr, .inl (X.2.2, 6600, .inr (.inl cf))), (wr, .inl (X.2.1, 6600, .inl wf)), (wl, .inl (X.2.1, 80, .inl lf)), (wc, .inl (X.2.2, 80, .inr (.inl kf))), (rx, .inl (X.2.1, 150, .inl rxf)), (ry, .inl (X.2.1, 150, .inl ryf)), (mv, .inl (X.2.1, 150, .inl mvf)), (fr, .inl (X.2.2, 150, .inr (.inl frf)))] H := hP
  have hD : va_D A_ [(a, .inr (5, [.int (nI bl), .int (nI bk), .int (nI (2 ^ b)), .ref d, .ref p, .ref t, .ref t2, .ref ch, .ref rs, .int (nI 1), .int ct2, .int (nI cp2)])), (p, .inr (2, [.ref pk, .ref pv, .int (nI P.length), .int (nI w)])), (pk, .inl (X.2.1, 512, .inl pkf)), (pv, .inl (X.2.1, 512, .inl pvf)), (h, .inr (2, [.ref hk, .ref hv, .int (nI Hm.length), .int (nI wh)])), (hk, .inl (X.2.1, 512, .inl hkf)), (hv, .inl (X.2.1, 512, .inl hvf)), (d, .inr (1, [.ref h, .ref lk, .ref lv, .int (nI 0)])), (lk, .inl (X.2.1, 60, .inl lkf)), (lv, .inl (X.2.1, 60, .inl lvf)), (t, .inr (4, [.ref p, .int (nI bk), .int (nI b), .int (nI (bl + 1)), .ref fa, .ref oa, .int f_nn, .int f_dd, .int f_mo])), (fa, .inl (X.2.1, 6 * (bl + 1), .inl ff)), (oa, .inl (X.2.1, 512, .inl o)), (t2, .inr (4, [.ref h, .int (nI bk), .int (nI b), .int (nI (bl + 1)), .ref fa2, .ref oa2, .int e_nn, .int e_dd, .int e_mo])), (fa2, .inl (X.2.1, 6 * (bl + 1), .inl ffb)), (oa2, .inl (X.2.1, 512, .inl ob)), (ch, .inr (0, [.ref ck, .ref cv, .int (nI C.length)])), (ck, .inl (X.2.1, 60, .inl ckf)), (cv, .inl (X.2.1, 60, .inl cvf)), (rs, .inr (3, [.ref rk_, .ref rv, .ref rd, .int (nI R.length)])), (rk_, .inl (X.2.1, 150, .inl rkf)), (rv, .inl (X.2.1, 150, .inl rvf)), (rd, .inl (X.2.2, 150, .inr (.inl rdf))), (m, .inr (6, [.int (nI bl), .int (nI bk), .int (nI b), .int (nI (2 ^ b)), .ref mn, .ref xr, .ref yr, .ref vr, .ref cr, .ref wr, .int (nI C.length), .int (nI 0), .int ar2, .ref wl, .ref wc, .int f_wt, .int f_lv, .int f_fi, .int f_en, .long f_cd, .ref rx, .ref ry, .ref mv, .ref fr, .int (nI R.length)])), (mn, .inl (X.2.1, 2, .inl mf)), (xr, .inl (X.2.1, 6600, .inl xf)), (yr, .inl (X.2.1, 6600, .inl yf)), (vr, .inl (X.2.1, 6600, .inl vf)), (cr, .inl (X.2.2, 6600, .inr (.inl cf))), (wr, .inl (X.2.1, 6600, .inl wf)), (wl, .inl (X.2.1, 80, .inl lf)), (wc, .inl (X.2.2, 80, .inr (.inl kf))), (rx, .inl (X.2.1, 150, .inl rxf)), (ry, .inl (X.2.1, 150, .inl ryf)), (mv, .inl (X.2.1, 150, .inl mvf)), (fr, .inl (X.2.2, 150, .inr (.inl frf)))] := hD
  try dsimp only at hb2
  obtain ⟨c3, hb2⟩ := hb2
  have hE9 := ha.trans hb2.symm
  have hE : ra = rb := congrArg Prod.fst hE9
  have hE2 : ct2 = ar2 := congrArg (fun z => z.2.1) hE9
  subst hE2
  refine lv_icmp_eq (tgt := 649) hx hb dL_law_565 (by decide) (fun c_565 => ?_) (fun c_565 => ?_)
  · skip
    exact kk _ _ (Or.inl ⟨cp2, w, wh, ct2, f_nn, f_dd, f_mo, e_nn, e_dd, e_mo, f_wt, f_lv, f_fi, f_en, f_cd, pkf, pvf, hkf, hvf, lkf, lvf, ff, o, ffb, ob, ckf, cvf, rkf, rvf, mf, xf, yf, vf, wf, lf, rxf, ryf, mvf, rdf, cf, kf, frf, P, Hm, ZP, ZQ, C, R, K, ⟨(arm_of ha f_cp), (by omega), (by omega), f_p, f_h, f_c, f_r, f_t, f_t2, f_m0, f_m1, f_mr, f_ap, f_tr, f_tr2, (by omega), f_kh, f_kc⟩, hP, hD⟩) hS
  · skip
    exact absurd hE c_565
set_option maxHeartbeats 4000000 in
set_option maxRecDepth 100000 in
theorem lw_on_get {pz : Program} {l : Launch} {ez : Env} {sz : State} {mz : MethodId} {below : List Frame} {meth : Method} {cz : Code} {X : kX} {bb L : Nat} {xs : Nat → Int32} {A_ : Nat → Prop} {bl bk b n i a p pk pv h hk hv d lk lv t fa oa t2 fa2 oa2 ch ck cv rs rk_ rv rd m mn xr yr vr cr wr wl wc rx ry mv fr : Nat} {Q : State → Prop} {H : Heap} {locs : List Loc} {ls : Array Slot} (C0 : lwc pz sz mz cz X bb L xs A_) (hpar : lpar bl bk b) (hn : n < 512) (hi : i + 6 ≤ L) (hL : L ≤ 3075) (hI : LOn X A_ bl bk b n a p pk pv h hk hv d lk lv t fa oa t2 fa2 oa2 ch ck cv rs rk_ rv rd m mn xr yr vr cr wr wl wc rx ry mv fr H) (hS : va_S A_ sz.heap H locs) (hl : lv_has ls 4 [(0, .ref bb), (1, .ref a), (2, .ref m), (3, .int (nI i))]) (kk : ∀ (H1 : Heap) (locs1 : List Loc), LOn X A_ bl bk b (n + 1) a p pk pv h hk hv d lk lv t fa oa t2 fa2 oa2 ch ck cv rs rk_ rv rd m mn xr yr vr cr wr wl wc rx ry mv fr H1 ∨ LOff X A_ bl bk b (n + 1) a p pk pv h hk hv d lk lv t fa oa t2 fa2 oa2 ch ck cv rs rk_ rv rd m mn xr yr vr cr wr wl wc rx ry mv fr H1 → va_S A_ sz.heap H1 locs1 → W pz l ez room_1 sz mz #[Value.ref bb] below meth cz H1 locs1 600000 7302250 Q (F0 mz 649 ls [])) : W pz l ez room_1 sz mz #[Value.ref bb] below meth cz H locs 600000 7302250 Q (F0 mz 216 ls []) := by
  obtain ⟨hx, hb, hml, hown, hts, hXs, hbl0, hK, hN, hbA⟩ := C0
  obtain ⟨hbl1, hbl, hbk, hbk2, hb1⟩ := hpar
  have hsp := pw15 hb1
  refine LOn.use hI (fun cp w wh f_ct f_nn f_dd f_mo e_nn e_dd e_mo f_wt f_lv f_fi f_en f_cd pkf pvf hkf hvf lkf lvf ff o ffb ob ckf cvf rkf rvf mf xf yf vf wf lf rxf ryf mvf rdf cf kf frf P Hm ZP ZQ C R K f_cp f_w f_wh f_p f_h f_c f_r f_t f_t2 f_m0 f_m1 f_mr f_ap f_tr f_tr2 f_k f_kh f_kc hP hD => ?_)
  clear hI
  refine lv_aload_n hx hb dL_law_216 rfl (lv_at hl 1 rfl) ?_
  refine lv_aload_n hx hb dL_law_217 rfl (lv_at hl 0 rfl) ?_
  refine lv_iload_n hx hb dL_law_218 rfl (lv_at hl 3 rfl) ?_
  refine lv_iconst (v := nI 1) hx hb dL_law_219 (by decide) ?_
  refine lv_iadd hx hb dL_law_220 ?_
  refine lv_topi (fun x_1 ex_1 => ?_)
  obtain rfl : x_1 = nI (i + 1) := by
    rw [ex_1]
    exact nI_add _ _
  refine va_sld hx hb hXs hbl0 hbA hS (vp_in_nI (n := i + 1) (by omega) (by omega)) dL_law_221 ?_
  refine lv_topi (fun x_2 ex_2 => ?_)
  obtain rfl : x_2 = xs (i + 1) := by
    rw [ex_2]
    rw [nI_clamp (by omega)]
  refine lv_aload_n hx hb dL_law_222 rfl (lv_at hl 0 rfl) ?_
  refine lv_iload_n hx hb dL_law_223 rfl (lv_at hl 3 rfl) ?_
  refine lv_iconst (v := nI 2) hx hb dL_law_224 (by decide) ?_
  refine lv_iadd hx hb dL_law_225 ?_
  refine lv_topi (fun x_3 ex_3 => ?_)
  obtain rfl : x_3 = nI (i + 2) := by
    rw [ex_3]
    exact nI_add _ _
  refine va_sld hx hb hXs hbl0 hbA hS (vp_in_nI (n := i + 2) (by omega) (by omega)) dL_law_226 ?_
  refine lv_topi (fun x_4 ex_4 => ?_)
  obtain rfl : x_4 = xs (i + 2) := by
    rw [ex_4]
    rw [nI_clamp (by omega)]
  refine lv_aload_n hx hb dL_law_227 rfl (lv_at hl 0 rfl) ?_
  refine lv_iload_n hx hb dL_law_228 rfl (lv_at hl 3 rfl) ?_
  refine lv_iconst (v := nI 3) hx hb dL_law_229 (by decide) ?_
  refine lv_iadd hx hb dL_law_230 ?_
  refine lv_topi (fun x_5 ex_5 => ?_)
  obtain rfl : x_5 = nI (i + 3) := by
    rw [ex_5]
    exact nI_add _ _
  refine va_sld hx hb hXs hbl0 hbA hS (vp_in_nI (n := i + 3) (by omega) (by omega)) dL_law_231 ?_
  refine lv_topi (fun x_6 ex_6 => ?_)
  obtain rfl : x_6 = xs (i + 3) := by
    rw [ex_6]
    rw [nI_clamp (by omega)]
  refine ckVRi (As := [.int (xs (i + 1)), .int (xs (i + 2)), .int (xs (i + 3))]) (rest := []) 0 [0, 7, 1, 2, 3, 4, 5, 6] (c_X5_get l X a d p t t2 ch rs (2 ^ b) bl bk cp f_ct h lk lv 0 pk pv w hk hv wh (xs (i + 1)) (xs (i + 2)) (xs (i + 3)) pkf pvf hkf hvf P Hm f_p f_h hsp) ⟨hx, hb, hml, hown, hts⟩ (cwV 3 hts gL_law_X5_get rfl rfl rfl (by decide +kernel) ⟨Nat.le_of_ble_eq_true rfl, Nat.le_of_ble_eq_true rfl⟩) hK hN hP hD (by decide) rfl (ci := 5) rfl rfl rfl hl.1 rfl (Nat.le_of_ble_eq_true rfl) dL_law_232 ⟨lroom.1, lroom.2⟩ (fun ra ha => ?_)
  refine lv_aload_n hx hb dL_law_235 rfl (lv_at hl 2 rfl) ?_
  refine lv_aload_n hx hb dL_law_236 rfl (lv_at hl 0 rfl) ?_
  refine lv_iload_n hx hb dL_law_237 rfl (lv_at hl 3 rfl) ?_
  refine lv_iconst (v := nI 1) hx hb dL_law_238 (by decide) ?_
  refine lv_iadd hx hb dL_law_239 ?_
  refine lv_topi (fun x_7 ex_7 => ?_)
  obtain rfl : x_7 = nI (i + 1) := by
    rw [ex_7]
    exact nI_add _ _
  refine va_sld hx hb hXs hbl0 hbA hS (vp_in_nI (n := i + 1) (by omega) (by omega)) dL_law_240 ?_
  refine lv_topi (fun x_8 ex_8 => ?_)
  obtain rfl : x_8 = xs (i + 1) := by
    rw [ex_8]
    rw [nI_clamp (by omega)]
  refine lv_aload_n hx hb dL_law_241 rfl (lv_at hl 0 rfl) ?_
  refine lv_iload_n hx hb dL_law_242 rfl (lv_at hl 3 rfl) ?_
  refine lv_iconst (v := nI 2) hx hb dL_law_243 (by decide) ?_
  refine lv_iadd hx hb dL_law_244 ?_
  refine lv_topi (fun x_9 ex_9 => ?_)
  obtain rfl : x_9 = nI (i + 2) := by
    rw [ex_9]
    exact nI_add _ _
  refine va_sld hx hb hXs hbl0 hbA hS (vp_in_nI (n := i + 2) (by omega) (by omega)) dL_law_245 ?_
  refine lv_topi (fun x_10 ex_10 => ?_)
  obtain rfl : x_10 = xs (i + 2) := by
    rw [ex_10]
    rw [nI_clamp (by omega)]
  refine lv_aload_n hx hb dL_law_246 rfl (lv_at hl 0 rfl) ?_
  refine lv_iload_n hx hb dL_law_247 rfl (lv_at hl 3 rfl) ?_
  refine lv_iconst (v := nI 3) hx hb dL_law_248 (by decide) ?_
  refine lv_iadd hx hb dL_law_249 ?_
  refine lv_topi (fun x_11 ex_11 => ?_)
  obtain rfl : x_11 = nI (i + 3) := by
    rw [ex_11]
    exact nI_add _ _
  refine va_sld hx hb hXs hbl0 hbA hS (vp_in_nI (n := i + 3) (by omega) (by omega)) dL_law_250 ?_
  refine lv_topi (fun x_12 ex_12 => ?_)
  obtain rfl : x_12 = xs (i + 3) := by
    rw [ex_12]
    rw [nI_clamp (by omega)]
  refine ckVRi (As := [.int (xs (i + 1)), .int (xs (i + 2)), .int (xs (i + 3))]) (rest := [.int ra]) 0 [23, 24, 25, 26, 27] (c_X6_get l X m bl bk b (2 ^ b) mn xr yr vr cr wr C.length wl wc rx ry mv fr f_ct f_wt f_lv f_fi f_en (nI R.length) f_cd (xs (i + 1)) (xs (i + 2)) (xs (i + 3)) mf xf yf vf wf cf P ZP Hm ZQ f_m0 f_m1 hb1 hsp rfl) ⟨hx, hb, hml, hown, hts⟩ (cwV 3 hts gL_law_X6_get rfl rfl rfl (by decide +kernel) ⟨Nat.le_of_ble_eq_true rfl, Nat.le_of_ble_eq_true rfl⟩) hK hN hP hD (by decide) rfl (ci := 6) rfl rfl rfl hl.1 rfl (Nat.le_of_ble_eq_true rfl) dL_law_251 ⟨lroom.1, lroom.2⟩ (fun rb hb2 => ?_)
  have hE : ra = rb := ha.trans hb2.symm
  refine lv_icmp_eq (tgt := 649) hx hb dL_law_254 (by decide) (fun c_254 => ?_) (fun c_254 => ?_)
  · skip
    exact kk _ _ (Or.inl ⟨cp, w, wh, f_ct, f_nn, f_dd, f_mo, e_nn, e_dd, e_mo, f_wt, f_lv, f_fi, f_en, f_cd, pkf, pvf, hkf, hvf, lkf, lvf, ff, o, ffb, ob, ckf, cvf, rkf, rvf, mf, xf, yf, vf, wf, lf, rxf, ryf, mvf, rdf, cf, kf, frf, P, Hm, ZP, ZQ, C, R, K, ⟨f_cp, (by omega), (by omega), f_p, f_h, f_c, f_r, f_t, f_t2, f_m0, f_m1, f_mr, f_ap, f_tr, f_tr2, (by omega), f_kh, f_kc⟩, hP, hD⟩) hS
  · skip
    exact absurd hE c_254
set_option maxHeartbeats 4000000 in
set_option maxRecDepth 100000 in
theorem lw_on_sum {pz : Program} {l : Launch} {ez : Env} {sz : State} {mz : MethodId} {below : List Frame} {meth : Method} {cz : Code} {X : kX} {bb L : Nat} {xs : Nat → Int32} {A_ : Nat → Prop} {bl bk b n i a p pk pv h hk hv d lk lv t fa oa t2 fa2 oa2 ch ck cv rs rk_ rv rd m mn xr yr vr cr wr wl wc rx ry mv fr : Nat} {Q : State → Prop} {H : Heap} {locs : List Loc} {ls : Array Slot} (C0 : lwc pz sz mz cz X bb L xs A_) (hpar : lpar bl bk b) (hn : n < 512) (hi : i + 6 ≤ L) (hL : L ≤ 3075) (hI : LOn X A_ bl bk b n a p pk pv h hk hv d lk lv t fa oa t2 fa2 oa2 ch ck cv rs rk_ rv rd m mn xr yr vr cr wr wl wc rx ry mv fr H) (hS : va_S A_ sz.heap H locs) (hl : lv_has ls 4 [(0, .ref bb), (1, .ref a), (2, .ref m), (3, .int (nI i))]) (kk : ∀ (H1 : Heap) (locs1 : List Loc), LOn X A_ bl bk b (n + 1) a p pk pv h hk hv d lk lv t fa oa t2 fa2 oa2 ch ck cv rs rk_ rv rd m mn xr yr vr cr wr wl wc rx ry mv fr H1 ∨ LOff X A_ bl bk b (n + 1) a p pk pv h hk hv d lk lv t fa oa t2 fa2 oa2 ch ck cv rs rk_ rv rd m mn xr yr vr cr wr wl wc rx ry mv fr H1 → va_S A_ sz.heap H1 locs1 → W pz l ez room_1 sz mz #[Value.ref bb] below meth cz H1 locs1 600000 7302250 Q (F0 mz 649 ls [])) : W pz l ez room_1 sz mz #[Value.ref bb] below meth cz H locs 600000 7302250 Q (F0 mz 434 ls []) := by
  obtain ⟨hx, hb, hml, hown, hts, hXs, hbl0, hK, hN, hbA⟩ := C0
  obtain ⟨hbl1, hbl, hbk, hbk2, hb1⟩ := hpar
  have hsp := pw15 hb1
  refine LOn.use hI (fun cp w wh f_ct f_nn f_dd f_mo e_nn e_dd e_mo f_wt f_lv f_fi f_en f_cd pkf pvf hkf hvf lkf lvf ff o ffb ob ckf cvf rkf rvf mf xf yf vf wf lf rxf ryf mvf rdf cf kf frf P Hm ZP ZQ C R K f_cp f_w f_wh f_p f_h f_c f_r f_t f_t2 f_m0 f_m1 f_mr f_ap f_tr f_tr2 f_k f_kh f_kc hP hD => ?_)
  clear hI
  refine lv_aload_n hx hb dL_law_434 rfl (lv_at hl 1 rfl) ?_
  refine lv_aload_n hx hb dL_law_435 rfl (lv_at hl 0 rfl) ?_
  refine lv_iload_n hx hb dL_law_436 rfl (lv_at hl 3 rfl) ?_
  refine lv_iconst (v := nI 1) hx hb dL_law_437 (by decide) ?_
  refine lv_iadd hx hb dL_law_438 ?_
  refine lv_topi (fun x_1 ex_1 => ?_)
  obtain rfl : x_1 = nI (i + 1) := by
    rw [ex_1]
    exact nI_add _ _
  refine va_sld hx hb hXs hbl0 hbA hS (vp_in_nI (n := i + 1) (by omega) (by omega)) dL_law_439 ?_
  refine lv_topi (fun x_2 ex_2 => ?_)
  obtain rfl : x_2 = xs (i + 1) := by
    rw [ex_2]
    rw [nI_clamp (by omega)]
  refine lv_aload_n hx hb dL_law_440 rfl (lv_at hl 0 rfl) ?_
  refine lv_iload_n hx hb dL_law_441 rfl (lv_at hl 3 rfl) ?_
  refine lv_iconst (v := nI 2) hx hb dL_law_442 (by decide) ?_
  refine lv_iadd hx hb dL_law_443 ?_
  refine lv_topi (fun x_3 ex_3 => ?_)
  obtain rfl : x_3 = nI (i + 2) := by
    rw [ex_3]
    exact nI_add _ _
  refine va_sld hx hb hXs hbl0 hbA hS (vp_in_nI (n := i + 2) (by omega) (by omega)) dL_law_444 ?_
  refine lv_topi (fun x_4 ex_4 => ?_)
  obtain rfl : x_4 = xs (i + 2) := by
    rw [ex_4]
    rw [nI_clamp (by omega)]
  refine lv_aload_n hx hb dL_law_445 rfl (lv_at hl 0 rfl) ?_
  refine lv_iload_n hx hb dL_law_446 rfl (lv_at hl 3 rfl) ?_
  refine lv_iconst (v := nI 3) hx hb dL_law_447 (by decide) ?_
  refine lv_iadd hx hb dL_law_448 ?_
  refine lv_topi (fun x_5 ex_5 => ?_)
  obtain rfl : x_5 = nI (i + 3) := by
    rw [ex_5]
    exact nI_add _ _
  refine va_sld hx hb hXs hbl0 hbA hS (vp_in_nI (n := i + 3) (by omega) (by omega)) dL_law_449 ?_
  refine lv_topi (fun x_6 ex_6 => ?_)
  obtain rfl : x_6 = xs (i + 3) := by
    rw [ex_6]
    rw [nI_clamp (by omega)]
  refine lv_aload_n hx hb dL_law_450 rfl (lv_at hl 0 rfl) ?_
  refine lv_iload_n hx hb dL_law_451 rfl (lv_at hl 3 rfl) ?_
  refine lv_iconst (v := nI 4) hx hb dL_law_452 (by decide) ?_
  refine lv_iadd hx hb dL_law_453 ?_
  refine lv_topi (fun x_7 ex_7 => ?_)
  obtain rfl : x_7 = nI (i + 4) := by
    rw [ex_7]
    exact nI_add _ _
  refine va_sld hx hb hXs hbl0 hbA hS (vp_in_nI (n := i + 4) (by omega) (by omega)) dL_law_454 ?_
  refine lv_topi (fun x_8 ex_8 => ?_)
  obtain rfl : x_8 = xs (i + 4) := by
    rw [ex_8]
    rw [nI_clamp (by omega)]
  refine lv_aload_n hx hb dL_law_455 rfl (lv_at hl 0 rfl) ?_
  refine lv_iload_n hx hb dL_law_456 rfl (lv_at hl 3 rfl) ?_
  refine lv_iconst (v := nI 5) hx hb dL_law_457 (by decide) ?_
  refine lv_iadd hx hb dL_law_458 ?_
  refine lv_topi (fun x_9 ex_9 => ?_)
  obtain rfl : x_9 = nI (i + 5) := by
    rw [ex_9]
    exact nI_add _ _
  refine va_sld hx hb hXs hbl0 hbA hS (vp_in_nI (n := i + 5) (by omega) (by omega)) dL_law_459 ?_
  refine lv_topi (fun x_10 ex_10 => ?_)
  obtain rfl : x_10 = xs (i + 5) := by
    rw [ex_10]
    rw [nI_clamp (by omega)]
  refine ckVRl (As := [.int (xs (i + 1)), .int (xs (i + 2)), .int (xs (i + 3)), .int (xs (i + 4)), .int (xs (i + 5))]) (rest := []) 0 [0, 7, 1, 2, 3, 4, 5, 6] (c_X5_sum l X a d p t t2 ch rs (2 ^ b) bl bk cp f_ct h lk lv 0 pk pv w hk hv wh (xs (i + 1)) (xs (i + 2)) (xs (i + 3)) (xs (i + 4)) (xs (i + 5)) pkf pvf hkf hvf P Hm f_p f_h) ⟨hx, hb, hml, hown, hts⟩ (cwV 5 hts gL_law_X5_sum rfl rfl rfl (by decide +kernel) ⟨Nat.le_of_ble_eq_true rfl, Nat.le_of_ble_eq_true rfl⟩) hK hN hP hD (by decide) rfl (ci := 5) rfl rfl rfl hl.1 rfl (Nat.le_of_ble_eq_true rfl) dL_law_460 ⟨lroom.1, lroom.2⟩ (fun ra ha => ?_)
  refine lv_aload_n hx hb dL_law_463 rfl (lv_at hl 2 rfl) ?_
  refine lv_aload_n hx hb dL_law_464 rfl (lv_at hl 0 rfl) ?_
  refine lv_iload_n hx hb dL_law_465 rfl (lv_at hl 3 rfl) ?_
  refine lv_iconst (v := nI 1) hx hb dL_law_466 (by decide) ?_
  refine lv_iadd hx hb dL_law_467 ?_
  refine lv_topi (fun x_11 ex_11 => ?_)
  obtain rfl : x_11 = nI (i + 1) := by
    rw [ex_11]
    exact nI_add _ _
  refine va_sld hx hb hXs hbl0 hbA hS (vp_in_nI (n := i + 1) (by omega) (by omega)) dL_law_468 ?_
  refine lv_topi (fun x_12 ex_12 => ?_)
  obtain rfl : x_12 = xs (i + 1) := by
    rw [ex_12]
    rw [nI_clamp (by omega)]
  refine lv_aload_n hx hb dL_law_469 rfl (lv_at hl 0 rfl) ?_
  refine lv_iload_n hx hb dL_law_470 rfl (lv_at hl 3 rfl) ?_
  refine lv_iconst (v := nI 2) hx hb dL_law_471 (by decide) ?_
  refine lv_iadd hx hb dL_law_472 ?_
  refine lv_topi (fun x_13 ex_13 => ?_)
  obtain rfl : x_13 = nI (i + 2) := by
    rw [ex_13]
    exact nI_add _ _
  refine va_sld hx hb hXs hbl0 hbA hS (vp_in_nI (n := i + 2) (by omega) (by omega)) dL_law_473 ?_
  refine lv_topi (fun x_14 ex_14 => ?_)
  obtain rfl : x_14 = xs (i + 2) := by
    rw [ex_14]
    rw [nI_clamp (by omega)]
  refine lv_aload_n hx hb dL_law_474 rfl (lv_at hl 0 rfl) ?_
  refine lv_iload_n hx hb dL_law_475 rfl (lv_at hl 3 rfl) ?_
  refine lv_iconst (v := nI 3) hx hb dL_law_476 (by decide) ?_
  refine lv_iadd hx hb dL_law_477 ?_
  refine lv_topi (fun x_15 ex_15 => ?_)
  obtain rfl : x_15 = nI (i + 3) := by
    rw [ex_15]
    exact nI_add _ _
  refine va_sld hx hb hXs hbl0 hbA hS (vp_in_nI (n := i + 3) (by omega) (by omega)) dL_law_478 ?_
  refine lv_topi (fun x_16 ex_16 => ?_)
  obtain rfl : x_16 = xs (i + 3) := by
    rw [ex_16]
    rw [nI_clamp (by omega)]
  refine lv_aload_n hx hb dL_law_479 rfl (lv_at hl 0 rfl) ?_
  refine lv_iload_n hx hb dL_law_480 rfl (lv_at hl 3 rfl) ?_
  refine lv_iconst (v := nI 4) hx hb dL_law_481 (by decide) ?_
  refine lv_iadd hx hb dL_law_482 ?_
  refine lv_topi (fun x_17 ex_17 => ?_)
  obtain rfl : x_17 = nI (i + 4) := by
    rw [ex_17]
    exact nI_add _ _
  refine va_sld hx hb hXs hbl0 hbA hS (vp_in_nI (n := i + 4) (by omega) (by omega)) dL_law_483 ?_
  refine lv_topi (fun x_18 ex_18 => ?_)
  obtain rfl : x_18 = xs (i + 4) := by
    rw [ex_18]
    rw [nI_clamp (by omega)]
  refine lv_aload_n hx hb dL_law_484 rfl (lv_at hl 0 rfl) ?_
  refine lv_iload_n hx hb dL_law_485 rfl (lv_at hl 3 rfl) ?_
  refine lv_iconst (v := nI 5) hx hb dL_law_486 (by decide) ?_
  refine lv_iadd hx hb dL_law_487 ?_
  refine lv_topi (fun x_19 ex_19 => ?_)
  obtain rfl : x_19 = nI (i + 5) := by
    rw [ex_19]
    exact nI_add _ _
  refine va_sld hx hb hXs hbl0 hbA hS (vp_in_nI (n := i + 5) (by omega) (by omega)) dL_law_488 ?_
  refine lv_topi (fun x_20 ex_20 => ?_)
  obtain rfl : x_20 = xs (i + 5) := by
    rw [ex_20]
    rw [nI_clamp (by omega)]
  refine ckVRl (As := [.int (xs (i + 1)), .int (xs (i + 2)), .int (xs (i + 3)), .int (xs (i + 4)), .int (xs (i + 5))]) (rest := [.long ra]) 0 [23, 24, 25, 26, 27] (c_X6_sum l X m bl bk b (2 ^ b) mn xr yr vr cr wr C.length wl wc rx ry mv fr f_ct f_wt f_lv f_fi f_en (nI R.length) f_cd (xs (i + 1)) (xs (i + 2)) (xs (i + 3)) (xs (i + 4)) (xs (i + 5)) mf xf yf vf wf cf P ZP Hm ZQ f_m0 f_m1) ⟨hx, hb, hml, hown, hts⟩ (cwV 5 hts gL_law_X6_sum rfl rfl rfl (by decide +kernel) ⟨Nat.le_of_ble_eq_true rfl, Nat.le_of_ble_eq_true rfl⟩) hK hN hP hD (by decide) rfl (ci := 6) rfl rfl rfl hl.1 rfl (Nat.le_of_ble_eq_true rfl) dL_law_489 ⟨lroom.1, lroom.2⟩ (fun rb hb2 => ?_)
  have hE : ra = rb := ha.trans hb2.symm
  refine W.lcmp hx hb dL_law_492 ?_
  refine lv_if_eq (tgt := 649) hx hb dL_law_493 (by decide) (fun c_493 => ?_) (fun c_493 => ?_)
  · skip
    exact kk _ _ (Or.inl ⟨cp, w, wh, f_ct, f_nn, f_dd, f_mo, e_nn, e_dd, e_mo, f_wt, f_lv, f_fi, f_en, f_cd, pkf, pvf, hkf, hvf, lkf, lvf, ff, o, ffb, ob, ckf, cvf, rkf, rvf, mf, xf, yf, vf, wf, lf, rxf, ryf, mvf, rdf, cf, kf, frf, P, Hm, ZP, ZQ, C, R, K, ⟨f_cp, (by omega), (by omega), f_p, f_h, f_c, f_r, f_t, f_t2, f_m0, f_m1, f_mr, f_ap, f_tr, f_tr2, (by omega), f_kh, f_kc⟩, hP, hD⟩) hS
  · skip
    exact absurd (by rw [hE]; exact lg_self _) c_493
set_option maxHeartbeats 4000000 in
set_option maxRecDepth 100000 in
theorem lw_on_size {pz : Program} {l : Launch} {ez : Env} {sz : State} {mz : MethodId} {below : List Frame} {meth : Method} {cz : Code} {X : kX} {bb L : Nat} {xs : Nat → Int32} {A_ : Nat → Prop} {bl bk b n i a p pk pv h hk hv d lk lv t fa oa t2 fa2 oa2 ch ck cv rs rk_ rv rd m mn xr yr vr cr wr wl wc rx ry mv fr : Nat} {Q : State → Prop} {H : Heap} {locs : List Loc} {ls : Array Slot} (C0 : lwc pz sz mz cz X bb L xs A_) (hpar : lpar bl bk b) (hn : n < 512) (hi : i + 6 ≤ L) (hL : L ≤ 3075) (hI : LOn X A_ bl bk b n a p pk pv h hk hv d lk lv t fa oa t2 fa2 oa2 ch ck cv rs rk_ rv rd m mn xr yr vr cr wr wl wc rx ry mv fr H) (hS : va_S A_ sz.heap H locs) (hl : lv_has ls 4 [(0, .ref bb), (1, .ref a), (2, .ref m), (3, .int (nI i))]) (kk : ∀ (H1 : Heap) (locs1 : List Loc), LOn X A_ bl bk b (n + 1) a p pk pv h hk hv d lk lv t fa oa t2 fa2 oa2 ch ck cv rs rk_ rv rd m mn xr yr vr cr wr wl wc rx ry mv fr H1 ∨ LOff X A_ bl bk b (n + 1) a p pk pv h hk hv d lk lv t fa oa t2 fa2 oa2 ch ck cv rs rk_ rv rd m mn xr yr vr cr wr wl wc rx ry mv fr H1 → va_S A_ sz.heap H1 locs1 → W pz l ez room_1 sz mz #[Value.ref bb] below meth cz H1 locs1 600000 7302250 Q (F0 mz 649 ls [])) : W pz l ez room_1 sz mz #[Value.ref bb] below meth cz H locs 600000 7302250 Q (F0 mz 421 ls []) := by
  obtain ⟨hx, hb, hml, hown, hts, hXs, hbl0, hK, hN, hbA⟩ := C0
  obtain ⟨hbl1, hbl, hbk, hbk2, hb1⟩ := hpar
  have hsp := pw15 hb1
  refine LOn.use hI (fun cp w wh f_ct f_nn f_dd f_mo e_nn e_dd e_mo f_wt f_lv f_fi f_en f_cd pkf pvf hkf hvf lkf lvf ff o ffb ob ckf cvf rkf rvf mf xf yf vf wf lf rxf ryf mvf rdf cf kf frf P Hm ZP ZQ C R K f_cp f_w f_wh f_p f_h f_c f_r f_t f_t2 f_m0 f_m1 f_mr f_ap f_tr f_tr2 f_k f_kh f_kc hP hD => ?_)
  clear hI
  refine lv_aload_n hx hb dL_law_421 rfl (lv_at hl 1 rfl) ?_
  refine ckVRi (As := []) (rest := []) 0 [0, 19] (c_X5_size l X a d p t t2 ch rs (2 ^ b) bl bk cp f_ct rk_ rv rd R.length (nI 1)) ⟨hx, hb, hml, hown, hts⟩ (cwV 0 hts gL_law_X5_size rfl rfl rfl (by decide +kernel) ⟨Nat.le_of_ble_eq_true rfl, Nat.le_of_ble_eq_true rfl⟩) hK hN hP hD (by decide) rfl (ci := 5) rfl rfl rfl hl.1 rfl (Nat.le_of_ble_eq_true rfl) dL_law_422 ⟨lroom.1, lroom.2⟩ (fun ra ha => ?_)
  refine lv_aload_n hx hb dL_law_425 rfl (lv_at hl 2 rfl) ?_
  refine ckVRi (As := []) (rest := [.int ra]) 0 [23] (c_X6_size l X m bl bk b (2 ^ b) mn xr yr vr cr wr C.length wl wc rx ry mv fr (nI 0) f_ct f_wt f_lv f_fi f_en f_cd R.length) ⟨hx, hb, hml, hown, hts⟩ (cwV 0 hts gL_law_X6_size rfl rfl rfl (by decide +kernel) ⟨Nat.le_of_ble_eq_true rfl, Nat.le_of_ble_eq_true rfl⟩) hK hN hP hD (by decide) rfl (ci := 6) rfl rfl rfl hl.1 rfl (Nat.le_of_ble_eq_true rfl) dL_law_426 ⟨lroom.1, lroom.2⟩ (fun rb hb2 => ?_)
  have hE : ra = rb := ha.trans hb2.symm
  refine lv_icmp_eq (tgt := 649) hx hb dL_law_429 (by decide) (fun c_429 => ?_) (fun c_429 => ?_)
  · skip
    exact kk _ _ (Or.inl ⟨cp, w, wh, f_ct, f_nn, f_dd, f_mo, e_nn, e_dd, e_mo, f_wt, f_lv, f_fi, f_en, f_cd, pkf, pvf, hkf, hvf, lkf, lvf, ff, o, ffb, ob, ckf, cvf, rkf, rvf, mf, xf, yf, vf, wf, lf, rxf, ryf, mvf, rdf, cf, kf, frf, P, Hm, ZP, ZQ, C, R, K, ⟨f_cp, (by omega), (by omega), f_p, f_h, f_c, f_r, f_t, f_t2, f_m0, f_m1, f_mr, f_ap, f_tr, f_tr2, (by omega), f_kh, f_kc⟩, hP, hD⟩) hS
  · skip
    exact absurd hE c_429
set_option maxHeartbeats 4000000 in
set_option maxRecDepth 100000 in
theorem lw_on_result {pz : Program} {l : Launch} {ez : Env} {sz : State} {mz : MethodId} {below : List Frame} {meth : Method} {cz : Code} {X : kX} {bb L : Nat} {xs : Nat → Int32} {A_ : Nat → Prop} {bl bk b n i a p pk pv h hk hv d lk lv t fa oa t2 fa2 oa2 ch ck cv rs rk_ rv rd m mn xr yr vr cr wr wl wc rx ry mv fr : Nat} {Q : State → Prop} {H : Heap} {locs : List Loc} {ls : Array Slot} (C0 : lwc pz sz mz cz X bb L xs A_) (hpar : lpar bl bk b) (hn : n < 512) (hi : i + 6 ≤ L) (hL : L ≤ 3075) (hI : LOn X A_ bl bk b n a p pk pv h hk hv d lk lv t fa oa t2 fa2 oa2 ch ck cv rs rk_ rv rd m mn xr yr vr cr wr wl wc rx ry mv fr H) (hS : va_S A_ sz.heap H locs) (hl : lv_has ls 4 [(0, .ref bb), (1, .ref a), (2, .ref m), (3, .int (nI i))]) (kk : ∀ (H1 : Heap) (locs1 : List Loc), LOn X A_ bl bk b (n + 1) a p pk pv h hk hv d lk lv t fa oa t2 fa2 oa2 ch ck cv rs rk_ rv rd m mn xr yr vr cr wr wl wc rx ry mv fr H1 ∨ LOff X A_ bl bk b (n + 1) a p pk pv h hk hv d lk lv t fa oa t2 fa2 oa2 ch ck cv rs rk_ rv rd m mn xr yr vr cr wr wl wc rx ry mv fr H1 → va_S A_ sz.heap H1 locs1 → W pz l ez room_1 sz mz #[Value.ref bb] below meth cz H1 locs1 600000 7302250 Q (F0 mz 649 ls [])) : W pz l ez room_1 sz mz #[Value.ref bb] below meth cz H locs 600000 7302250 Q (F0 mz 388 ls []) := by
  obtain ⟨hx, hb, hml, hown, hts, hXs, hbl0, hK, hN, hbA⟩ := C0
  obtain ⟨hbl1, hbl, hbk, hbk2, hb1⟩ := hpar
  have hsp := pw15 hb1
  refine LOn.use hI (fun cp w wh f_ct f_nn f_dd f_mo e_nn e_dd e_mo f_wt f_lv f_fi f_en f_cd pkf pvf hkf hvf lkf lvf ff o ffb ob ckf cvf rkf rvf mf xf yf vf wf lf rxf ryf mvf rdf cf kf frf P Hm ZP ZQ C R K f_cp f_w f_wh f_p f_h f_c f_r f_t f_t2 f_m0 f_m1 f_mr f_ap f_tr f_tr2 f_k f_kh f_kc hP hD => ?_)
  clear hI
  refine lv_aload_n hx hb dL_law_388 rfl (lv_at hl 1 rfl) ?_
  refine lv_aload_n hx hb dL_law_389 rfl (lv_at hl 0 rfl) ?_
  refine lv_iload_n hx hb dL_law_390 rfl (lv_at hl 3 rfl) ?_
  refine lv_iconst (v := nI 1) hx hb dL_law_391 (by decide) ?_
  refine lv_iadd hx hb dL_law_392 ?_
  refine lv_topi (fun x_1 ex_1 => ?_)
  obtain rfl : x_1 = nI (i + 1) := by
    rw [ex_1]
    exact nI_add _ _
  refine va_sld hx hb hXs hbl0 hbA hS (vp_in_nI (n := i + 1) (by omega) (by omega)) dL_law_393 ?_
  refine lv_topi (fun x_2 ex_2 => ?_)
  obtain rfl : x_2 = xs (i + 1) := by
    rw [ex_2]
    rw [nI_clamp (by omega)]
  refine lv_aload_n hx hb dL_law_394 rfl (lv_at hl 0 rfl) ?_
  refine lv_iload_n hx hb dL_law_395 rfl (lv_at hl 3 rfl) ?_
  refine lv_iconst (v := nI 2) hx hb dL_law_396 (by decide) ?_
  refine lv_iadd hx hb dL_law_397 ?_
  refine lv_topi (fun x_3 ex_3 => ?_)
  obtain rfl : x_3 = nI (i + 2) := by
    rw [ex_3]
    exact nI_add _ _
  refine va_sld hx hb hXs hbl0 hbA hS (vp_in_nI (n := i + 2) (by omega) (by omega)) dL_law_398 ?_
  refine lv_topi (fun x_4 ex_4 => ?_)
  obtain rfl : x_4 = xs (i + 2) := by
    rw [ex_4]
    rw [nI_clamp (by omega)]
  refine ckVRi (As := [.int (xs (i + 1)), .int (xs (i + 2))]) (rest := []) 0 [0, 19, 20, 21] (c_X5_result l X a d p t t2 ch rs (2 ^ b) bl bk cp f_ct rk_ rv rd (nI 1) (xs (i + 1)) (xs (i + 2)) rkf rvf R f_r) ⟨hx, hb, hml, hown, hts⟩ (cwV 2 hts gL_law_X5_result rfl rfl rfl (by decide +kernel) ⟨Nat.le_of_ble_eq_true rfl, Nat.le_of_ble_eq_true rfl⟩) hK hN hP hD (by decide) rfl (ci := 5) rfl rfl rfl hl.1 rfl (Nat.le_of_ble_eq_true rfl) dL_law_399 ⟨lroom.1, lroom.2⟩ (fun ra ha => ?_)
  refine lv_aload_n hx hb dL_law_402 rfl (lv_at hl 2 rfl) ?_
  refine lv_aload_n hx hb dL_law_403 rfl (lv_at hl 0 rfl) ?_
  refine lv_iload_n hx hb dL_law_404 rfl (lv_at hl 3 rfl) ?_
  refine lv_iconst (v := nI 1) hx hb dL_law_405 (by decide) ?_
  refine lv_iadd hx hb dL_law_406 ?_
  refine lv_topi (fun x_5 ex_5 => ?_)
  obtain rfl : x_5 = nI (i + 1) := by
    rw [ex_5]
    exact nI_add _ _
  refine va_sld hx hb hXs hbl0 hbA hS (vp_in_nI (n := i + 1) (by omega) (by omega)) dL_law_407 ?_
  refine lv_topi (fun x_6 ex_6 => ?_)
  obtain rfl : x_6 = xs (i + 1) := by
    rw [ex_6]
    rw [nI_clamp (by omega)]
  refine lv_aload_n hx hb dL_law_408 rfl (lv_at hl 0 rfl) ?_
  refine lv_iload_n hx hb dL_law_409 rfl (lv_at hl 3 rfl) ?_
  refine lv_iconst (v := nI 2) hx hb dL_law_410 (by decide) ?_
  refine lv_iadd hx hb dL_law_411 ?_
  refine lv_topi (fun x_7 ex_7 => ?_)
  obtain rfl : x_7 = nI (i + 2) := by
    rw [ex_7]
    exact nI_add _ _
  refine va_sld hx hb hXs hbl0 hbA hS (vp_in_nI (n := i + 2) (by omega) (by omega)) dL_law_412 ?_
  refine lv_topi (fun x_8 ex_8 => ?_)
  obtain rfl : x_8 = xs (i + 2) := by
    rw [ex_8]
    rw [nI_clamp (by omega)]
  refine ckVRi (As := [.int (xs (i + 1)), .int (xs (i + 2))]) (rest := [.int ra]) 0 [23, 32, 33, 34] (c_X6_result l X m bl bk b (2 ^ b) mn xr yr vr cr wr C.length wl wc rx ry mv fr (nI 0) f_ct f_wt f_lv f_fi f_en f_cd (xs (i + 1)) (xs (i + 2)) rxf ryf mvf R f_mr) ⟨hx, hb, hml, hown, hts⟩ (cwV 2 hts gL_law_X6_result rfl rfl rfl (by decide +kernel) ⟨Nat.le_of_ble_eq_true rfl, Nat.le_of_ble_eq_true rfl⟩) hK hN hP hD (by decide) rfl (ci := 6) rfl rfl rfl hl.1 rfl (Nat.le_of_ble_eq_true rfl) dL_law_413 ⟨lroom.1, lroom.2⟩ (fun rb hb2 => ?_)
  have hE : ra = rb := ha.trans hb2.symm
  refine lv_icmp_eq (tgt := 649) hx hb dL_law_416 (by decide) (fun c_416 => ?_) (fun c_416 => ?_)
  · skip
    exact kk _ _ (Or.inl ⟨cp, w, wh, f_ct, f_nn, f_dd, f_mo, e_nn, e_dd, e_mo, f_wt, f_lv, f_fi, f_en, f_cd, pkf, pvf, hkf, hvf, lkf, lvf, ff, o, ffb, ob, ckf, cvf, rkf, rvf, mf, xf, yf, vf, wf, lf, rxf, ryf, mvf, rdf, cf, kf, frf, P, Hm, ZP, ZQ, C, R, K, ⟨f_cp, (by omega), (by omega), f_p, f_h, f_c, f_r, f_t, f_t2, f_m0, f_m1, f_mr, f_ap, f_tr, f_tr2, (by omega), f_kh, f_kc⟩, hP, hD⟩) hS
  · skip
    exact absurd hE c_416
set_option maxHeartbeats 4000000 in
set_option maxRecDepth 100000 in
theorem lw_on_node {pz : Program} {l : Launch} {ez : Env} {sz : State} {mz : MethodId} {below : List Frame} {meth : Method} {cz : Code} {X : kX} {bb L : Nat} {xs : Nat → Int32} {A_ : Nat → Prop} {bl bk b n i a p pk pv h hk hv d lk lv t fa oa t2 fa2 oa2 ch ck cv rs rk_ rv rd m mn xr yr vr cr wr wl wc rx ry mv fr : Nat} {Q : State → Prop} {H : Heap} {locs : List Loc} {ls : Array Slot} (C0 : lwc pz sz mz cz X bb L xs A_) (hpar : lpar bl bk b) (hn : n < 512) (hi : i + 6 ≤ L) (hL : L ≤ 3075) (hI : LOn X A_ bl bk b n a p pk pv h hk hv d lk lv t fa oa t2 fa2 oa2 ch ck cv rs rk_ rv rd m mn xr yr vr cr wr wl wc rx ry mv fr H) (hS : va_S A_ sz.heap H locs) (hl : lv_has ls 4 [(0, .ref bb), (1, .ref a), (2, .ref m), (3, .int (nI i))]) (kk : ∀ (H1 : Heap) (locs1 : List Loc), LOn X A_ bl bk b (n + 1) a p pk pv h hk hv d lk lv t fa oa t2 fa2 oa2 ch ck cv rs rk_ rv rd m mn xr yr vr cr wr wl wc rx ry mv fr H1 ∨ LOff X A_ bl bk b (n + 1) a p pk pv h hk hv d lk lv t fa oa t2 fa2 oa2 ch ck cv rs rk_ rv rd m mn xr yr vr cr wr wl wc rx ry mv fr H1 → va_S A_ sz.heap H1 locs1 → W pz l ez room_1 sz mz #[Value.ref bb] below meth cz H1 locs1 600000 7302250 Q (F0 mz 649 ls [])) : W pz l ez room_1 sz mz #[Value.ref bb] below meth cz H locs 600000 7302250 Q (F0 mz 583 ls []) := by
  obtain ⟨hx, hb, hml, hown, hts, hXs, hbl0, hK, hN, hbA⟩ := C0
  obtain ⟨hbl1, hbl, hbk, hbk2, hb1⟩ := hpar
  have hsp := pw15 hb1
  refine LOn.use hI (fun cp w wh f_ct f_nn f_dd f_mo e_nn e_dd e_mo f_wt f_lv f_fi f_en f_cd pkf pvf hkf hvf lkf lvf ff o ffb ob ckf cvf rkf rvf mf xf yf vf wf lf rxf ryf mvf rdf cf kf frf P Hm ZP ZQ C R K f_cp f_w f_wh f_p f_h f_c f_r f_t f_t2 f_m0 f_m1 f_mr f_ap f_tr f_tr2 f_k f_kh f_kc hP hD => ?_)
  clear hI
  refine lv_aload_n hx hb dL_law_583 rfl (lv_at hl 1 rfl) ?_
  refine lv_aload_n hx hb dL_law_584 rfl (lv_at hl 0 rfl) ?_
  refine lv_iload_n hx hb dL_law_585 rfl (lv_at hl 3 rfl) ?_
  refine lv_iconst (v := nI 1) hx hb dL_law_586 (by decide) ?_
  refine lv_iadd hx hb dL_law_587 ?_
  refine lv_topi (fun x_1 ex_1 => ?_)
  obtain rfl : x_1 = nI (i + 1) := by
    rw [ex_1]
    exact nI_add _ _
  refine va_sld hx hb hXs hbl0 hbA hS (vp_in_nI (n := i + 1) (by omega) (by omega)) dL_law_588 ?_
  refine lv_topi (fun x_2 ex_2 => ?_)
  obtain rfl : x_2 = xs (i + 1) := by
    rw [ex_2]
    rw [nI_clamp (by omega)]
  refine lv_aload_n hx hb dL_law_589 rfl (lv_at hl 0 rfl) ?_
  refine lv_iload_n hx hb dL_law_590 rfl (lv_at hl 3 rfl) ?_
  refine lv_iconst (v := nI 2) hx hb dL_law_591 (by decide) ?_
  refine lv_iadd hx hb dL_law_592 ?_
  refine lv_topi (fun x_3 ex_3 => ?_)
  obtain rfl : x_3 = nI (i + 2) := by
    rw [ex_3]
    exact nI_add _ _
  refine va_sld hx hb hXs hbl0 hbA hS (vp_in_nI (n := i + 2) (by omega) (by omega)) dL_law_593 ?_
  refine lv_topi (fun x_4 ex_4 => ?_)
  obtain rfl : x_4 = xs (i + 2) := by
    rw [ex_4]
    rw [nI_clamp (by omega)]
  refine lv_aload_n hx hb dL_law_594 rfl (lv_at hl 0 rfl) ?_
  refine lv_iload_n hx hb dL_law_595 rfl (lv_at hl 3 rfl) ?_
  refine lv_iconst (v := nI 3) hx hb dL_law_596 (by decide) ?_
  refine lv_iadd hx hb dL_law_597 ?_
  refine lv_topi (fun x_5 ex_5 => ?_)
  obtain rfl : x_5 = nI (i + 3) := by
    rw [ex_5]
    exact nI_add _ _
  refine va_sld hx hb hXs hbl0 hbA hS (vp_in_nI (n := i + 3) (by omega) (by omega)) dL_law_598 ?_
  refine lv_topi (fun x_6 ex_6 => ?_)
  obtain rfl : x_6 = xs (i + 3) := by
    rw [ex_6]
    rw [nI_clamp (by omega)]
  refine ckVi (As := [.int (xs (i + 1)), .int (xs (i + 2)), .int (xs (i + 3))]) (rest := []) 0 [0, 1, 2, 3, 4, 5, 6, 10, 11, 12, 13, 14, 15] (c_X5_node l X a d p t t2 ch rs (2 ^ b) bl bk cp f_ct pk pv w fa oa h hk hv wh fa2 oa2 b f_nn f_dd f_mo e_nn e_dd e_mo pkf pvf hkf hvf ff o ffb ob P Hm f_p f_h hbl hb1 hbk hbk2 f_t f_t2 f_m0.I f_m1.I f_tr f_tr2 (xs (i + 1)) (xs (i + 2)) (xs (i + 3))) ⟨hx, hb, hml, hown, hts⟩ (cwV 3 hts gL_law_X5_node rfl rfl rfl (by decide +kernel) ⟨(by show b + 6 + 1 + 1 ≤ 2048; omega), (by show 8 + (5 + 11) + 100 * (b + 6 + 1) ≤ 84000; omega)⟩) hK hN hP hD hS (by decide) rfl (ci := 5) rfl rfl (fun _ => rfl) rfl hl.1 rfl (Nat.le_of_ble_eq_true rfl) dL_law_599 ⟨lroom.1, lroom.2⟩ (fun ra u_7 H locs ha hP hD hS => ?_)
  obtain ⟨⟨g_nn, g_dd, g_mo, ff2, o2⟩, ⟨q_nn, q_dd, q_mo, ff3, o3⟩⟩ := u_7
  have hP : va_P X.1 vwCl [(a, .inr (5, [.int (nI bl), .int (nI bk), .int (nI (2 ^ b)), .ref d, .ref p, .ref t, .ref t2, .ref ch, .ref rs, .int (nI 1), .int f_ct, .int (nI cp)])), (p, .inr (2, [.ref pk, .ref pv, .int (nI P.length), .int (nI w)])), (pk, .inl (X.2.1, 512, .inl pkf)), (pv, .inl (X.2.1, 512, .inl pvf)), (h, .inr (2, [.ref hk, .ref hv, .int (nI Hm.length), .int (nI wh)])), (hk, .inl (X.2.1, 512, .inl hkf)), (hv, .inl (X.2.1, 512, .inl hvf)), (d, .inr (1, [.ref h, .ref lk, .ref lv, .int (nI 0)])), (lk, .inl (X.2.1, 60, .inl lkf)), (lv, .inl (X.2.1, 60, .inl lvf)), (t, .inr (4, [.ref p, .int (nI bk), .int (nI b), .int (nI (bl + 1)), .ref fa, .ref oa, .int g_nn, .int g_dd, .int g_mo])), (fa, .inl (X.2.1, 6 * (bl + 1), .inl ff2)), (oa, .inl (X.2.1, 512, .inl o2)), (t2, .inr (4, [.ref h, .int (nI bk), .int (nI b), .int (nI (bl + 1)), .ref fa2, .ref oa2, .int q_nn, .int q_dd, .int q_mo])), (fa2, .inl (X.2.1, 6 * (bl + 1), .inl ff3)), (oa2, .inl (X.2.1, 512, .inl o3)), (ch, .inr (0, [.ref ck, .ref cv, .int (nI C.length)])), (ck, .inl (X.2.1, 60, .inl ckf)), (cv, .inl (X.2.1, 60, .inl cvf)), (rs, .inr (3, [.ref rk_, .ref rv, .ref rd, .int (nI R.length)])), (rk_, .inl (X.2.1, 150, .inl rkf)), (rv, .inl (X.2.1, 150, .inl rvf)), (rd, .inl (X.2.2, 150, .inr (.inl rdf))), (m, .inr (6, [.int (nI bl), .int (nI bk), .int (nI b), .int (nI (2 ^ b)), .ref mn, .ref xr, .ref yr, .ref vr, .ref cr, .ref wr, .int (nI C.length), .int (nI 0), .int f_ct, .ref wl, .ref wc, .int f_wt, .int f_lv, .int f_fi, .int f_en, .long f_cd, .ref rx, .ref ry, .ref mv, .ref fr, .int (nI R.length)])), (mn, .inl (X.2.1, 2, .inl mf)), (xr, .inl (X.2.1, 6600, .inl xf)), (yr, .inl (X.2.1, 6600, .inl yf)), (vr, .inl (X.2.1, 6600, .inl vf)), (cr, .inl (X.2.2, 6600, .inr (.inl cf))), (wr, .inl (X.2.1, 6600, .inl wf)), (wl, .inl (X.2.1, 80, .inl lf)), (wc, .inl (X.2.2, 80, .inr (.inl kf))), (rx, .inl (X.2.1, 150, .inl rxf)), (ry, .inl (X.2.1, 150, .inl ryf)), (mv, .inl (X.2.1, 150, .inl mvf)), (fr, .inl (X.2.2, 150, .inr (.inl frf)))] H := hP
  have hD : va_D A_ [(a, .inr (5, [.int (nI bl), .int (nI bk), .int (nI (2 ^ b)), .ref d, .ref p, .ref t, .ref t2, .ref ch, .ref rs, .int (nI 1), .int f_ct, .int (nI cp)])), (p, .inr (2, [.ref pk, .ref pv, .int (nI P.length), .int (nI w)])), (pk, .inl (X.2.1, 512, .inl pkf)), (pv, .inl (X.2.1, 512, .inl pvf)), (h, .inr (2, [.ref hk, .ref hv, .int (nI Hm.length), .int (nI wh)])), (hk, .inl (X.2.1, 512, .inl hkf)), (hv, .inl (X.2.1, 512, .inl hvf)), (d, .inr (1, [.ref h, .ref lk, .ref lv, .int (nI 0)])), (lk, .inl (X.2.1, 60, .inl lkf)), (lv, .inl (X.2.1, 60, .inl lvf)), (t, .inr (4, [.ref p, .int (nI bk), .int (nI b), .int (nI (bl + 1)), .ref fa, .ref oa, .int g_nn, .int g_dd, .int g_mo])), (fa, .inl (X.2.1, 6 * (bl + 1), .inl ff2)), (oa, .inl (X.2.1, 512, .inl o2)), (t2, .inr (4, [.ref h, .int (nI bk), .int (nI b), .int (nI (bl + 1)), .ref fa2, .ref oa2, .int q_nn, .int q_dd, .int q_mo])), (fa2, .inl (X.2.1, 6 * (bl + 1), .inl ff3)), (oa2, .inl (X.2.1, 512, .inl o3)), (ch, .inr (0, [.ref ck, .ref cv, .int (nI C.length)])), (ck, .inl (X.2.1, 60, .inl ckf)), (cv, .inl (X.2.1, 60, .inl cvf)), (rs, .inr (3, [.ref rk_, .ref rv, .ref rd, .int (nI R.length)])), (rk_, .inl (X.2.1, 150, .inl rkf)), (rv, .inl (X.2.1, 150, .inl rvf)), (rd, .inl (X.2.2, 150, .inr (.inl rdf))), (m, .inr (6, [.int (nI bl), .int (nI bk), .int (nI b), .int (nI (2 ^ b)), .ref mn, .ref xr, .ref yr, .ref vr, .ref cr, .ref wr, .int (nI C.length), .int (nI 0), .int f_ct, .ref wl, .ref wc, .int f_wt, .int f_lv, .int f_fi, .int f_en, .long f_cd, .ref rx, .ref ry, .ref mv, .ref fr, .int (nI R.length)])), (mn, .inl (X.2.1, 2, .inl mf)), (xr, .inl (X.2.1, 6600, .inl xf)), (yr, .inl (X.2.1, 6600, .inl yf)), (vr, .inl (X.2.1, 6600, .inl vf)), (cr, .inl (X.2.2, 6600, .inr (.inl cf))), (wr, .inl (X.2.1, 6600, .inl wf)), (wl, .inl (X.2.1, 80, .inl lf)), (wc, .inl (X.2.2, 80, .inr (.inl kf))), (rx, .inl (X.2.1, 150, .inl rxf)), (ry, .inl (X.2.1, 150, .inl ryf)), (mv, .inl (X.2.1, 150, .inl mvf)), (fr, .inl (X.2.2, 150, .inr (.inl frf)))] := hD
  try dsimp only at ha
  refine lv_aload_n hx hb dL_law_602 rfl (lv_at hl 2 rfl) ?_
  refine lv_aload_n hx hb dL_law_603 rfl (lv_at hl 0 rfl) ?_
  refine lv_iload_n hx hb dL_law_604 rfl (lv_at hl 3 rfl) ?_
  refine lv_iconst (v := nI 1) hx hb dL_law_605 (by decide) ?_
  refine lv_iadd hx hb dL_law_606 ?_
  refine lv_topi (fun x_8 ex_8 => ?_)
  obtain rfl : x_8 = nI (i + 1) := by
    rw [ex_8]
    exact nI_add _ _
  refine va_sld hx hb hXs hbl0 hbA hS (vp_in_nI (n := i + 1) (by omega) (by omega)) dL_law_607 ?_
  refine lv_topi (fun x_9 ex_9 => ?_)
  obtain rfl : x_9 = xs (i + 1) := by
    rw [ex_9]
    rw [nI_clamp (by omega)]
  refine lv_aload_n hx hb dL_law_608 rfl (lv_at hl 0 rfl) ?_
  refine lv_iload_n hx hb dL_law_609 rfl (lv_at hl 3 rfl) ?_
  refine lv_iconst (v := nI 2) hx hb dL_law_610 (by decide) ?_
  refine lv_iadd hx hb dL_law_611 ?_
  refine lv_topi (fun x_10 ex_10 => ?_)
  obtain rfl : x_10 = nI (i + 2) := by
    rw [ex_10]
    exact nI_add _ _
  refine va_sld hx hb hXs hbl0 hbA hS (vp_in_nI (n := i + 2) (by omega) (by omega)) dL_law_612 ?_
  refine lv_topi (fun x_11 ex_11 => ?_)
  obtain rfl : x_11 = xs (i + 2) := by
    rw [ex_11]
    rw [nI_clamp (by omega)]
  refine lv_aload_n hx hb dL_law_613 rfl (lv_at hl 0 rfl) ?_
  refine lv_iload_n hx hb dL_law_614 rfl (lv_at hl 3 rfl) ?_
  refine lv_iconst (v := nI 3) hx hb dL_law_615 (by decide) ?_
  refine lv_iadd hx hb dL_law_616 ?_
  refine lv_topi (fun x_12 ex_12 => ?_)
  obtain rfl : x_12 = nI (i + 3) := by
    rw [ex_12]
    exact nI_add _ _
  refine va_sld hx hb hXs hbl0 hbA hS (vp_in_nI (n := i + 3) (by omega) (by omega)) dL_law_617 ?_
  refine lv_topi (fun x_13 ex_13 => ?_)
  obtain rfl : x_13 = xs (i + 3) := by
    rw [ex_13]
    rw [nI_clamp (by omega)]
  refine ckVi (As := [.int (xs (i + 1)), .int (xs (i + 2)), .int (xs (i + 3))]) (rest := [.int ra]) 0 [23, 24, 28, 30, 31, 29] (c_X6_node l X m bl bk b (2 ^ b) mn xr yr vr cr wr C.length wl wc rx ry mv fr f_ct f_wt f_lv f_fi f_en (nI R.length) f_cd (xs (i + 1)) (xs (i + 2)) (xs (i + 3)) mf xf yf vf wf cf lf kf P ZP Hm ZQ f_m0 f_m1 hb1 hbk hbk2) ⟨hx, hb, hml, hown, hts⟩ (cwV 3 hts gL_law_X6_node rfl rfl rfl (by decide +kernel) ⟨Nat.le_of_ble_eq_true rfl, Nat.le_of_ble_eq_true rfl⟩) hK hN hP hD hS (by decide) rfl (ci := 6) rfl rfl (fun _ => rfl) rfl hl.1 rfl (Nat.le_of_ble_eq_true rfl) dL_law_618 ⟨lroom.1, lroom.2⟩ (fun rb u_14 H locs hb2 hP hD hS => ?_)
  obtain ⟨⟨lf2, kf2⟩, ⟨g_wt, g_lv, g_fi, g_en, g_cd⟩⟩ := u_14
  have hP : va_P X.1 vwCl [(a, .inr (5, [.int (nI bl), .int (nI bk), .int (nI (2 ^ b)), .ref d, .ref p, .ref t, .ref t2, .ref ch, .ref rs, .int (nI 1), .int f_ct, .int (nI cp)])), (p, .inr (2, [.ref pk, .ref pv, .int (nI P.length), .int (nI w)])), (pk, .inl (X.2.1, 512, .inl pkf)), (pv, .inl (X.2.1, 512, .inl pvf)), (h, .inr (2, [.ref hk, .ref hv, .int (nI Hm.length), .int (nI wh)])), (hk, .inl (X.2.1, 512, .inl hkf)), (hv, .inl (X.2.1, 512, .inl hvf)), (d, .inr (1, [.ref h, .ref lk, .ref lv, .int (nI 0)])), (lk, .inl (X.2.1, 60, .inl lkf)), (lv, .inl (X.2.1, 60, .inl lvf)), (t, .inr (4, [.ref p, .int (nI bk), .int (nI b), .int (nI (bl + 1)), .ref fa, .ref oa, .int g_nn, .int g_dd, .int g_mo])), (fa, .inl (X.2.1, 6 * (bl + 1), .inl ff2)), (oa, .inl (X.2.1, 512, .inl o2)), (t2, .inr (4, [.ref h, .int (nI bk), .int (nI b), .int (nI (bl + 1)), .ref fa2, .ref oa2, .int q_nn, .int q_dd, .int q_mo])), (fa2, .inl (X.2.1, 6 * (bl + 1), .inl ff3)), (oa2, .inl (X.2.1, 512, .inl o3)), (ch, .inr (0, [.ref ck, .ref cv, .int (nI C.length)])), (ck, .inl (X.2.1, 60, .inl ckf)), (cv, .inl (X.2.1, 60, .inl cvf)), (rs, .inr (3, [.ref rk_, .ref rv, .ref rd, .int (nI R.length)])), (rk_, .inl (X.2.1, 150, .inl rkf)), (rv, .inl (X.2.1, 150, .inl rvf)), (rd, .inl (X.2.2, 150, .inr (.inl rdf))), (m, .inr (6, [.int (nI bl), .int (nI bk), .int (nI b), .int (nI (2 ^ b)), .ref mn, .ref xr, .ref yr, .ref vr, .ref cr, .ref wr, .int (nI C.length), .int (nI 0), .int f_ct, .ref wl, .ref wc, .int g_wt, .int g_lv, .int g_fi, .int g_en, .long g_cd, .ref rx, .ref ry, .ref mv, .ref fr, .int (nI R.length)])), (mn, .inl (X.2.1, 2, .inl mf)), (xr, .inl (X.2.1, 6600, .inl xf)), (yr, .inl (X.2.1, 6600, .inl yf)), (vr, .inl (X.2.1, 6600, .inl vf)), (cr, .inl (X.2.2, 6600, .inr (.inl cf))), (wr, .inl (X.2.1, 6600, .inl wf)), (wl, .inl (X.2.1, 80, .inl lf2)), (wc, .inl (X.2.2, 80, .inr (.inl kf2))), (rx, .inl (X.2.1, 150, .inl rxf)), (ry, .inl (X.2.1, 150, .inl ryf)), (mv, .inl (X.2.1, 150, .inl mvf)), (fr, .inl (X.2.2, 150, .inr (.inl frf)))] H := hP
  have hD : va_D A_ [(a, .inr (5, [.int (nI bl), .int (nI bk), .int (nI (2 ^ b)), .ref d, .ref p, .ref t, .ref t2, .ref ch, .ref rs, .int (nI 1), .int f_ct, .int (nI cp)])), (p, .inr (2, [.ref pk, .ref pv, .int (nI P.length), .int (nI w)])), (pk, .inl (X.2.1, 512, .inl pkf)), (pv, .inl (X.2.1, 512, .inl pvf)), (h, .inr (2, [.ref hk, .ref hv, .int (nI Hm.length), .int (nI wh)])), (hk, .inl (X.2.1, 512, .inl hkf)), (hv, .inl (X.2.1, 512, .inl hvf)), (d, .inr (1, [.ref h, .ref lk, .ref lv, .int (nI 0)])), (lk, .inl (X.2.1, 60, .inl lkf)), (lv, .inl (X.2.1, 60, .inl lvf)), (t, .inr (4, [.ref p, .int (nI bk), .int (nI b), .int (nI (bl + 1)), .ref fa, .ref oa, .int g_nn, .int g_dd, .int g_mo])), (fa, .inl (X.2.1, 6 * (bl + 1), .inl ff2)), (oa, .inl (X.2.1, 512, .inl o2)), (t2, .inr (4, [.ref h, .int (nI bk), .int (nI b), .int (nI (bl + 1)), .ref fa2, .ref oa2, .int q_nn, .int q_dd, .int q_mo])), (fa2, .inl (X.2.1, 6 * (bl + 1), .inl ff3)), (oa2, .inl (X.2.1, 512, .inl o3)), (ch, .inr (0, [.ref ck, .ref cv, .int (nI C.length)])), (ck, .inl (X.2.1, 60, .inl ckf)), (cv, .inl (X.2.1, 60, .inl cvf)), (rs, .inr (3, [.ref rk_, .ref rv, .ref rd, .int (nI R.length)])), (rk_, .inl (X.2.1, 150, .inl rkf)), (rv, .inl (X.2.1, 150, .inl rvf)), (rd, .inl (X.2.2, 150, .inr (.inl rdf))), (m, .inr (6, [.int (nI bl), .int (nI bk), .int (nI b), .int (nI (2 ^ b)), .ref mn, .ref xr, .ref yr, .ref vr, .ref cr, .ref wr, .int (nI C.length), .int (nI 0), .int f_ct, .ref wl, .ref wc, .int g_wt, .int g_lv, .int g_fi, .int g_en, .long g_cd, .ref rx, .ref ry, .ref mv, .ref fr, .int (nI R.length)])), (mn, .inl (X.2.1, 2, .inl mf)), (xr, .inl (X.2.1, 6600, .inl xf)), (yr, .inl (X.2.1, 6600, .inl yf)), (vr, .inl (X.2.1, 6600, .inl vf)), (cr, .inl (X.2.2, 6600, .inr (.inl cf))), (wr, .inl (X.2.1, 6600, .inl wf)), (wl, .inl (X.2.1, 80, .inl lf2)), (wc, .inl (X.2.2, 80, .inr (.inl kf2))), (rx, .inl (X.2.1, 150, .inl rxf)), (ry, .inl (X.2.1, 150, .inl ryf)), (mv, .inl (X.2.1, 150, .inl mvf)), (fr, .inl (X.2.2, 150, .inr (.inl frf)))] := hD
  try dsimp only at hb2
  have hE : ra = rb := ha.1.trans hb2.symm
  refine lv_icmp_eq (tgt := 649) hx hb dL_law_621 (by decide) (fun c_621 => ?_) (fun c_621 => ?_)
  · skip
    exact kk _ _ (Or.inl ⟨cp, w, wh, f_ct, g_nn, g_dd, g_mo, q_nn, q_dd, q_mo, g_wt, g_lv, g_fi, g_en, g_cd, pkf, pvf, hkf, hvf, lkf, lvf, ff2, o2, ff3, o3, ckf, cvf, rkf, rvf, mf, xf, yf, vf, wf, lf2, rxf, ryf, mvf, rdf, cf, kf2, frf, P, Hm, ZP, ZQ, C, R, K, ⟨f_cp, (by omega), (by omega), f_p, f_h, f_c, f_r, ha.2.1, ha.2.2, f_m0, f_m1, f_mr, f_ap, f_tr, f_tr2, (by omega), f_kh, f_kc⟩, hP, hD⟩) hS
  · skip
    exact absurd hE c_621
set_option maxHeartbeats 4000000 in
set_option maxRecDepth 100000 in
theorem lw_on_count {pz : Program} {l : Launch} {ez : Env} {sz : State} {mz : MethodId} {below : List Frame} {meth : Method} {cz : Code} {X : kX} {bb L : Nat} {xs : Nat → Int32} {A_ : Nat → Prop} {bl bk b n i a p pk pv h hk hv d lk lv t fa oa t2 fa2 oa2 ch ck cv rs rk_ rv rd m mn xr yr vr cr wr wl wc rx ry mv fr : Nat} {Q : State → Prop} {H : Heap} {locs : List Loc} {ls : Array Slot} (C0 : lwc pz sz mz cz X bb L xs A_) (hpar : lpar bl bk b) (hn : n < 512) (hi : i + 6 ≤ L) (hL : L ≤ 3075) (hI : LOn X A_ bl bk b n a p pk pv h hk hv d lk lv t fa oa t2 fa2 oa2 ch ck cv rs rk_ rv rd m mn xr yr vr cr wr wl wc rx ry mv fr H) (hS : va_S A_ sz.heap H locs) (hl : lv_has ls 4 [(0, .ref bb), (1, .ref a), (2, .ref m), (3, .int (nI i))]) (kk : ∀ (H1 : Heap) (locs1 : List Loc), LOn X A_ bl bk b (n + 1) a p pk pv h hk hv d lk lv t fa oa t2 fa2 oa2 ch ck cv rs rk_ rv rd m mn xr yr vr cr wr wl wc rx ry mv fr H1 ∨ LOff X A_ bl bk b (n + 1) a p pk pv h hk hv d lk lv t fa oa t2 fa2 oa2 ch ck cv rs rk_ rv rd m mn xr yr vr cr wr wl wc rx ry mv fr H1 → va_S A_ sz.heap H1 locs1 → W pz l ez room_1 sz mz #[Value.ref bb] below meth cz H1 locs1 600000 7302250 Q (F0 mz 649 ls [])) : W pz l ez room_1 sz mz #[Value.ref bb] below meth cz H locs 600000 7302250 Q (F0 mz 626 ls []) := by
  obtain ⟨hx, hb, hml, hown, hts, hXs, hbl0, hK, hN, hbA⟩ := C0
  obtain ⟨hbl1, hbl, hbk, hbk2, hb1⟩ := hpar
  have hsp := pw15 hb1
  refine LOn.use hI (fun cp w wh f_ct f_nn f_dd f_mo e_nn e_dd e_mo f_wt f_lv f_fi f_en f_cd pkf pvf hkf hvf lkf lvf ff o ffb ob ckf cvf rkf rvf mf xf yf vf wf lf rxf ryf mvf rdf cf kf frf P Hm ZP ZQ C R K f_cp f_w f_wh f_p f_h f_c f_r f_t f_t2 f_m0 f_m1 f_mr f_ap f_tr f_tr2 f_k f_kh f_kc hP hD => ?_)
  clear hI
  refine lv_aload_n hx hb dL_law_626 rfl (lv_at hl 1 rfl) ?_
  refine lv_aload_n hx hb dL_law_627 rfl (lv_at hl 0 rfl) ?_
  refine lv_iload_n hx hb dL_law_628 rfl (lv_at hl 3 rfl) ?_
  refine lv_iconst (v := nI 1) hx hb dL_law_629 (by decide) ?_
  refine lv_iadd hx hb dL_law_630 ?_
  refine lv_topi (fun x_1 ex_1 => ?_)
  obtain rfl : x_1 = nI (i + 1) := by
    rw [ex_1]
    exact nI_add _ _
  refine va_sld hx hb hXs hbl0 hbA hS (vp_in_nI (n := i + 1) (by omega) (by omega)) dL_law_631 ?_
  refine lv_topi (fun x_2 ex_2 => ?_)
  obtain rfl : x_2 = xs (i + 1) := by
    rw [ex_2]
    rw [nI_clamp (by omega)]
  refine ckVi (As := [.int (xs (i + 1))]) (rest := []) 0 [0, 7, 1, 2, 3, 4, 5, 6, 10, 11, 12, 13, 14, 15, 16] (c_X5_count l X a d p t t2 ch rs (2 ^ b) bl bk cp f_ct pk pv w fa oa h hk hv wh fa2 oa2 b f_nn f_dd f_mo e_nn e_dd e_mo pkf pvf hkf hvf ff o ffb ob P Hm f_p f_h hbl hb1 hbk hbk2 f_t f_t2 f_m0.I f_m1.I f_tr f_tr2 lk lv 0 ck cv C.length (xs (i + 1))) ⟨hx, hb, hml, hown, hts⟩ (cwV 1 hts gL_law_X5_count rfl rfl rfl (by decide +kernel) ⟨(by show b + 6 + 1 + 1 ≤ 2048; omega), (by show 8 + (2 + 11) + 100 * (b + 6 + 1) ≤ 84000; omega)⟩) hK hN hP hD hS (by decide) rfl (ci := 5) rfl rfl (fun _ => rfl) rfl hl.1 rfl (Nat.le_of_ble_eq_true rfl) dL_law_632 ⟨lroom.1, lroom.2⟩ (fun ra u_3 H locs ha hP hD hS => ?_)
  obtain ⟨⟨g_nn, g_dd, g_mo, ff2, o2⟩, ⟨q_nn, q_dd, q_mo, ff3, o3⟩⟩ := u_3
  have hP : va_P X.1 vwCl [(a, .inr (5, [.int (nI bl), .int (nI bk), .int (nI (2 ^ b)), .ref d, .ref p, .ref t, .ref t2, .ref ch, .ref rs, .int (nI 1), .int f_ct, .int (nI cp)])), (p, .inr (2, [.ref pk, .ref pv, .int (nI P.length), .int (nI w)])), (pk, .inl (X.2.1, 512, .inl pkf)), (pv, .inl (X.2.1, 512, .inl pvf)), (h, .inr (2, [.ref hk, .ref hv, .int (nI Hm.length), .int (nI wh)])), (hk, .inl (X.2.1, 512, .inl hkf)), (hv, .inl (X.2.1, 512, .inl hvf)), (d, .inr (1, [.ref h, .ref lk, .ref lv, .int (nI 0)])), (lk, .inl (X.2.1, 60, .inl lkf)), (lv, .inl (X.2.1, 60, .inl lvf)), (t, .inr (4, [.ref p, .int (nI bk), .int (nI b), .int (nI (bl + 1)), .ref fa, .ref oa, .int g_nn, .int g_dd, .int g_mo])), (fa, .inl (X.2.1, 6 * (bl + 1), .inl ff2)), (oa, .inl (X.2.1, 512, .inl o2)), (t2, .inr (4, [.ref h, .int (nI bk), .int (nI b), .int (nI (bl + 1)), .ref fa2, .ref oa2, .int q_nn, .int q_dd, .int q_mo])), (fa2, .inl (X.2.1, 6 * (bl + 1), .inl ff3)), (oa2, .inl (X.2.1, 512, .inl o3)), (ch, .inr (0, [.ref ck, .ref cv, .int (nI C.length)])), (ck, .inl (X.2.1, 60, .inl ckf)), (cv, .inl (X.2.1, 60, .inl cvf)), (rs, .inr (3, [.ref rk_, .ref rv, .ref rd, .int (nI R.length)])), (rk_, .inl (X.2.1, 150, .inl rkf)), (rv, .inl (X.2.1, 150, .inl rvf)), (rd, .inl (X.2.2, 150, .inr (.inl rdf))), (m, .inr (6, [.int (nI bl), .int (nI bk), .int (nI b), .int (nI (2 ^ b)), .ref mn, .ref xr, .ref yr, .ref vr, .ref cr, .ref wr, .int (nI C.length), .int (nI 0), .int f_ct, .ref wl, .ref wc, .int f_wt, .int f_lv, .int f_fi, .int f_en, .long f_cd, .ref rx, .ref ry, .ref mv, .ref fr, .int (nI R.length)])), (mn, .inl (X.2.1, 2, .inl mf)), (xr, .inl (X.2.1, 6600, .inl xf)), (yr, .inl (X.2.1, 6600, .inl yf)), (vr, .inl (X.2.1, 6600, .inl vf)), (cr, .inl (X.2.2, 6600, .inr (.inl cf))), (wr, .inl (X.2.1, 6600, .inl wf)), (wl, .inl (X.2.1, 80, .inl lf)), (wc, .inl (X.2.2, 80, .inr (.inl kf))), (rx, .inl (X.2.1, 150, .inl rxf)), (ry, .inl (X.2.1, 150, .inl ryf)), (mv, .inl (X.2.1, 150, .inl mvf)), (fr, .inl (X.2.2, 150, .inr (.inl frf)))] H := hP
  have hD : va_D A_ [(a, .inr (5, [.int (nI bl), .int (nI bk), .int (nI (2 ^ b)), .ref d, .ref p, .ref t, .ref t2, .ref ch, .ref rs, .int (nI 1), .int f_ct, .int (nI cp)])), (p, .inr (2, [.ref pk, .ref pv, .int (nI P.length), .int (nI w)])), (pk, .inl (X.2.1, 512, .inl pkf)), (pv, .inl (X.2.1, 512, .inl pvf)), (h, .inr (2, [.ref hk, .ref hv, .int (nI Hm.length), .int (nI wh)])), (hk, .inl (X.2.1, 512, .inl hkf)), (hv, .inl (X.2.1, 512, .inl hvf)), (d, .inr (1, [.ref h, .ref lk, .ref lv, .int (nI 0)])), (lk, .inl (X.2.1, 60, .inl lkf)), (lv, .inl (X.2.1, 60, .inl lvf)), (t, .inr (4, [.ref p, .int (nI bk), .int (nI b), .int (nI (bl + 1)), .ref fa, .ref oa, .int g_nn, .int g_dd, .int g_mo])), (fa, .inl (X.2.1, 6 * (bl + 1), .inl ff2)), (oa, .inl (X.2.1, 512, .inl o2)), (t2, .inr (4, [.ref h, .int (nI bk), .int (nI b), .int (nI (bl + 1)), .ref fa2, .ref oa2, .int q_nn, .int q_dd, .int q_mo])), (fa2, .inl (X.2.1, 6 * (bl + 1), .inl ff3)), (oa2, .inl (X.2.1, 512, .inl o3)), (ch, .inr (0, [.ref ck, .ref cv, .int (nI C.length)])), (ck, .inl (X.2.1, 60, .inl ckf)), (cv, .inl (X.2.1, 60, .inl cvf)), (rs, .inr (3, [.ref rk_, .ref rv, .ref rd, .int (nI R.length)])), (rk_, .inl (X.2.1, 150, .inl rkf)), (rv, .inl (X.2.1, 150, .inl rvf)), (rd, .inl (X.2.2, 150, .inr (.inl rdf))), (m, .inr (6, [.int (nI bl), .int (nI bk), .int (nI b), .int (nI (2 ^ b)), .ref mn, .ref xr, .ref yr, .ref vr, .ref cr, .ref wr, .int (nI C.length), .int (nI 0), .int f_ct, .ref wl, .ref wc, .int f_wt, .int f_lv, .int f_fi, .int f_en, .long f_cd, .ref rx, .ref ry, .ref mv, .ref fr, .int (nI R.length)])), (mn, .inl (X.2.1, 2, .inl mf)), (xr, .inl (X.2.1, 6600, .inl xf)), (yr, .inl (X.2.1, 6600, .inl yf)), (vr, .inl (X.2.1, 6600, .inl vf)), (cr, .inl (X.2.2, 6600, .inr (.inl cf))), (wr, .inl (X.2.1, 6600, .inl wf)), (wl, .inl (X.2.1, 80, .inl lf)), (wc, .inl (X.2.2, 80, .inr (.inl kf))), (rx, .inl (X.2.1, 150, .inl rxf)), (ry, .inl (X.2.1, 150, .inl ryf)), (mv, .inl (X.2.1, 150, .inl mvf)), (fr, .inl (X.2.2, 150, .inr (.inl frf)))] := hD
  try dsimp only at ha
  refine lv_aload_n hx hb dL_law_635 rfl (lv_at hl 2 rfl) ?_
  refine lv_aload_n hx hb dL_law_636 rfl (lv_at hl 0 rfl) ?_
  refine lv_iload_n hx hb dL_law_637 rfl (lv_at hl 3 rfl) ?_
  refine lv_iconst (v := nI 1) hx hb dL_law_638 (by decide) ?_
  refine lv_iadd hx hb dL_law_639 ?_
  refine lv_topi (fun x_4 ex_4 => ?_)
  obtain rfl : x_4 = nI (i + 1) := by
    rw [ex_4]
    exact nI_add _ _
  refine va_sld hx hb hXs hbl0 hbA hS (vp_in_nI (n := i + 1) (by omega) (by omega)) dL_law_640 ?_
  refine lv_topi (fun x_5 ex_5 => ?_)
  obtain rfl : x_5 = xs (i + 1) := by
    rw [ex_5]
    rw [nI_clamp (by omega)]
  refine ckVi (As := [.int (xs (i + 1))]) (rest := [.int ra]) 0 [23, 24, 28, 30, 31] (c_X6_count l X m bl bk b (2 ^ b) mn xr yr vr cr wr C.length wl wc rx ry mv fr f_ct f_wt f_lv f_fi f_en (nI R.length) f_cd (xs (i + 1)) mf xf yf vf wf cf lf kf P ZP Hm ZQ f_m0 f_m1 hb1 f_tr hbk hbk2) ⟨hx, hb, hml, hown, hts⟩ (cwV 1 hts gL_law_X6_count rfl rfl rfl (by decide +kernel) ⟨Nat.le_of_ble_eq_true rfl, Nat.le_of_ble_eq_true rfl⟩) hK hN hP hD hS (by decide) rfl (ci := 6) rfl rfl (fun _ => rfl) rfl hl.1 rfl (Nat.le_of_ble_eq_true rfl) dL_law_641 ⟨lroom.1, lroom.2⟩ (fun rb u_6 H locs hb2 hP hD hS => ?_)
  obtain ⟨⟨lf2, kf2⟩, ⟨g_wt, g_lv, g_fi, g_en, g_cd⟩⟩ := u_6
  have hP : va_P X.1 vwCl [(a, .inr (5, [.int (nI bl), .int (nI bk), .int (nI (2 ^ b)), .ref d, .ref p, .ref t, .ref t2, .ref ch, .ref rs, .int (nI 1), .int f_ct, .int (nI cp)])), (p, .inr (2, [.ref pk, .ref pv, .int (nI P.length), .int (nI w)])), (pk, .inl (X.2.1, 512, .inl pkf)), (pv, .inl (X.2.1, 512, .inl pvf)), (h, .inr (2, [.ref hk, .ref hv, .int (nI Hm.length), .int (nI wh)])), (hk, .inl (X.2.1, 512, .inl hkf)), (hv, .inl (X.2.1, 512, .inl hvf)), (d, .inr (1, [.ref h, .ref lk, .ref lv, .int (nI 0)])), (lk, .inl (X.2.1, 60, .inl lkf)), (lv, .inl (X.2.1, 60, .inl lvf)), (t, .inr (4, [.ref p, .int (nI bk), .int (nI b), .int (nI (bl + 1)), .ref fa, .ref oa, .int g_nn, .int g_dd, .int g_mo])), (fa, .inl (X.2.1, 6 * (bl + 1), .inl ff2)), (oa, .inl (X.2.1, 512, .inl o2)), (t2, .inr (4, [.ref h, .int (nI bk), .int (nI b), .int (nI (bl + 1)), .ref fa2, .ref oa2, .int q_nn, .int q_dd, .int q_mo])), (fa2, .inl (X.2.1, 6 * (bl + 1), .inl ff3)), (oa2, .inl (X.2.1, 512, .inl o3)), (ch, .inr (0, [.ref ck, .ref cv, .int (nI C.length)])), (ck, .inl (X.2.1, 60, .inl ckf)), (cv, .inl (X.2.1, 60, .inl cvf)), (rs, .inr (3, [.ref rk_, .ref rv, .ref rd, .int (nI R.length)])), (rk_, .inl (X.2.1, 150, .inl rkf)), (rv, .inl (X.2.1, 150, .inl rvf)), (rd, .inl (X.2.2, 150, .inr (.inl rdf))), (m, .inr (6, [.int (nI bl), .int (nI bk), .int (nI b), .int (nI (2 ^ b)), .ref mn, .ref xr, .ref yr, .ref vr, .ref cr, .ref wr, .int (nI C.length), .int (nI 0), .int f_ct, .ref wl, .ref wc, .int g_wt, .int g_lv, .int g_fi, .int g_en, .long g_cd, .ref rx, .ref ry, .ref mv, .ref fr, .int (nI R.length)])), (mn, .inl (X.2.1, 2, .inl mf)), (xr, .inl (X.2.1, 6600, .inl xf)), (yr, .inl (X.2.1, 6600, .inl yf)), (vr, .inl (X.2.1, 6600, .inl vf)), (cr, .inl (X.2.2, 6600, .inr (.inl cf))), (wr, .inl (X.2.1, 6600, .inl wf)), (wl, .inl (X.2.1, 80, .inl lf2)), (wc, .inl (X.2.2, 80, .inr (.inl kf2))), (rx, .inl (X.2.1, 150, .inl rxf)), (ry, .inl (X.2.1, 150, .inl ryf)), (mv, .inl (X.2.1, 150, .inl mvf)), (fr, .inl (X.2.2, 150, .inr (.inl frf)))] H := hP
  have hD : va_D A_ [(a, .inr (5, [.int (nI bl), .int (nI bk), .int (nI (2 ^ b)), .ref d, .ref p, .ref t, .ref t2, .ref ch, .ref rs, .int (nI 1), .int f_ct, .int (nI cp)])), (p, .inr (2, [.ref pk, .ref pv, .int (nI P.length), .int (nI w)])), (pk, .inl (X.2.1, 512, .inl pkf)), (pv, .inl (X.2.1, 512, .inl pvf)), (h, .inr (2, [.ref hk, .ref hv, .int (nI Hm.length), .int (nI wh)])), (hk, .inl (X.2.1, 512, .inl hkf)), (hv, .inl (X.2.1, 512, .inl hvf)), (d, .inr (1, [.ref h, .ref lk, .ref lv, .int (nI 0)])), (lk, .inl (X.2.1, 60, .inl lkf)), (lv, .inl (X.2.1, 60, .inl lvf)), (t, .inr (4, [.ref p, .int (nI bk), .int (nI b), .int (nI (bl + 1)), .ref fa, .ref oa, .int g_nn, .int g_dd, .int g_mo])), (fa, .inl (X.2.1, 6 * (bl + 1), .inl ff2)), (oa, .inl (X.2.1, 512, .inl o2)), (t2, .inr (4, [.ref h, .int (nI bk), .int (nI b), .int (nI (bl + 1)), .ref fa2, .ref oa2, .int q_nn, .int q_dd, .int q_mo])), (fa2, .inl (X.2.1, 6 * (bl + 1), .inl ff3)), (oa2, .inl (X.2.1, 512, .inl o3)), (ch, .inr (0, [.ref ck, .ref cv, .int (nI C.length)])), (ck, .inl (X.2.1, 60, .inl ckf)), (cv, .inl (X.2.1, 60, .inl cvf)), (rs, .inr (3, [.ref rk_, .ref rv, .ref rd, .int (nI R.length)])), (rk_, .inl (X.2.1, 150, .inl rkf)), (rv, .inl (X.2.1, 150, .inl rvf)), (rd, .inl (X.2.2, 150, .inr (.inl rdf))), (m, .inr (6, [.int (nI bl), .int (nI bk), .int (nI b), .int (nI (2 ^ b)), .ref mn, .ref xr, .ref yr, .ref vr, .ref cr, .ref wr, .int (nI C.length), .int (nI 0), .int f_ct, .ref wl, .ref wc, .int g_wt, .int g_lv, .int g_fi, .int g_en, .long g_cd, .ref rx, .ref ry, .ref mv, .ref fr, .int (nI R.length)])), (mn, .inl (X.2.1, 2, .inl mf)), (xr, .inl (X.2.1, 6600, .inl xf)), (yr, .inl (X.2.1, 6600, .inl yf)), (vr, .inl (X.2.1, 6600, .inl vf)), (cr, .inl (X.2.2, 6600, .inr (.inl cf))), (wr, .inl (X.2.1, 6600, .inl wf)), (wl, .inl (X.2.1, 80, .inl lf2)), (wc, .inl (X.2.2, 80, .inr (.inl kf2))), (rx, .inl (X.2.1, 150, .inl rxf)), (ry, .inl (X.2.1, 150, .inl ryf)), (mv, .inl (X.2.1, 150, .inl mvf)), (fr, .inl (X.2.2, 150, .inr (.inl frf)))] := hD
  try dsimp only at hb2
  have hE : ra = rb := ha.1.trans hb2.symm
  refine lv_icmp_eq (tgt := 649) hx hb dL_law_644 (by decide) (fun c_644 => ?_) (fun c_644 => ?_)
  · skip
    exact kk _ _ (Or.inl ⟨cp, w, wh, f_ct, g_nn, g_dd, g_mo, q_nn, q_dd, q_mo, g_wt, g_lv, g_fi, g_en, g_cd, pkf, pvf, hkf, hvf, lkf, lvf, ff2, o2, ff3, o3, ckf, cvf, rkf, rvf, mf, xf, yf, vf, wf, lf2, rxf, ryf, mvf, rdf, cf, kf2, frf, P, Hm, ZP, ZQ, C, R, K, ⟨f_cp, (by omega), (by omega), f_p, f_h, f_c, f_r, ha.2.1, ha.2.2, f_m0, f_m1, f_mr, f_ap, f_tr, f_tr2, (by omega), f_kh, f_kc⟩, hP, hD⟩) hS
  · skip
    exact absurd hE c_644
