/-! THE LAW, a call at a time: without power (laid by wip/gen/spec_law.py) -/
set_option maxHeartbeats 4000000 in
set_option maxRecDepth 100000 in
theorem lw_off_insert {pz : Program} {l : Launch} {ez : Env} {sz : State} {mz : MethodId} {below : List Frame} {meth : Method} {cz : Code} {X : kX} {bb L : Nat} {xs : Nat → Int32} {A_ : Nat → Prop} {bl bk b n i a p pk pv h hk hv d lk lv t fa oa t2 fa2 oa2 ch ck cv rs rk_ rv rd m mn xr yr vr cr wr wl wc rx ry mv fr : Nat} {Q : State → Prop} {H : Heap} {locs : List Loc} {ls : Array Slot} (C0 : lwc pz sz mz cz X bb L xs A_) (hpar : lpar bl bk b) (hn : n < 512) (hi : i + 6 ≤ L) (hL : L ≤ 3075) (hI : LOff X A_ bl bk b n a p pk pv h hk hv d lk lv t fa oa t2 fa2 oa2 ch ck cv rs rk_ rv rd m mn xr yr vr cr wr wl wc rx ry mv fr H) (hS : va_S A_ sz.heap H locs) (hl : lv_has ls 4 [(0, .ref bb), (1, .ref a), (2, .ref m), (3, .int (nI i))]) (kk : ∀ (H1 : Heap) (locs1 : List Loc), LOn X A_ bl bk b (n + 1) a p pk pv h hk hv d lk lv t fa oa t2 fa2 oa2 ch ck cv rs rk_ rv rd m mn xr yr vr cr wr wl wc rx ry mv fr H1 ∨ LOff X A_ bl bk b (n + 1) a p pk pv h hk hv d lk lv t fa oa t2 fa2 oa2 ch ck cv rs rk_ rv rd m mn xr yr vr cr wr wl wc rx ry mv fr H1 → va_S A_ sz.heap H1 locs1 → W pz l ez room_1 sz mz #[Value.ref bb] below meth cz H1 locs1 600000 7302250 Q (F0 mz 649 ls [])) : W pz l ez room_1 sz mz #[Value.ref bb] below meth cz H locs 600000 7302250 Q (F0 mz 140 ls []) := by
  obtain ⟨hx, hb, hml, hown, hts, hXs, hbl0, hK, hN, hbA⟩ := C0
  obtain ⟨hbl1, hbl, hbk, hbk2, hb1⟩ := hpar
  have hsp := pw15 hb1
  refine LOff.use hI (fun cp w wh nc f_ct f_nn f_dd f_mo e_nn e_dd e_mo f_wt f_lv f_fi f_en f_cd pkf pvf hkf hvf lkf lvf ff o ffb ob ckf cvf rkf rvf mf xf yf vf wf lf rxf ryf mvf rdf cf kf frf Hm Qm ZQ Lg K f_cp f_w f_wh f_h f_l f_t f_t2 f_m1 f_ap f_tr2 f_k f_kh f_kc hP hD => ?_)
  clear hI
  refine lv_aload_n hx hb dL_law_140 rfl (lv_at hl 1 rfl) ?_
  refine lv_aload_n hx hb dL_law_141 rfl (lv_at hl 0 rfl) ?_
  refine lv_iload_n hx hb dL_law_142 rfl (lv_at hl 3 rfl) ?_
  refine lv_iconst (v := nI 1) hx hb dL_law_143 (by decide) ?_
  refine lv_iadd hx hb dL_law_144 ?_
  refine lv_topi (fun x_1 ex_1 => ?_)
  obtain rfl : x_1 = nI (i + 1) := by
    rw [ex_1]
    exact nI_add _ _
  refine va_sld hx hb hXs hbl0 hbA hS (vp_in_nI (n := i + 1) (by omega) (by omega)) dL_law_145 ?_
  refine lv_topi (fun x_2 ex_2 => ?_)
  obtain rfl : x_2 = xs (i + 1) := by
    rw [ex_2]
    rw [nI_clamp (by omega)]
  refine lv_aload_n hx hb dL_law_146 rfl (lv_at hl 0 rfl) ?_
  refine lv_iload_n hx hb dL_law_147 rfl (lv_at hl 3 rfl) ?_
  refine lv_iconst (v := nI 2) hx hb dL_law_148 (by decide) ?_
  refine lv_iadd hx hb dL_law_149 ?_
  refine lv_topi (fun x_3 ex_3 => ?_)
  obtain rfl : x_3 = nI (i + 2) := by
    rw [ex_3]
    exact nI_add _ _
  refine va_sld hx hb hXs hbl0 hbA hS (vp_in_nI (n := i + 2) (by omega) (by omega)) dL_law_150 ?_
  refine lv_topi (fun x_4 ex_4 => ?_)
  obtain rfl : x_4 = xs (i + 2) := by
    rw [ex_4]
    rw [nI_clamp (by omega)]
  refine lv_aload_n hx hb dL_law_151 rfl (lv_at hl 0 rfl) ?_
  refine lv_iload_n hx hb dL_law_152 rfl (lv_at hl 3 rfl) ?_
  refine lv_iconst (v := nI 3) hx hb dL_law_153 (by decide) ?_
  refine lv_iadd hx hb dL_law_154 ?_
  refine lv_topi (fun x_5 ex_5 => ?_)
  obtain rfl : x_5 = nI (i + 3) := by
    rw [ex_5]
    exact nI_add _ _
  refine va_sld hx hb hXs hbl0 hbA hS (vp_in_nI (n := i + 3) (by omega) (by omega)) dL_law_155 ?_
  refine lv_topi (fun x_6 ex_6 => ?_)
  obtain rfl : x_6 = xs (i + 3) := by
    rw [ex_6]
    rw [nI_clamp (by omega)]
  refine ckVRi (As := [.int (xs (i + 1)), .int (xs (i + 2)), .int (xs (i + 3))]) (rest := []) 0 [0] (c_X5_insert_off l X a d p t t2 ch rs (2 ^ b) bl bk cp f_ct (xs (i + 1)) (xs (i + 2)) (xs (i + 3))) ⟨hx, hb, hml, hown, hts⟩ (cwV 3 hts gL_law_X5_insert rfl rfl rfl (by decide +kernel) ⟨Nat.le_of_ble_eq_true rfl, Nat.le_of_ble_eq_true rfl⟩) hK hN hP hD (by decide) rfl (ci := 5) rfl rfl rfl hl.1 rfl (Nat.le_of_ble_eq_true rfl) dL_law_156 ⟨lroom.1, lroom.2⟩ (fun ra ha => ?_)
  refine lv_aload_n hx hb dL_law_159 rfl (lv_at hl 2 rfl) ?_
  refine lv_aload_n hx hb dL_law_160 rfl (lv_at hl 0 rfl) ?_
  refine lv_iload_n hx hb dL_law_161 rfl (lv_at hl 3 rfl) ?_
  refine lv_iconst (v := nI 1) hx hb dL_law_162 (by decide) ?_
  refine lv_iadd hx hb dL_law_163 ?_
  refine lv_topi (fun x_7 ex_7 => ?_)
  obtain rfl : x_7 = nI (i + 1) := by
    rw [ex_7]
    exact nI_add _ _
  refine va_sld hx hb hXs hbl0 hbA hS (vp_in_nI (n := i + 1) (by omega) (by omega)) dL_law_164 ?_
  refine lv_topi (fun x_8 ex_8 => ?_)
  obtain rfl : x_8 = xs (i + 1) := by
    rw [ex_8]
    rw [nI_clamp (by omega)]
  refine lv_aload_n hx hb dL_law_165 rfl (lv_at hl 0 rfl) ?_
  refine lv_iload_n hx hb dL_law_166 rfl (lv_at hl 3 rfl) ?_
  refine lv_iconst (v := nI 2) hx hb dL_law_167 (by decide) ?_
  refine lv_iadd hx hb dL_law_168 ?_
  refine lv_topi (fun x_9 ex_9 => ?_)
  obtain rfl : x_9 = nI (i + 2) := by
    rw [ex_9]
    exact nI_add _ _
  refine va_sld hx hb hXs hbl0 hbA hS (vp_in_nI (n := i + 2) (by omega) (by omega)) dL_law_169 ?_
  refine lv_topi (fun x_10 ex_10 => ?_)
  obtain rfl : x_10 = xs (i + 2) := by
    rw [ex_10]
    rw [nI_clamp (by omega)]
  refine lv_aload_n hx hb dL_law_170 rfl (lv_at hl 0 rfl) ?_
  refine lv_iload_n hx hb dL_law_171 rfl (lv_at hl 3 rfl) ?_
  refine lv_iconst (v := nI 3) hx hb dL_law_172 (by decide) ?_
  refine lv_iadd hx hb dL_law_173 ?_
  refine lv_topi (fun x_11 ex_11 => ?_)
  obtain rfl : x_11 = nI (i + 3) := by
    rw [ex_11]
    exact nI_add _ _
  refine va_sld hx hb hXs hbl0 hbA hS (vp_in_nI (n := i + 3) (by omega) (by omega)) dL_law_174 ?_
  refine lv_topi (fun x_12 ex_12 => ?_)
  obtain rfl : x_12 = xs (i + 3) := by
    rw [ex_12]
    rw [nI_clamp (by omega)]
  refine ckVRi (As := [.int (xs (i + 1)), .int (xs (i + 2)), .int (xs (i + 3))]) (rest := [.int ra]) 0 [23] (c_X6_insert_off l X m bl bk b (2 ^ b) mn xr yr vr cr wr nc wl wc rx ry mv fr f_ct f_wt f_lv f_fi f_en (nI 0) f_cd (xs (i + 1)) (xs (i + 2)) (xs (i + 3))) ⟨hx, hb, hml, hown, hts⟩ (cwV 3 hts gL_law_X6_insert rfl rfl rfl (by decide +kernel) ⟨Nat.le_of_ble_eq_true rfl, Nat.le_of_ble_eq_true rfl⟩) hK hN hP hD (by decide) rfl (ci := 6) rfl rfl rfl hl.1 rfl (Nat.le_of_ble_eq_true rfl) dL_law_175 ⟨lroom.1, lroom.2⟩ (fun rb hb2 => ?_)
  have hE : ra = rb := ha.trans hb2.symm
  refine lv_icmp_eq (tgt := 649) hx hb dL_law_178 (by decide) (fun c_178 => ?_) (fun c_178 => ?_)
  · skip
    exact kk _ _ (Or.inr ⟨cp, w, wh, nc, f_ct, f_nn, f_dd, f_mo, e_nn, e_dd, e_mo, f_wt, f_lv, f_fi, f_en, f_cd, pkf, pvf, hkf, hvf, lkf, lvf, ff, o, ffb, ob, ckf, cvf, rkf, rvf, mf, xf, yf, vf, wf, lf, rxf, ryf, mvf, rdf, cf, kf, frf, Hm, Qm, ZQ, Lg, K, ⟨f_cp, (by omega), (by omega), f_h, f_l, f_t, f_t2, f_m1, f_ap, f_tr2, (by omega), f_kh, f_kc⟩, hP, hD⟩) hS
  · skip
    exact absurd hE c_178
set_option maxHeartbeats 4000000 in
set_option maxRecDepth 100000 in
theorem lw_off_delete {pz : Program} {l : Launch} {ez : Env} {sz : State} {mz : MethodId} {below : List Frame} {meth : Method} {cz : Code} {X : kX} {bb L : Nat} {xs : Nat → Int32} {A_ : Nat → Prop} {bl bk b n i a p pk pv h hk hv d lk lv t fa oa t2 fa2 oa2 ch ck cv rs rk_ rv rd m mn xr yr vr cr wr wl wc rx ry mv fr : Nat} {Q : State → Prop} {H : Heap} {locs : List Loc} {ls : Array Slot} (C0 : lwc pz sz mz cz X bb L xs A_) (hpar : lpar bl bk b) (hn : n < 512) (hi : i + 6 ≤ L) (hL : L ≤ 3075) (hI : LOff X A_ bl bk b n a p pk pv h hk hv d lk lv t fa oa t2 fa2 oa2 ch ck cv rs rk_ rv rd m mn xr yr vr cr wr wl wc rx ry mv fr H) (hS : va_S A_ sz.heap H locs) (hl : lv_has ls 4 [(0, .ref bb), (1, .ref a), (2, .ref m), (3, .int (nI i))]) (kk : ∀ (H1 : Heap) (locs1 : List Loc), LOn X A_ bl bk b (n + 1) a p pk pv h hk hv d lk lv t fa oa t2 fa2 oa2 ch ck cv rs rk_ rv rd m mn xr yr vr cr wr wl wc rx ry mv fr H1 ∨ LOff X A_ bl bk b (n + 1) a p pk pv h hk hv d lk lv t fa oa t2 fa2 oa2 ch ck cv rs rk_ rv rd m mn xr yr vr cr wr wl wc rx ry mv fr H1 → va_S A_ sz.heap H1 locs1 → W pz l ez room_1 sz mz #[Value.ref bb] below meth cz H1 locs1 600000 7302250 Q (F0 mz 649 ls [])) : W pz l ez room_1 sz mz #[Value.ref bb] below meth cz H locs 600000 7302250 Q (F0 mz 183 ls []) := by
  obtain ⟨hx, hb, hml, hown, hts, hXs, hbl0, hK, hN, hbA⟩ := C0
  obtain ⟨hbl1, hbl, hbk, hbk2, hb1⟩ := hpar
  have hsp := pw15 hb1
  refine LOff.use hI (fun cp w wh nc f_ct f_nn f_dd f_mo e_nn e_dd e_mo f_wt f_lv f_fi f_en f_cd pkf pvf hkf hvf lkf lvf ff o ffb ob ckf cvf rkf rvf mf xf yf vf wf lf rxf ryf mvf rdf cf kf frf Hm Qm ZQ Lg K f_cp f_w f_wh f_h f_l f_t f_t2 f_m1 f_ap f_tr2 f_k f_kh f_kc hP hD => ?_)
  clear hI
  refine lv_aload_n hx hb dL_law_183 rfl (lv_at hl 1 rfl) ?_
  refine lv_aload_n hx hb dL_law_184 rfl (lv_at hl 0 rfl) ?_
  refine lv_iload_n hx hb dL_law_185 rfl (lv_at hl 3 rfl) ?_
  refine lv_iconst (v := nI 1) hx hb dL_law_186 (by decide) ?_
  refine lv_iadd hx hb dL_law_187 ?_
  refine lv_topi (fun x_1 ex_1 => ?_)
  obtain rfl : x_1 = nI (i + 1) := by
    rw [ex_1]
    exact nI_add _ _
  refine va_sld hx hb hXs hbl0 hbA hS (vp_in_nI (n := i + 1) (by omega) (by omega)) dL_law_188 ?_
  refine lv_topi (fun x_2 ex_2 => ?_)
  obtain rfl : x_2 = xs (i + 1) := by
    rw [ex_2]
    rw [nI_clamp (by omega)]
  refine lv_aload_n hx hb dL_law_189 rfl (lv_at hl 0 rfl) ?_
  refine lv_iload_n hx hb dL_law_190 rfl (lv_at hl 3 rfl) ?_
  refine lv_iconst (v := nI 2) hx hb dL_law_191 (by decide) ?_
  refine lv_iadd hx hb dL_law_192 ?_
  refine lv_topi (fun x_3 ex_3 => ?_)
  obtain rfl : x_3 = nI (i + 2) := by
    rw [ex_3]
    exact nI_add _ _
  refine va_sld hx hb hXs hbl0 hbA hS (vp_in_nI (n := i + 2) (by omega) (by omega)) dL_law_193 ?_
  refine lv_topi (fun x_4 ex_4 => ?_)
  obtain rfl : x_4 = xs (i + 2) := by
    rw [ex_4]
    rw [nI_clamp (by omega)]
  refine ckVRi (As := [.int (xs (i + 1)), .int (xs (i + 2))]) (rest := []) 0 [0] (c_X5_delete_off l X a d p t t2 ch rs (2 ^ b) bl bk cp f_ct (xs (i + 1)) (xs (i + 2))) ⟨hx, hb, hml, hown, hts⟩ (cwV 2 hts gL_law_X5_delete rfl rfl rfl (by decide +kernel) ⟨Nat.le_of_ble_eq_true rfl, Nat.le_of_ble_eq_true rfl⟩) hK hN hP hD (by decide) rfl (ci := 5) rfl rfl rfl hl.1 rfl (Nat.le_of_ble_eq_true rfl) dL_law_194 ⟨lroom.1, lroom.2⟩ (fun ra ha => ?_)
  refine lv_aload_n hx hb dL_law_197 rfl (lv_at hl 2 rfl) ?_
  refine lv_aload_n hx hb dL_law_198 rfl (lv_at hl 0 rfl) ?_
  refine lv_iload_n hx hb dL_law_199 rfl (lv_at hl 3 rfl) ?_
  refine lv_iconst (v := nI 1) hx hb dL_law_200 (by decide) ?_
  refine lv_iadd hx hb dL_law_201 ?_
  refine lv_topi (fun x_5 ex_5 => ?_)
  obtain rfl : x_5 = nI (i + 1) := by
    rw [ex_5]
    exact nI_add _ _
  refine va_sld hx hb hXs hbl0 hbA hS (vp_in_nI (n := i + 1) (by omega) (by omega)) dL_law_202 ?_
  refine lv_topi (fun x_6 ex_6 => ?_)
  obtain rfl : x_6 = xs (i + 1) := by
    rw [ex_6]
    rw [nI_clamp (by omega)]
  refine lv_aload_n hx hb dL_law_203 rfl (lv_at hl 0 rfl) ?_
  refine lv_iload_n hx hb dL_law_204 rfl (lv_at hl 3 rfl) ?_
  refine lv_iconst (v := nI 2) hx hb dL_law_205 (by decide) ?_
  refine lv_iadd hx hb dL_law_206 ?_
  refine lv_topi (fun x_7 ex_7 => ?_)
  obtain rfl : x_7 = nI (i + 2) := by
    rw [ex_7]
    exact nI_add _ _
  refine va_sld hx hb hXs hbl0 hbA hS (vp_in_nI (n := i + 2) (by omega) (by omega)) dL_law_207 ?_
  refine lv_topi (fun x_8 ex_8 => ?_)
  obtain rfl : x_8 = xs (i + 2) := by
    rw [ex_8]
    rw [nI_clamp (by omega)]
  refine ckVRi (As := [.int (xs (i + 1)), .int (xs (i + 2))]) (rest := [.int ra]) 0 [23] (c_X6_delete_off l X m bl bk b (2 ^ b) mn xr yr vr cr wr nc wl wc rx ry mv fr f_ct f_wt f_lv f_fi f_en (nI 0) f_cd (xs (i + 1)) (xs (i + 2))) ⟨hx, hb, hml, hown, hts⟩ (cwV 2 hts gL_law_X6_delete rfl rfl rfl (by decide +kernel) ⟨Nat.le_of_ble_eq_true rfl, Nat.le_of_ble_eq_true rfl⟩) hK hN hP hD (by decide) rfl (ci := 6) rfl rfl rfl hl.1 rfl (Nat.le_of_ble_eq_true rfl) dL_law_208 ⟨lroom.1, lroom.2⟩ (fun rb hb2 => ?_)
  have hE : ra = rb := ha.trans hb2.symm
  refine lv_icmp_eq (tgt := 649) hx hb dL_law_211 (by decide) (fun c_211 => ?_) (fun c_211 => ?_)
  · skip
    exact kk _ _ (Or.inr ⟨cp, w, wh, nc, f_ct, f_nn, f_dd, f_mo, e_nn, e_dd, e_mo, f_wt, f_lv, f_fi, f_en, f_cd, pkf, pvf, hkf, hvf, lkf, lvf, ff, o, ffb, ob, ckf, cvf, rkf, rvf, mf, xf, yf, vf, wf, lf, rxf, ryf, mvf, rdf, cf, kf, frf, Hm, Qm, ZQ, Lg, K, ⟨f_cp, (by omega), (by omega), f_h, f_l, f_t, f_t2, f_m1, f_ap, f_tr2, (by omega), f_kh, f_kc⟩, hP, hD⟩) hS
  · skip
    exact absurd hE c_211
set_option maxHeartbeats 4000000 in
set_option maxRecDepth 100000 in
theorem lw_off_get {pz : Program} {l : Launch} {ez : Env} {sz : State} {mz : MethodId} {below : List Frame} {meth : Method} {cz : Code} {X : kX} {bb L : Nat} {xs : Nat → Int32} {A_ : Nat → Prop} {bl bk b n i a p pk pv h hk hv d lk lv t fa oa t2 fa2 oa2 ch ck cv rs rk_ rv rd m mn xr yr vr cr wr wl wc rx ry mv fr : Nat} {Q : State → Prop} {H : Heap} {locs : List Loc} {ls : Array Slot} (C0 : lwc pz sz mz cz X bb L xs A_) (hpar : lpar bl bk b) (hn : n < 512) (hi : i + 6 ≤ L) (hL : L ≤ 3075) (hI : LOff X A_ bl bk b n a p pk pv h hk hv d lk lv t fa oa t2 fa2 oa2 ch ck cv rs rk_ rv rd m mn xr yr vr cr wr wl wc rx ry mv fr H) (hS : va_S A_ sz.heap H locs) (hl : lv_has ls 4 [(0, .ref bb), (1, .ref a), (2, .ref m), (3, .int (nI i))]) (kk : ∀ (H1 : Heap) (locs1 : List Loc), LOn X A_ bl bk b (n + 1) a p pk pv h hk hv d lk lv t fa oa t2 fa2 oa2 ch ck cv rs rk_ rv rd m mn xr yr vr cr wr wl wc rx ry mv fr H1 ∨ LOff X A_ bl bk b (n + 1) a p pk pv h hk hv d lk lv t fa oa t2 fa2 oa2 ch ck cv rs rk_ rv rd m mn xr yr vr cr wr wl wc rx ry mv fr H1 → va_S A_ sz.heap H1 locs1 → W pz l ez room_1 sz mz #[Value.ref bb] below meth cz H1 locs1 600000 7302250 Q (F0 mz 649 ls [])) : W pz l ez room_1 sz mz #[Value.ref bb] below meth cz H locs 600000 7302250 Q (F0 mz 216 ls []) := by
  obtain ⟨hx, hb, hml, hown, hts, hXs, hbl0, hK, hN, hbA⟩ := C0
  obtain ⟨hbl1, hbl, hbk, hbk2, hb1⟩ := hpar
  have hsp := pw15 hb1
  refine LOff.use hI (fun cp w wh nc f_ct f_nn f_dd f_mo e_nn e_dd e_mo f_wt f_lv f_fi f_en f_cd pkf pvf hkf hvf lkf lvf ff o ffb ob ckf cvf rkf rvf mf xf yf vf wf lf rxf ryf mvf rdf cf kf frf Hm Qm ZQ Lg K f_cp f_w f_wh f_h f_l f_t f_t2 f_m1 f_ap f_tr2 f_k f_kh f_kc hP hD => ?_)
  clear hI
  refine lv_aload_n hx hb dL_law_216 rfl (lv_at hl 1 rfl) ?_
  refine lv_aload_n hx hb dL_law_217 rfl (lv_at hl 0 rfl) ?_
  refine lv_iload_n hx hb dL_law_218 rfl (lv_at hl 3 rfl) ?_
  refine lv_iconst (v := nI 1) hx hb dL_law_219 (by decide) ?_
  refine lv_iadd hx hb dL_law_220 ?_
  refine lv_topi (fun x_1 ex_1 => ?_)
  obtain rfl : x_1 = nI (i + 1) := by
    rw [ex_1]
    exact nI_add _ _
  refine va_sld hx hb hXs hbl0 hbA hS (vp_in_nI (n := i + 1) (by omega) (by omega)) dL_law_221 ?_
  refine lv_topi (fun x_2 ex_2 => ?_)
  obtain rfl : x_2 = xs (i + 1) := by
    rw [ex_2]
    rw [nI_clamp (by omega)]
  refine lv_aload_n hx hb dL_law_222 rfl (lv_at hl 0 rfl) ?_
  refine lv_iload_n hx hb dL_law_223 rfl (lv_at hl 3 rfl) ?_
  refine lv_iconst (v := nI 2) hx hb dL_law_224 (by decide) ?_
  refine lv_iadd hx hb dL_law_225 ?_
  refine lv_topi (fun x_3 ex_3 => ?_)
  obtain rfl : x_3 = nI (i + 2) := by
    rw [ex_3]
    exact nI_add _ _
  refine va_sld hx hb hXs hbl0 hbA hS (vp_in_nI (n := i + 2) (by omega) (by omega)) dL_law_226 ?_
  refine lv_topi (fun x_4 ex_4 => ?_)
  obtain rfl : x_4 = xs (i + 2) := by
    rw [ex_4]
    rw [nI_clamp (by omega)]
  refine lv_aload_n hx hb dL_law_227 rfl (lv_at hl 0 rfl) ?_
  refine lv_iload_n hx hb dL_law_228 rfl (lv_at hl 3 rfl) ?_
  refine lv_iconst (v := nI 3) hx hb dL_law_229 (by decide) ?_
  refine lv_iadd hx hb dL_law_230 ?_
  refine lv_topi (fun x_5 ex_5 => ?_)
  obtain rfl : x_5 = nI (i + 3) := by
    rw [ex_5]
    exact nI_add _ _
  refine va_sld hx hb hXs hbl0 hbA hS (vp_in_nI (n := i + 3) (by omega) (by omega)) dL_law_231 ?_
  refine lv_topi (fun x_6 ex_6 => ?_)
  obtain rfl : x_6 = xs (i + 3) := by
    rw [ex_6]
    rw [nI_clamp (by omega)]
  refine ckVRi (As := [.int (xs (i + 1)), .int (xs (i + 2)), .int (xs (i + 3))]) (rest := []) 0 [0] (c_X5_get_off l X a d p t t2 ch rs (2 ^ b) bl bk cp f_ct (xs (i + 1)) (xs (i + 2)) (xs (i + 3))) ⟨hx, hb, hml, hown, hts⟩ (cwV 3 hts gL_law_X5_get rfl rfl rfl (by decide +kernel) ⟨Nat.le_of_ble_eq_true rfl, Nat.le_of_ble_eq_true rfl⟩) hK hN hP hD (by decide) rfl (ci := 5) rfl rfl rfl hl.1 rfl (Nat.le_of_ble_eq_true rfl) dL_law_232 ⟨lroom.1, lroom.2⟩ (fun ra ha => ?_)
  refine lv_aload_n hx hb dL_law_235 rfl (lv_at hl 2 rfl) ?_
  refine lv_aload_n hx hb dL_law_236 rfl (lv_at hl 0 rfl) ?_
  refine lv_iload_n hx hb dL_law_237 rfl (lv_at hl 3 rfl) ?_
  refine lv_iconst (v := nI 1) hx hb dL_law_238 (by decide) ?_
  refine lv_iadd hx hb dL_law_239 ?_
  refine lv_topi (fun x_7 ex_7 => ?_)
  obtain rfl : x_7 = nI (i + 1) := by
    rw [ex_7]
    exact nI_add _ _
  refine va_sld hx hb hXs hbl0 hbA hS (vp_in_nI (n := i + 1) (by omega) (by omega)) dL_law_240 ?_
  refine lv_topi (fun x_8 ex_8 => ?_)
  obtain rfl : x_8 = xs (i + 1) := by
    rw [ex_8]
    rw [nI_clamp (by omega)]
  refine lv_aload_n hx hb dL_law_241 rfl (lv_at hl 0 rfl) ?_
  refine lv_iload_n hx hb dL_law_242 rfl (lv_at hl 3 rfl) ?_
  refine lv_iconst (v := nI 2) hx hb dL_law_243 (by decide) ?_
  refine lv_iadd hx hb dL_law_244 ?_
  refine lv_topi (fun x_9 ex_9 => ?_)
  obtain rfl : x_9 = nI (i + 2) := by
    rw [ex_9]
    exact nI_add _ _
  refine va_sld hx hb hXs hbl0 hbA hS (vp_in_nI (n := i + 2) (by omega) (by omega)) dL_law_245 ?_
  refine lv_topi (fun x_10 ex_10 => ?_)
  obtain rfl : x_10 = xs (i + 2) := by
    rw [ex_10]
    rw [nI_clamp (by omega)]
  refine lv_aload_n hx hb dL_law_246 rfl (lv_at hl 0 rfl) ?_
  refine lv_iload_n hx hb dL_law_247 rfl (lv_at hl 3 rfl) ?_
  refine lv_iconst (v := nI 3) hx hb dL_law_248 (by decide) ?_
  refine lv_iadd hx hb dL_law_249 ?_
  refine lv_topi (fun x_11 ex_11 => ?_)
  obtain rfl : x_11 = nI (i + 3) := by
    rw [ex_11]
    exact nI_add _ _
  refine va_sld hx hb hXs hbl0 hbA hS (vp_in_nI (n := i + 3) (by omega) (by omega)) dL_law_250 ?_
  refine lv_topi (fun x_12 ex_12 => ?_)
  obtain rfl : x_12 = xs (i + 3) := by
    rw [ex_12]
    rw [nI_clamp (by omega)]
  refine ckVRi (As := [.int (xs (i + 1)), .int (xs (i + 2)), .int (xs (i + 3))]) (rest := [.int ra]) 0 [23] (c_X6_get_off l X m bl bk b (2 ^ b) mn xr yr vr cr wr nc wl wc rx ry mv fr f_ct f_wt f_lv f_fi f_en (nI 0) f_cd (xs (i + 1)) (xs (i + 2)) (xs (i + 3))) ⟨hx, hb, hml, hown, hts⟩ (cwV 3 hts gL_law_X6_get rfl rfl rfl (by decide +kernel) ⟨Nat.le_of_ble_eq_true rfl, Nat.le_of_ble_eq_true rfl⟩) hK hN hP hD (by decide) rfl (ci := 6) rfl rfl rfl hl.1 rfl (Nat.le_of_ble_eq_true rfl) dL_law_251 ⟨lroom.1, lroom.2⟩ (fun rb hb2 => ?_)
  have hE : ra = rb := ha.trans hb2.symm
  refine lv_icmp_eq (tgt := 649) hx hb dL_law_254 (by decide) (fun c_254 => ?_) (fun c_254 => ?_)
  · skip
    exact kk _ _ (Or.inr ⟨cp, w, wh, nc, f_ct, f_nn, f_dd, f_mo, e_nn, e_dd, e_mo, f_wt, f_lv, f_fi, f_en, f_cd, pkf, pvf, hkf, hvf, lkf, lvf, ff, o, ffb, ob, ckf, cvf, rkf, rvf, mf, xf, yf, vf, wf, lf, rxf, ryf, mvf, rdf, cf, kf, frf, Hm, Qm, ZQ, Lg, K, ⟨f_cp, (by omega), (by omega), f_h, f_l, f_t, f_t2, f_m1, f_ap, f_tr2, (by omega), f_kh, f_kc⟩, hP, hD⟩) hS
  · skip
    exact absurd hE c_254
set_option maxHeartbeats 4000000 in
set_option maxRecDepth 100000 in
theorem lw_off_window {pz : Program} {l : Launch} {ez : Env} {sz : State} {mz : MethodId} {below : List Frame} {meth : Method} {cz : Code} {X : kX} {bb L : Nat} {xs : Nat → Int32} {A_ : Nat → Prop} {bl bk b n i a p pk pv h hk hv d lk lv t fa oa t2 fa2 oa2 ch ck cv rs rk_ rv rd m mn xr yr vr cr wr wl wc rx ry mv fr : Nat} {Q : State → Prop} {H : Heap} {locs : List Loc} {ls : Array Slot} (C0 : lwc pz sz mz cz X bb L xs A_) (hpar : lpar bl bk b) (hn : n < 512) (hi : i + 6 ≤ L) (hL : L ≤ 3075) (hI : LOff X A_ bl bk b n a p pk pv h hk hv d lk lv t fa oa t2 fa2 oa2 ch ck cv rs rk_ rv rd m mn xr yr vr cr wr wl wc rx ry mv fr H) (hS : va_S A_ sz.heap H locs) (hl : lv_has ls 4 [(0, .ref bb), (1, .ref a), (2, .ref m), (3, .int (nI i))]) (kk : ∀ (H1 : Heap) (locs1 : List Loc), LOn X A_ bl bk b (n + 1) a p pk pv h hk hv d lk lv t fa oa t2 fa2 oa2 ch ck cv rs rk_ rv rd m mn xr yr vr cr wr wl wc rx ry mv fr H1 ∨ LOff X A_ bl bk b (n + 1) a p pk pv h hk hv d lk lv t fa oa t2 fa2 oa2 ch ck cv rs rk_ rv rd m mn xr yr vr cr wr wl wc rx ry mv fr H1 → va_S A_ sz.heap H1 locs1 → W pz l ez room_1 sz mz #[Value.ref bb] below meth cz H1 locs1 600000 7302250 Q (F0 mz 649 ls [])) : W pz l ez room_1 sz mz #[Value.ref bb] below meth cz H locs 600000 7302250 Q (F0 mz 259 ls []) := by
  obtain ⟨hx, hb, hml, hown, hts, hXs, hbl0, hK, hN, hbA⟩ := C0
  obtain ⟨hbl1, hbl, hbk, hbk2, hb1⟩ := hpar
  have hsp := pw15 hb1
  refine LOff.use hI (fun cp w wh nc f_ct f_nn f_dd f_mo e_nn e_dd e_mo f_wt f_lv f_fi f_en f_cd pkf pvf hkf hvf lkf lvf ff o ffb ob ckf cvf rkf rvf mf xf yf vf wf lf rxf ryf mvf rdf cf kf frf Hm Qm ZQ Lg K f_cp f_w f_wh f_h f_l f_t f_t2 f_m1 f_ap f_tr2 f_k f_kh f_kc hP hD => ?_)
  clear hI
  refine lv_aload_n hx hb dL_law_259 rfl (lv_at hl 1 rfl) ?_
  refine lv_aload_n hx hb dL_law_260 rfl (lv_at hl 0 rfl) ?_
  refine lv_iload_n hx hb dL_law_261 rfl (lv_at hl 3 rfl) ?_
  refine lv_iconst (v := nI 1) hx hb dL_law_262 (by decide) ?_
  refine lv_iadd hx hb dL_law_263 ?_
  refine lv_topi (fun x_1 ex_1 => ?_)
  obtain rfl : x_1 = nI (i + 1) := by
    rw [ex_1]
    exact nI_add _ _
  refine va_sld hx hb hXs hbl0 hbA hS (vp_in_nI (n := i + 1) (by omega) (by omega)) dL_law_264 ?_
  refine lv_topi (fun x_2 ex_2 => ?_)
  obtain rfl : x_2 = xs (i + 1) := by
    rw [ex_2]
    rw [nI_clamp (by omega)]
  refine lv_aload_n hx hb dL_law_265 rfl (lv_at hl 0 rfl) ?_
  refine lv_iload_n hx hb dL_law_266 rfl (lv_at hl 3 rfl) ?_
  refine lv_iconst (v := nI 2) hx hb dL_law_267 (by decide) ?_
  refine lv_iadd hx hb dL_law_268 ?_
  refine lv_topi (fun x_3 ex_3 => ?_)
  obtain rfl : x_3 = nI (i + 2) := by
    rw [ex_3]
    exact nI_add _ _
  refine va_sld hx hb hXs hbl0 hbA hS (vp_in_nI (n := i + 2) (by omega) (by omega)) dL_law_269 ?_
  refine lv_topi (fun x_4 ex_4 => ?_)
  obtain rfl : x_4 = xs (i + 2) := by
    rw [ex_4]
    rw [nI_clamp (by omega)]
  refine lv_aload_n hx hb dL_law_270 rfl (lv_at hl 0 rfl) ?_
  refine lv_iload_n hx hb dL_law_271 rfl (lv_at hl 3 rfl) ?_
  refine lv_iconst (v := nI 3) hx hb dL_law_272 (by decide) ?_
  refine lv_iadd hx hb dL_law_273 ?_
  refine lv_topi (fun x_5 ex_5 => ?_)
  obtain rfl : x_5 = nI (i + 3) := by
    rw [ex_5]
    exact nI_add _ _
  refine va_sld hx hb hXs hbl0 hbA hS (vp_in_nI (n := i + 3) (by omega) (by omega)) dL_law_274 ?_
  refine lv_topi (fun x_6 ex_6 => ?_)
  obtain rfl : x_6 = xs (i + 3) := by
    rw [ex_6]
    rw [nI_clamp (by omega)]
  refine lv_aload_n hx hb dL_law_275 rfl (lv_at hl 0 rfl) ?_
  refine lv_iload_n hx hb dL_law_276 rfl (lv_at hl 3 rfl) ?_
  refine lv_iconst (v := nI 4) hx hb dL_law_277 (by decide) ?_
  refine lv_iadd hx hb dL_law_278 ?_
  refine lv_topi (fun x_7 ex_7 => ?_)
  obtain rfl : x_7 = nI (i + 4) := by
    rw [ex_7]
    exact nI_add _ _
  refine va_sld hx hb hXs hbl0 hbA hS (vp_in_nI (n := i + 4) (by omega) (by omega)) dL_law_279 ?_
  refine lv_topi (fun x_8 ex_8 => ?_)
  obtain rfl : x_8 = xs (i + 4) := by
    rw [ex_8]
    rw [nI_clamp (by omega)]
  refine lv_aload_n hx hb dL_law_280 rfl (lv_at hl 0 rfl) ?_
  refine lv_iload_n hx hb dL_law_281 rfl (lv_at hl 3 rfl) ?_
  refine lv_iconst (v := nI 5) hx hb dL_law_282 (by decide) ?_
  refine lv_iadd hx hb dL_law_283 ?_
  refine lv_topi (fun x_9 ex_9 => ?_)
  obtain rfl : x_9 = nI (i + 5) := by
    rw [ex_9]
    exact nI_add _ _
  refine va_sld hx hb hXs hbl0 hbA hS (vp_in_nI (n := i + 5) (by omega) (by omega)) dL_law_284 ?_
  refine lv_topi (fun x_10 ex_10 => ?_)
  obtain rfl : x_10 = xs (i + 5) := by
    rw [ex_10]
    rw [nI_clamp (by omega)]
  refine ckVRi (As := [.int (xs (i + 1)), .int (xs (i + 2)), .int (xs (i + 3)), .int (xs (i + 4)), .int (xs (i + 5))]) (rest := []) 0 [0] (c_X5_window_off l X a d p t t2 ch rs (2 ^ b) bl bk cp f_ct (xs (i + 1)) (xs (i + 2)) (xs (i + 3)) (xs (i + 4)) (xs (i + 5))) ⟨hx, hb, hml, hown, hts⟩ (cwV 5 hts gL_law_X5_window rfl rfl rfl (by decide +kernel) ⟨Nat.le_of_ble_eq_true rfl, Nat.le_of_ble_eq_true rfl⟩) hK hN hP hD (by decide) rfl (ci := 5) rfl rfl rfl hl.1 rfl (Nat.le_of_ble_eq_true rfl) dL_law_285 ⟨lroom.1, lroom.2⟩ (fun ra ha => ?_)
  refine lv_aload_n hx hb dL_law_288 rfl (lv_at hl 2 rfl) ?_
  refine lv_aload_n hx hb dL_law_289 rfl (lv_at hl 0 rfl) ?_
  refine lv_iload_n hx hb dL_law_290 rfl (lv_at hl 3 rfl) ?_
  refine lv_iconst (v := nI 1) hx hb dL_law_291 (by decide) ?_
  refine lv_iadd hx hb dL_law_292 ?_
  refine lv_topi (fun x_11 ex_11 => ?_)
  obtain rfl : x_11 = nI (i + 1) := by
    rw [ex_11]
    exact nI_add _ _
  refine va_sld hx hb hXs hbl0 hbA hS (vp_in_nI (n := i + 1) (by omega) (by omega)) dL_law_293 ?_
  refine lv_topi (fun x_12 ex_12 => ?_)
  obtain rfl : x_12 = xs (i + 1) := by
    rw [ex_12]
    rw [nI_clamp (by omega)]
  refine lv_aload_n hx hb dL_law_294 rfl (lv_at hl 0 rfl) ?_
  refine lv_iload_n hx hb dL_law_295 rfl (lv_at hl 3 rfl) ?_
  refine lv_iconst (v := nI 2) hx hb dL_law_296 (by decide) ?_
  refine lv_iadd hx hb dL_law_297 ?_
  refine lv_topi (fun x_13 ex_13 => ?_)
  obtain rfl : x_13 = nI (i + 2) := by
    rw [ex_13]
    exact nI_add _ _
  refine va_sld hx hb hXs hbl0 hbA hS (vp_in_nI (n := i + 2) (by omega) (by omega)) dL_law_298 ?_
  refine lv_topi (fun x_14 ex_14 => ?_)
  obtain rfl : x_14 = xs (i + 2) := by
    rw [ex_14]
    rw [nI_clamp (by omega)]
  refine lv_aload_n hx hb dL_law_299 rfl (lv_at hl 0 rfl) ?_
  refine lv_iload_n hx hb dL_law_300 rfl (lv_at hl 3 rfl) ?_
  refine lv_iconst (v := nI 3) hx hb dL_law_301 (by decide) ?_
  refine lv_iadd hx hb dL_law_302 ?_
  refine lv_topi (fun x_15 ex_15 => ?_)
  obtain rfl : x_15 = nI (i + 3) := by
    rw [ex_15]
    exact nI_add _ _
  refine va_sld hx hb hXs hbl0 hbA hS (vp_in_nI (n := i + 3) (by omega) (by omega)) dL_law_303 ?_
  refine lv_topi (fun x_16 ex_16 => ?_)
  obtain rfl : x_16 = xs (i + 3) := by
    rw [ex_16]
    rw [nI_clamp (by omega)]
  refine lv_aload_n hx hb dL_law_304 rfl (lv_at hl 0 rfl) ?_
  refine lv_iload_n hx hb dL_law_305 rfl (lv_at hl 3 rfl) ?_
  refine lv_iconst (v := nI 4) hx hb dL_law_306 (by decide) ?_
  refine lv_iadd hx hb dL_law_307 ?_
  refine lv_topi (fun x_17 ex_17 => ?_)
  obtain rfl : x_17 = nI (i + 4) := by
    rw [ex_17]
    exact nI_add _ _
  refine va_sld hx hb hXs hbl0 hbA hS (vp_in_nI (n := i + 4) (by omega) (by omega)) dL_law_308 ?_
  refine lv_topi (fun x_18 ex_18 => ?_)
  obtain rfl : x_18 = xs (i + 4) := by
    rw [ex_18]
    rw [nI_clamp (by omega)]
  refine lv_aload_n hx hb dL_law_309 rfl (lv_at hl 0 rfl) ?_
  refine lv_iload_n hx hb dL_law_310 rfl (lv_at hl 3 rfl) ?_
  refine lv_iconst (v := nI 5) hx hb dL_law_311 (by decide) ?_
  refine lv_iadd hx hb dL_law_312 ?_
  refine lv_topi (fun x_19 ex_19 => ?_)
  obtain rfl : x_19 = nI (i + 5) := by
    rw [ex_19]
    exact nI_add _ _
  refine va_sld hx hb hXs hbl0 hbA hS (vp_in_nI (n := i + 5) (by omega) (by omega)) dL_law_313 ?_
  refine lv_topi (fun x_20 ex_20 => ?_)
  obtain rfl : x_20 = xs (i + 5) := by
    rw [ex_20]
    rw [nI_clamp (by omega)]
  refine ckVRi (As := [.int (xs (i + 1)), .int (xs (i + 2)), .int (xs (i + 3)), .int (xs (i + 4)), .int (xs (i + 5))]) (rest := [.int ra]) 0 [23] (c_X6_window_off l X m bl bk b (2 ^ b) mn xr yr vr cr wr nc wl wc rx ry mv fr f_ct f_wt f_lv f_fi f_en (nI 0) f_cd (xs (i + 1)) (xs (i + 2)) (xs (i + 3)) (xs (i + 4)) (xs (i + 5))) ⟨hx, hb, hml, hown, hts⟩ (cwV 5 hts gL_law_X6_window rfl rfl rfl (by decide +kernel) ⟨Nat.le_of_ble_eq_true rfl, Nat.le_of_ble_eq_true rfl⟩) hK hN hP hD (by decide) rfl (ci := 6) rfl rfl rfl hl.1 rfl (Nat.le_of_ble_eq_true rfl) dL_law_314 ⟨lroom.1, lroom.2⟩ (fun rb hb2 => ?_)
  have hE : ra = rb := ha.trans hb2.symm
  refine lv_icmp_eq (tgt := 649) hx hb dL_law_317 (by decide) (fun c_317 => ?_) (fun c_317 => ?_)
  · skip
    exact kk _ _ (Or.inr ⟨cp, w, wh, nc, f_ct, f_nn, f_dd, f_mo, e_nn, e_dd, e_mo, f_wt, f_lv, f_fi, f_en, f_cd, pkf, pvf, hkf, hvf, lkf, lvf, ff, o, ffb, ob, ckf, cvf, rkf, rvf, mf, xf, yf, vf, wf, lf, rxf, ryf, mvf, rdf, cf, kf, frf, Hm, Qm, ZQ, Lg, K, ⟨f_cp, (by omega), (by omega), f_h, f_l, f_t, f_t2, f_m1, f_ap, f_tr2, (by omega), f_kh, f_kc⟩, hP, hD⟩) hS
  · skip
    exact absurd hE c_317
set_option maxHeartbeats 4000000 in
set_option maxRecDepth 100000 in
theorem lw_off_nearest {pz : Program} {l : Launch} {ez : Env} {sz : State} {mz : MethodId} {below : List Frame} {meth : Method} {cz : Code} {X : kX} {bb L : Nat} {xs : Nat → Int32} {A_ : Nat → Prop} {bl bk b n i a p pk pv h hk hv d lk lv t fa oa t2 fa2 oa2 ch ck cv rs rk_ rv rd m mn xr yr vr cr wr wl wc rx ry mv fr : Nat} {Q : State → Prop} {H : Heap} {locs : List Loc} {ls : Array Slot} (C0 : lwc pz sz mz cz X bb L xs A_) (hpar : lpar bl bk b) (hn : n < 512) (hi : i + 6 ≤ L) (hL : L ≤ 3075) (hI : LOff X A_ bl bk b n a p pk pv h hk hv d lk lv t fa oa t2 fa2 oa2 ch ck cv rs rk_ rv rd m mn xr yr vr cr wr wl wc rx ry mv fr H) (hS : va_S A_ sz.heap H locs) (hl : lv_has ls 4 [(0, .ref bb), (1, .ref a), (2, .ref m), (3, .int (nI i))]) (kk : ∀ (H1 : Heap) (locs1 : List Loc), LOn X A_ bl bk b (n + 1) a p pk pv h hk hv d lk lv t fa oa t2 fa2 oa2 ch ck cv rs rk_ rv rd m mn xr yr vr cr wr wl wc rx ry mv fr H1 ∨ LOff X A_ bl bk b (n + 1) a p pk pv h hk hv d lk lv t fa oa t2 fa2 oa2 ch ck cv rs rk_ rv rd m mn xr yr vr cr wr wl wc rx ry mv fr H1 → va_S A_ sz.heap H1 locs1 → W pz l ez room_1 sz mz #[Value.ref bb] below meth cz H1 locs1 600000 7302250 Q (F0 mz 649 ls [])) : W pz l ez room_1 sz mz #[Value.ref bb] below meth cz H locs 600000 7302250 Q (F0 mz 322 ls []) := by
  obtain ⟨hx, hb, hml, hown, hts, hXs, hbl0, hK, hN, hbA⟩ := C0
  obtain ⟨hbl1, hbl, hbk, hbk2, hb1⟩ := hpar
  have hsp := pw15 hb1
  refine LOff.use hI (fun cp w wh nc f_ct f_nn f_dd f_mo e_nn e_dd e_mo f_wt f_lv f_fi f_en f_cd pkf pvf hkf hvf lkf lvf ff o ffb ob ckf cvf rkf rvf mf xf yf vf wf lf rxf ryf mvf rdf cf kf frf Hm Qm ZQ Lg K f_cp f_w f_wh f_h f_l f_t f_t2 f_m1 f_ap f_tr2 f_k f_kh f_kc hP hD => ?_)
  clear hI
  refine lv_aload_n hx hb dL_law_322 rfl (lv_at hl 1 rfl) ?_
  refine lv_aload_n hx hb dL_law_323 rfl (lv_at hl 0 rfl) ?_
  refine lv_iload_n hx hb dL_law_324 rfl (lv_at hl 3 rfl) ?_
  refine lv_iconst (v := nI 1) hx hb dL_law_325 (by decide) ?_
  refine lv_iadd hx hb dL_law_326 ?_
  refine lv_topi (fun x_1 ex_1 => ?_)
  obtain rfl : x_1 = nI (i + 1) := by
    rw [ex_1]
    exact nI_add _ _
  refine va_sld hx hb hXs hbl0 hbA hS (vp_in_nI (n := i + 1) (by omega) (by omega)) dL_law_327 ?_
  refine lv_topi (fun x_2 ex_2 => ?_)
  obtain rfl : x_2 = xs (i + 1) := by
    rw [ex_2]
    rw [nI_clamp (by omega)]
  refine lv_aload_n hx hb dL_law_328 rfl (lv_at hl 0 rfl) ?_
  refine lv_iload_n hx hb dL_law_329 rfl (lv_at hl 3 rfl) ?_
  refine lv_iconst (v := nI 2) hx hb dL_law_330 (by decide) ?_
  refine lv_iadd hx hb dL_law_331 ?_
  refine lv_topi (fun x_3 ex_3 => ?_)
  obtain rfl : x_3 = nI (i + 2) := by
    rw [ex_3]
    exact nI_add _ _
  refine va_sld hx hb hXs hbl0 hbA hS (vp_in_nI (n := i + 2) (by omega) (by omega)) dL_law_332 ?_
  refine lv_topi (fun x_4 ex_4 => ?_)
  obtain rfl : x_4 = xs (i + 2) := by
    rw [ex_4]
    rw [nI_clamp (by omega)]
  refine lv_aload_n hx hb dL_law_333 rfl (lv_at hl 0 rfl) ?_
  refine lv_iload_n hx hb dL_law_334 rfl (lv_at hl 3 rfl) ?_
  refine lv_iconst (v := nI 3) hx hb dL_law_335 (by decide) ?_
  refine lv_iadd hx hb dL_law_336 ?_
  refine lv_topi (fun x_5 ex_5 => ?_)
  obtain rfl : x_5 = nI (i + 3) := by
    rw [ex_5]
    exact nI_add _ _
  refine va_sld hx hb hXs hbl0 hbA hS (vp_in_nI (n := i + 3) (by omega) (by omega)) dL_law_337 ?_
  refine lv_topi (fun x_6 ex_6 => ?_)
  obtain rfl : x_6 = xs (i + 3) := by
    rw [ex_6]
    rw [nI_clamp (by omega)]
  refine lv_aload_n hx hb dL_law_338 rfl (lv_at hl 0 rfl) ?_
  refine lv_iload_n hx hb dL_law_339 rfl (lv_at hl 3 rfl) ?_
  refine lv_iconst (v := nI 4) hx hb dL_law_340 (by decide) ?_
  refine lv_iadd hx hb dL_law_341 ?_
  refine lv_topi (fun x_7 ex_7 => ?_)
  obtain rfl : x_7 = nI (i + 4) := by
    rw [ex_7]
    exact nI_add _ _
  refine va_sld hx hb hXs hbl0 hbA hS (vp_in_nI (n := i + 4) (by omega) (by omega)) dL_law_342 ?_
  refine lv_topi (fun x_8 ex_8 => ?_)
  obtain rfl : x_8 = xs (i + 4) := by
    rw [ex_8]
    rw [nI_clamp (by omega)]
  refine ckVRi (As := [.int (xs (i + 1)), .int (xs (i + 2)), .int (xs (i + 3)), .int (xs (i + 4))]) (rest := []) 0 [0] (c_X5_nearest_off l X a d p t t2 ch rs (2 ^ b) bl bk cp f_ct (xs (i + 1)) (xs (i + 2)) (xs (i + 3)) (xs (i + 4))) ⟨hx, hb, hml, hown, hts⟩ (cwV 4 hts gL_law_X5_nearest rfl rfl rfl (by decide +kernel) ⟨Nat.le_of_ble_eq_true rfl, Nat.le_of_ble_eq_true rfl⟩) hK hN hP hD (by decide) rfl (ci := 5) rfl rfl rfl hl.1 rfl (Nat.le_of_ble_eq_true rfl) dL_law_343 ⟨lroom.1, lroom.2⟩ (fun ra ha => ?_)
  refine lv_aload_n hx hb dL_law_346 rfl (lv_at hl 2 rfl) ?_
  refine lv_aload_n hx hb dL_law_347 rfl (lv_at hl 0 rfl) ?_
  refine lv_iload_n hx hb dL_law_348 rfl (lv_at hl 3 rfl) ?_
  refine lv_iconst (v := nI 1) hx hb dL_law_349 (by decide) ?_
  refine lv_iadd hx hb dL_law_350 ?_
  refine lv_topi (fun x_9 ex_9 => ?_)
  obtain rfl : x_9 = nI (i + 1) := by
    rw [ex_9]
    exact nI_add _ _
  refine va_sld hx hb hXs hbl0 hbA hS (vp_in_nI (n := i + 1) (by omega) (by omega)) dL_law_351 ?_
  refine lv_topi (fun x_10 ex_10 => ?_)
  obtain rfl : x_10 = xs (i + 1) := by
    rw [ex_10]
    rw [nI_clamp (by omega)]
  refine lv_aload_n hx hb dL_law_352 rfl (lv_at hl 0 rfl) ?_
  refine lv_iload_n hx hb dL_law_353 rfl (lv_at hl 3 rfl) ?_
  refine lv_iconst (v := nI 2) hx hb dL_law_354 (by decide) ?_
  refine lv_iadd hx hb dL_law_355 ?_
  refine lv_topi (fun x_11 ex_11 => ?_)
  obtain rfl : x_11 = nI (i + 2) := by
    rw [ex_11]
    exact nI_add _ _
  refine va_sld hx hb hXs hbl0 hbA hS (vp_in_nI (n := i + 2) (by omega) (by omega)) dL_law_356 ?_
  refine lv_topi (fun x_12 ex_12 => ?_)
  obtain rfl : x_12 = xs (i + 2) := by
    rw [ex_12]
    rw [nI_clamp (by omega)]
  refine lv_aload_n hx hb dL_law_357 rfl (lv_at hl 0 rfl) ?_
  refine lv_iload_n hx hb dL_law_358 rfl (lv_at hl 3 rfl) ?_
  refine lv_iconst (v := nI 3) hx hb dL_law_359 (by decide) ?_
  refine lv_iadd hx hb dL_law_360 ?_
  refine lv_topi (fun x_13 ex_13 => ?_)
  obtain rfl : x_13 = nI (i + 3) := by
    rw [ex_13]
    exact nI_add _ _
  refine va_sld hx hb hXs hbl0 hbA hS (vp_in_nI (n := i + 3) (by omega) (by omega)) dL_law_361 ?_
  refine lv_topi (fun x_14 ex_14 => ?_)
  obtain rfl : x_14 = xs (i + 3) := by
    rw [ex_14]
    rw [nI_clamp (by omega)]
  refine lv_aload_n hx hb dL_law_362 rfl (lv_at hl 0 rfl) ?_
  refine lv_iload_n hx hb dL_law_363 rfl (lv_at hl 3 rfl) ?_
  refine lv_iconst (v := nI 4) hx hb dL_law_364 (by decide) ?_
  refine lv_iadd hx hb dL_law_365 ?_
  refine lv_topi (fun x_15 ex_15 => ?_)
  obtain rfl : x_15 = nI (i + 4) := by
    rw [ex_15]
    exact nI_add _ _
  refine va_sld hx hb hXs hbl0 hbA hS (vp_in_nI (n := i + 4) (by omega) (by omega)) dL_law_366 ?_
  refine lv_topi (fun x_16 ex_16 => ?_)
  obtain rfl : x_16 = xs (i + 4) := by
    rw [ex_16]
    rw [nI_clamp (by omega)]
  refine ckVRi (As := [.int (xs (i + 1)), .int (xs (i + 2)), .int (xs (i + 3)), .int (xs (i + 4))]) (rest := [.int ra]) 0 [23] (c_X6_nearest_off l X m bl bk b (2 ^ b) mn xr yr vr cr wr nc wl wc rx ry mv fr f_ct f_wt f_lv f_fi f_en (nI 0) f_cd (xs (i + 1)) (xs (i + 2)) (xs (i + 3)) (xs (i + 4))) ⟨hx, hb, hml, hown, hts⟩ (cwV 4 hts gL_law_X6_nearest rfl rfl rfl (by decide +kernel) ⟨Nat.le_of_ble_eq_true rfl, Nat.le_of_ble_eq_true rfl⟩) hK hN hP hD (by decide) rfl (ci := 6) rfl rfl rfl hl.1 rfl (Nat.le_of_ble_eq_true rfl) dL_law_367 ⟨lroom.1, lroom.2⟩ (fun rb hb2 => ?_)
  have hE : ra = rb := ha.trans hb2.symm
  refine lv_icmp_eq (tgt := 649) hx hb dL_law_370 (by decide) (fun c_370 => ?_) (fun c_370 => ?_)
  · skip
    exact kk _ _ (Or.inr ⟨cp, w, wh, nc, f_ct, f_nn, f_dd, f_mo, e_nn, e_dd, e_mo, f_wt, f_lv, f_fi, f_en, f_cd, pkf, pvf, hkf, hvf, lkf, lvf, ff, o, ffb, ob, ckf, cvf, rkf, rvf, mf, xf, yf, vf, wf, lf, rxf, ryf, mvf, rdf, cf, kf, frf, Hm, Qm, ZQ, Lg, K, ⟨f_cp, (by omega), (by omega), f_h, f_l, f_t, f_t2, f_m1, f_ap, f_tr2, (by omega), f_kh, f_kc⟩, hP, hD⟩) hS
  · skip
    exact absurd hE c_370
set_option maxHeartbeats 4000000 in
set_option maxRecDepth 100000 in
theorem lw_off_differs {pz : Program} {l : Launch} {ez : Env} {sz : State} {mz : MethodId} {below : List Frame} {meth : Method} {cz : Code} {X : kX} {bb L : Nat} {xs : Nat → Int32} {A_ : Nat → Prop} {bl bk b n i a p pk pv h hk hv d lk lv t fa oa t2 fa2 oa2 ch ck cv rs rk_ rv rd m mn xr yr vr cr wr wl wc rx ry mv fr : Nat} {Q : State → Prop} {H : Heap} {locs : List Loc} {ls : Array Slot} (C0 : lwc pz sz mz cz X bb L xs A_) (hpar : lpar bl bk b) (hn : n < 512) (hi : i + 6 ≤ L) (hL : L ≤ 3075) (hI : LOff X A_ bl bk b n a p pk pv h hk hv d lk lv t fa oa t2 fa2 oa2 ch ck cv rs rk_ rv rd m mn xr yr vr cr wr wl wc rx ry mv fr H) (hS : va_S A_ sz.heap H locs) (hl : lv_has ls 4 [(0, .ref bb), (1, .ref a), (2, .ref m), (3, .int (nI i))]) (kk : ∀ (H1 : Heap) (locs1 : List Loc), LOn X A_ bl bk b (n + 1) a p pk pv h hk hv d lk lv t fa oa t2 fa2 oa2 ch ck cv rs rk_ rv rd m mn xr yr vr cr wr wl wc rx ry mv fr H1 ∨ LOff X A_ bl bk b (n + 1) a p pk pv h hk hv d lk lv t fa oa t2 fa2 oa2 ch ck cv rs rk_ rv rd m mn xr yr vr cr wr wl wc rx ry mv fr H1 → va_S A_ sz.heap H1 locs1 → W pz l ez room_1 sz mz #[Value.ref bb] below meth cz H1 locs1 600000 7302250 Q (F0 mz 649 ls [])) : W pz l ez room_1 sz mz #[Value.ref bb] below meth cz H locs 600000 7302250 Q (F0 mz 375 ls []) := by
  obtain ⟨hx, hb, hml, hown, hts, hXs, hbl0, hK, hN, hbA⟩ := C0
  obtain ⟨hbl1, hbl, hbk, hbk2, hb1⟩ := hpar
  have hsp := pw15 hb1
  refine LOff.use hI (fun cp w wh nc f_ct f_nn f_dd f_mo e_nn e_dd e_mo f_wt f_lv f_fi f_en f_cd pkf pvf hkf hvf lkf lvf ff o ffb ob ckf cvf rkf rvf mf xf yf vf wf lf rxf ryf mvf rdf cf kf frf Hm Qm ZQ Lg K f_cp f_w f_wh f_h f_l f_t f_t2 f_m1 f_ap f_tr2 f_k f_kh f_kc hP hD => ?_)
  clear hI
  refine lv_aload_n hx hb dL_law_375 rfl (lv_at hl 1 rfl) ?_
  refine ckVRi (As := []) (rest := []) 0 [0] (c_X5_differs_off l X a d p t t2 ch rs (2 ^ b) bl bk cp f_ct) ⟨hx, hb, hml, hown, hts⟩ (cwV 0 hts gL_law_X5_differs rfl rfl rfl (by decide +kernel) ⟨Nat.le_of_ble_eq_true rfl, Nat.le_of_ble_eq_true rfl⟩) hK hN hP hD (by decide) rfl (ci := 5) rfl rfl rfl hl.1 rfl (Nat.le_of_ble_eq_true rfl) dL_law_376 ⟨lroom.1, lroom.2⟩ (fun ra ha => ?_)
  refine lv_aload_n hx hb dL_law_379 rfl (lv_at hl 2 rfl) ?_
  refine ckVRi (As := []) (rest := [.int ra]) 0 [23] (c_X6_differs_off l X m bl bk b (2 ^ b) mn xr yr vr cr wr nc wl wc rx ry mv fr f_ct f_wt f_lv f_fi f_en (nI 0) f_cd) ⟨hx, hb, hml, hown, hts⟩ (cwV 0 hts gL_law_X6_differs rfl rfl rfl (by decide +kernel) ⟨Nat.le_of_ble_eq_true rfl, Nat.le_of_ble_eq_true rfl⟩) hK hN hP hD (by decide) rfl (ci := 6) rfl rfl rfl hl.1 rfl (Nat.le_of_ble_eq_true rfl) dL_law_380 ⟨lroom.1, lroom.2⟩ (fun rb hb2 => ?_)
  have hE : ra = rb := ha.trans hb2.symm
  refine lv_icmp_eq (tgt := 649) hx hb dL_law_383 (by decide) (fun c_383 => ?_) (fun c_383 => ?_)
  · skip
    exact kk _ _ (Or.inr ⟨cp, w, wh, nc, f_ct, f_nn, f_dd, f_mo, e_nn, e_dd, e_mo, f_wt, f_lv, f_fi, f_en, f_cd, pkf, pvf, hkf, hvf, lkf, lvf, ff, o, ffb, ob, ckf, cvf, rkf, rvf, mf, xf, yf, vf, wf, lf, rxf, ryf, mvf, rdf, cf, kf, frf, Hm, Qm, ZQ, Lg, K, ⟨f_cp, (by omega), (by omega), f_h, f_l, f_t, f_t2, f_m1, f_ap, f_tr2, (by omega), f_kh, f_kc⟩, hP, hD⟩) hS
  · skip
    exact absurd hE c_383
set_option maxHeartbeats 4000000 in
set_option maxRecDepth 100000 in
theorem lw_off_sum {pz : Program} {l : Launch} {ez : Env} {sz : State} {mz : MethodId} {below : List Frame} {meth : Method} {cz : Code} {X : kX} {bb L : Nat} {xs : Nat → Int32} {A_ : Nat → Prop} {bl bk b n i a p pk pv h hk hv d lk lv t fa oa t2 fa2 oa2 ch ck cv rs rk_ rv rd m mn xr yr vr cr wr wl wc rx ry mv fr : Nat} {Q : State → Prop} {H : Heap} {locs : List Loc} {ls : Array Slot} (C0 : lwc pz sz mz cz X bb L xs A_) (hpar : lpar bl bk b) (hn : n < 512) (hi : i + 6 ≤ L) (hL : L ≤ 3075) (hI : LOff X A_ bl bk b n a p pk pv h hk hv d lk lv t fa oa t2 fa2 oa2 ch ck cv rs rk_ rv rd m mn xr yr vr cr wr wl wc rx ry mv fr H) (hS : va_S A_ sz.heap H locs) (hl : lv_has ls 4 [(0, .ref bb), (1, .ref a), (2, .ref m), (3, .int (nI i))]) (kk : ∀ (H1 : Heap) (locs1 : List Loc), LOn X A_ bl bk b (n + 1) a p pk pv h hk hv d lk lv t fa oa t2 fa2 oa2 ch ck cv rs rk_ rv rd m mn xr yr vr cr wr wl wc rx ry mv fr H1 ∨ LOff X A_ bl bk b (n + 1) a p pk pv h hk hv d lk lv t fa oa t2 fa2 oa2 ch ck cv rs rk_ rv rd m mn xr yr vr cr wr wl wc rx ry mv fr H1 → va_S A_ sz.heap H1 locs1 → W pz l ez room_1 sz mz #[Value.ref bb] below meth cz H1 locs1 600000 7302250 Q (F0 mz 649 ls [])) : W pz l ez room_1 sz mz #[Value.ref bb] below meth cz H locs 600000 7302250 Q (F0 mz 434 ls []) := by
  obtain ⟨hx, hb, hml, hown, hts, hXs, hbl0, hK, hN, hbA⟩ := C0
  obtain ⟨hbl1, hbl, hbk, hbk2, hb1⟩ := hpar
  have hsp := pw15 hb1
  refine LOff.use hI (fun cp w wh nc f_ct f_nn f_dd f_mo e_nn e_dd e_mo f_wt f_lv f_fi f_en f_cd pkf pvf hkf hvf lkf lvf ff o ffb ob ckf cvf rkf rvf mf xf yf vf wf lf rxf ryf mvf rdf cf kf frf Hm Qm ZQ Lg K f_cp f_w f_wh f_h f_l f_t f_t2 f_m1 f_ap f_tr2 f_k f_kh f_kc hP hD => ?_)
  clear hI
  refine lv_aload_n hx hb dL_law_434 rfl (lv_at hl 1 rfl) ?_
  refine lv_aload_n hx hb dL_law_435 rfl (lv_at hl 0 rfl) ?_
  refine lv_iload_n hx hb dL_law_436 rfl (lv_at hl 3 rfl) ?_
  refine lv_iconst (v := nI 1) hx hb dL_law_437 (by decide) ?_
  refine lv_iadd hx hb dL_law_438 ?_
  refine lv_topi (fun x_1 ex_1 => ?_)
  obtain rfl : x_1 = nI (i + 1) := by
    rw [ex_1]
    exact nI_add _ _
  refine va_sld hx hb hXs hbl0 hbA hS (vp_in_nI (n := i + 1) (by omega) (by omega)) dL_law_439 ?_
  refine lv_topi (fun x_2 ex_2 => ?_)
  obtain rfl : x_2 = xs (i + 1) := by
    rw [ex_2]
    rw [nI_clamp (by omega)]
  refine lv_aload_n hx hb dL_law_440 rfl (lv_at hl 0 rfl) ?_
  refine lv_iload_n hx hb dL_law_441 rfl (lv_at hl 3 rfl) ?_
  refine lv_iconst (v := nI 2) hx hb dL_law_442 (by decide) ?_
  refine lv_iadd hx hb dL_law_443 ?_
  refine lv_topi (fun x_3 ex_3 => ?_)
  obtain rfl : x_3 = nI (i + 2) := by
    rw [ex_3]
    exact nI_add _ _
  refine va_sld hx hb hXs hbl0 hbA hS (vp_in_nI (n := i + 2) (by omega) (by omega)) dL_law_444 ?_
  refine lv_topi (fun x_4 ex_4 => ?_)
  obtain rfl : x_4 = xs (i + 2) := by
    rw [ex_4]
    rw [nI_clamp (by omega)]
  refine lv_aload_n hx hb dL_law_445 rfl (lv_at hl 0 rfl) ?_
  refine lv_iload_n hx hb dL_law_446 rfl (lv_at hl 3 rfl) ?_
  refine lv_iconst (v := nI 3) hx hb dL_law_447 (by decide) ?_
  refine lv_iadd hx hb dL_law_448 ?_
  refine lv_topi (fun x_5 ex_5 => ?_)
  obtain rfl : x_5 = nI (i + 3) := by
    rw [ex_5]
    exact nI_add _ _
  refine va_sld hx hb hXs hbl0 hbA hS (vp_in_nI (n := i + 3) (by omega) (by omega)) dL_law_449 ?_
  refine lv_topi (fun x_6 ex_6 => ?_)
  obtain rfl : x_6 = xs (i + 3) := by
    rw [ex_6]
    rw [nI_clamp (by omega)]
  refine lv_aload_n hx hb dL_law_450 rfl (lv_at hl 0 rfl) ?_
  refine lv_iload_n hx hb dL_law_451 rfl (lv_at hl 3 rfl) ?_
  refine lv_iconst (v := nI 4) hx hb dL_law_452 (by decide) ?_
  refine lv_iadd hx hb dL_law_453 ?_
  refine lv_topi (fun x_7 ex_7 => ?_)
  obtain rfl : x_7 = nI (i + 4) := by
    rw [ex_7]
    exact nI_add _ _
  refine va_sld hx hb hXs hbl0 hbA hS (vp_in_nI (n := i + 4) (by omega) (by omega)) dL_law_454 ?_
  refine lv_topi (fun x_8 ex_8 => ?_)
  obtain rfl : x_8 = xs (i + 4) := by
    rw [ex_8]
    rw [nI_clamp (by omega)]
  refine lv_aload_n hx hb dL_law_455 rfl (lv_at hl 0 rfl) ?_
  refine lv_iload_n hx hb dL_law_456 rfl (lv_at hl 3 rfl) ?_
  refine lv_iconst (v := nI 5) hx hb dL_law_457 (by decide) ?_
  refine lv_iadd hx hb dL_law_458 ?_
  refine lv_topi (fun x_9 ex_9 => ?_)
  obtain rfl : x_9 = nI (i + 5) := by
    rw [ex_9]
    exact nI_add _ _
  refine va_sld hx hb hXs hbl0 hbA hS (vp_in_nI (n := i + 5) (by omega) (by omega)) dL_law_459 ?_
  refine lv_topi (fun x_10 ex_10 => ?_)
  obtain rfl : x_10 = xs (i + 5) := by
    rw [ex_10]
    rw [nI_clamp (by omega)]
  refine ckVRl (As := [.int (xs (i + 1)), .int (xs (i + 2)), .int (xs (i + 3)), .int (xs (i + 4)), .int (xs (i + 5))]) (rest := []) 0 [0] (c_X5_sum_off l X a d p t t2 ch rs (2 ^ b) bl bk cp f_ct (xs (i + 1)) (xs (i + 2)) (xs (i + 3)) (xs (i + 4)) (xs (i + 5))) ⟨hx, hb, hml, hown, hts⟩ (cwV 5 hts gL_law_X5_sum rfl rfl rfl (by decide +kernel) ⟨Nat.le_of_ble_eq_true rfl, Nat.le_of_ble_eq_true rfl⟩) hK hN hP hD (by decide) rfl (ci := 5) rfl rfl rfl hl.1 rfl (Nat.le_of_ble_eq_true rfl) dL_law_460 ⟨lroom.1, lroom.2⟩ (fun ra ha => ?_)
  refine lv_aload_n hx hb dL_law_463 rfl (lv_at hl 2 rfl) ?_
  refine lv_aload_n hx hb dL_law_464 rfl (lv_at hl 0 rfl) ?_
  refine lv_iload_n hx hb dL_law_465 rfl (lv_at hl 3 rfl) ?_
  refine lv_iconst (v := nI 1) hx hb dL_law_466 (by decide) ?_
  refine lv_iadd hx hb dL_law_467 ?_
  refine lv_topi (fun x_11 ex_11 => ?_)
  obtain rfl : x_11 = nI (i + 1) := by
    rw [ex_11]
    exact nI_add _ _
  refine va_sld hx hb hXs hbl0 hbA hS (vp_in_nI (n := i + 1) (by omega) (by omega)) dL_law_468 ?_
  refine lv_topi (fun x_12 ex_12 => ?_)
  obtain rfl : x_12 = xs (i + 1) := by
    rw [ex_12]
    rw [nI_clamp (by omega)]
  refine lv_aload_n hx hb dL_law_469 rfl (lv_at hl 0 rfl) ?_
  refine lv_iload_n hx hb dL_law_470 rfl (lv_at hl 3 rfl) ?_
  refine lv_iconst (v := nI 2) hx hb dL_law_471 (by decide) ?_
  refine lv_iadd hx hb dL_law_472 ?_
  refine lv_topi (fun x_13 ex_13 => ?_)
  obtain rfl : x_13 = nI (i + 2) := by
    rw [ex_13]
    exact nI_add _ _
  refine va_sld hx hb hXs hbl0 hbA hS (vp_in_nI (n := i + 2) (by omega) (by omega)) dL_law_473 ?_
  refine lv_topi (fun x_14 ex_14 => ?_)
  obtain rfl : x_14 = xs (i + 2) := by
    rw [ex_14]
    rw [nI_clamp (by omega)]
  refine lv_aload_n hx hb dL_law_474 rfl (lv_at hl 0 rfl) ?_
  refine lv_iload_n hx hb dL_law_475 rfl (lv_at hl 3 rfl) ?_
  refine lv_iconst (v := nI 3) hx hb dL_law_476 (by decide) ?_
  refine lv_iadd hx hb dL_law_477 ?_
  refine lv_topi (fun x_15 ex_15 => ?_)
  obtain rfl : x_15 = nI (i + 3) := by
    rw [ex_15]
    exact nI_add _ _
  refine va_sld hx hb hXs hbl0 hbA hS (vp_in_nI (n := i + 3) (by omega) (by omega)) dL_law_478 ?_
  refine lv_topi (fun x_16 ex_16 => ?_)
  obtain rfl : x_16 = xs (i + 3) := by
    rw [ex_16]
    rw [nI_clamp (by omega)]
  refine lv_aload_n hx hb dL_law_479 rfl (lv_at hl 0 rfl) ?_
  refine lv_iload_n hx hb dL_law_480 rfl (lv_at hl 3 rfl) ?_
  refine lv_iconst (v := nI 4) hx hb dL_law_481 (by decide) ?_
  refine lv_iadd hx hb dL_law_482 ?_
  refine lv_topi (fun x_17 ex_17 => ?_)
  obtain rfl : x_17 = nI (i + 4) := by
    rw [ex_17]
    exact nI_add _ _
  refine va_sld hx hb hXs hbl0 hbA hS (vp_in_nI (n := i + 4) (by omega) (by omega)) dL_law_483 ?_
  refine lv_topi (fun x_18 ex_18 => ?_)
  obtain rfl : x_18 = xs (i + 4) := by
    rw [ex_18]
    rw [nI_clamp (by omega)]
  refine lv_aload_n hx hb dL_law_484 rfl (lv_at hl 0 rfl) ?_
  refine lv_iload_n hx hb dL_law_485 rfl (lv_at hl 3 rfl) ?_
  refine lv_iconst (v := nI 5) hx hb dL_law_486 (by decide) ?_
  refine lv_iadd hx hb dL_law_487 ?_
  refine lv_topi (fun x_19 ex_19 => ?_)
  obtain rfl : x_19 = nI (i + 5) := by
    rw [ex_19]
    exact nI_add _ _
  refine va_sld hx hb hXs hbl0 hbA hS (vp_in_nI (n := i + 5) (by omega) (by omega)) dL_law_488 ?_
  refine lv_topi (fun x_20 ex_20 => ?_)
  obtain rfl : x_20 = xs (i + 5) := by
    rw [ex_20]
    rw [nI_clamp (by omega)]
  refine ckVRl (As := [.int (xs (i + 1)), .int (xs (i + 2)), .int (xs (i + 3)), .int (xs (i + 4)), .int (xs (i + 5))]) (rest := [.long ra]) 0 [23] (c_X6_sum_off l X m bl bk b (2 ^ b) mn xr yr vr cr wr nc wl wc rx ry mv fr f_ct f_wt f_lv f_fi f_en (nI 0) f_cd (xs (i + 1)) (xs (i + 2)) (xs (i + 3)) (xs (i + 4)) (xs (i + 5))) ⟨hx, hb, hml, hown, hts⟩ (cwV 5 hts gL_law_X6_sum rfl rfl rfl (by decide +kernel) ⟨Nat.le_of_ble_eq_true rfl, Nat.le_of_ble_eq_true rfl⟩) hK hN hP hD (by decide) rfl (ci := 6) rfl rfl rfl hl.1 rfl (Nat.le_of_ble_eq_true rfl) dL_law_489 ⟨lroom.1, lroom.2⟩ (fun rb hb2 => ?_)
  have hE : ra = rb := ha.trans hb2.symm
  refine W.lcmp hx hb dL_law_492 ?_
  refine lv_if_eq (tgt := 649) hx hb dL_law_493 (by decide) (fun c_493 => ?_) (fun c_493 => ?_)
  · skip
    exact kk _ _ (Or.inr ⟨cp, w, wh, nc, f_ct, f_nn, f_dd, f_mo, e_nn, e_dd, e_mo, f_wt, f_lv, f_fi, f_en, f_cd, pkf, pvf, hkf, hvf, lkf, lvf, ff, o, ffb, ob, ckf, cvf, rkf, rvf, mf, xf, yf, vf, wf, lf, rxf, ryf, mvf, rdf, cf, kf, frf, Hm, Qm, ZQ, Lg, K, ⟨f_cp, (by omega), (by omega), f_h, f_l, f_t, f_t2, f_m1, f_ap, f_tr2, (by omega), f_kh, f_kc⟩, hP, hD⟩) hS
  · skip
    exact absurd (by rw [hE]; exact lg_self _) c_493
set_option maxHeartbeats 4000000 in
set_option maxRecDepth 100000 in
theorem lw_off_commit {pz : Program} {l : Launch} {ez : Env} {sz : State} {mz : MethodId} {below : List Frame} {meth : Method} {cz : Code} {X : kX} {bb L : Nat} {xs : Nat → Int32} {A_ : Nat → Prop} {bl bk b n i a p pk pv h hk hv d lk lv t fa oa t2 fa2 oa2 ch ck cv rs rk_ rv rd m mn xr yr vr cr wr wl wc rx ry mv fr : Nat} {Q : State → Prop} {H : Heap} {locs : List Loc} {ls : Array Slot} (C0 : lwc pz sz mz cz X bb L xs A_) (hpar : lpar bl bk b) (hn : n < 512) (hi : i + 6 ≤ L) (hL : L ≤ 3075) (hI : LOff X A_ bl bk b n a p pk pv h hk hv d lk lv t fa oa t2 fa2 oa2 ch ck cv rs rk_ rv rd m mn xr yr vr cr wr wl wc rx ry mv fr H) (hS : va_S A_ sz.heap H locs) (hl : lv_has ls 4 [(0, .ref bb), (1, .ref a), (2, .ref m), (3, .int (nI i))]) (kk : ∀ (H1 : Heap) (locs1 : List Loc), LOn X A_ bl bk b (n + 1) a p pk pv h hk hv d lk lv t fa oa t2 fa2 oa2 ch ck cv rs rk_ rv rd m mn xr yr vr cr wr wl wc rx ry mv fr H1 ∨ LOff X A_ bl bk b (n + 1) a p pk pv h hk hv d lk lv t fa oa t2 fa2 oa2 ch ck cv rs rk_ rv rd m mn xr yr vr cr wr wl wc rx ry mv fr H1 → va_S A_ sz.heap H1 locs1 → W pz l ez room_1 sz mz #[Value.ref bb] below meth cz H1 locs1 600000 7302250 Q (F0 mz 649 ls [])) : W pz l ez room_1 sz mz #[Value.ref bb] below meth cz H locs 600000 7302250 Q (F0 mz 498 ls []) := by
  obtain ⟨hx, hb, hml, hown, hts, hXs, hbl0, hK, hN, hbA⟩ := C0
  obtain ⟨hbl1, hbl, hbk, hbk2, hb1⟩ := hpar
  have hsp := pw15 hb1
  refine LOff.use hI (fun cp w wh nc f_ct f_nn f_dd f_mo e_nn e_dd e_mo f_wt f_lv f_fi f_en f_cd pkf pvf hkf hvf lkf lvf ff o ffb ob ckf cvf rkf rvf mf xf yf vf wf lf rxf ryf mvf rdf cf kf frf Hm Qm ZQ Lg K f_cp f_w f_wh f_h f_l f_t f_t2 f_m1 f_ap f_tr2 f_k f_kh f_kc hP hD => ?_)
  clear hI
  refine lv_aload_n hx hb dL_law_498 rfl (lv_at hl 1 rfl) ?_
  refine ckVRi (As := []) (rest := []) 0 [0] (c_X5_commit_off l X a d p t t2 ch rs (2 ^ b) bl bk cp f_ct) ⟨hx, hb, hml, hown, hts⟩ (cwV 0 hts gL_law_X5_commit rfl rfl rfl (by decide +kernel) ⟨Nat.le_of_ble_eq_true rfl, Nat.le_of_ble_eq_true rfl⟩) hK hN hP hD (by decide) rfl (ci := 5) rfl rfl rfl hl.1 rfl (Nat.le_of_ble_eq_true rfl) dL_law_499 ⟨lroom.1, lroom.2⟩ (fun ra ha => ?_)
  refine lv_aload_n hx hb dL_law_502 rfl (lv_at hl 2 rfl) ?_
  refine ckVRi (As := []) (rest := [.int ra]) 0 [23] (c_X6_commit_off l X m bl bk b (2 ^ b) mn xr yr vr cr wr nc wl wc rx ry mv fr f_ct f_wt f_lv f_fi f_en (nI 0) f_cd) ⟨hx, hb, hml, hown, hts⟩ (cwV 0 hts gL_law_X6_commit rfl rfl rfl (by decide +kernel) ⟨Nat.le_of_ble_eq_true rfl, Nat.le_of_ble_eq_true rfl⟩) hK hN hP hD (by decide) rfl (ci := 6) rfl rfl rfl hl.1 rfl (Nat.le_of_ble_eq_true rfl) dL_law_503 ⟨lroom.1, lroom.2⟩ (fun rb hb2 => ?_)
  have hE : ra = rb := ha.trans hb2.symm
  refine lv_icmp_eq (tgt := 649) hx hb dL_law_506 (by decide) (fun c_506 => ?_) (fun c_506 => ?_)
  · skip
    exact kk _ _ (Or.inr ⟨cp, w, wh, nc, f_ct, f_nn, f_dd, f_mo, e_nn, e_dd, e_mo, f_wt, f_lv, f_fi, f_en, f_cd, pkf, pvf, hkf, hvf, lkf, lvf, ff, o, ffb, ob, ckf, cvf, rkf, rvf, mf, xf, yf, vf, wf, lf, rxf, ryf, mvf, rdf, cf, kf, frf, Hm, Qm, ZQ, Lg, K, ⟨f_cp, (by omega), (by omega), f_h, f_l, f_t, f_t2, f_m1, f_ap, f_tr2, (by omega), f_kh, f_kc⟩, hP, hD⟩) hS
  · skip
    exact absurd hE c_506
set_option maxHeartbeats 4000000 in
set_option maxRecDepth 100000 in
theorem lw_off_abort {pz : Program} {l : Launch} {ez : Env} {sz : State} {mz : MethodId} {below : List Frame} {meth : Method} {cz : Code} {X : kX} {bb L : Nat} {xs : Nat → Int32} {A_ : Nat → Prop} {bl bk b n i a p pk pv h hk hv d lk lv t fa oa t2 fa2 oa2 ch ck cv rs rk_ rv rd m mn xr yr vr cr wr wl wc rx ry mv fr : Nat} {Q : State → Prop} {H : Heap} {locs : List Loc} {ls : Array Slot} (C0 : lwc pz sz mz cz X bb L xs A_) (hpar : lpar bl bk b) (hn : n < 512) (hi : i + 6 ≤ L) (hL : L ≤ 3075) (hI : LOff X A_ bl bk b n a p pk pv h hk hv d lk lv t fa oa t2 fa2 oa2 ch ck cv rs rk_ rv rd m mn xr yr vr cr wr wl wc rx ry mv fr H) (hS : va_S A_ sz.heap H locs) (hl : lv_has ls 4 [(0, .ref bb), (1, .ref a), (2, .ref m), (3, .int (nI i))]) (kk : ∀ (H1 : Heap) (locs1 : List Loc), LOn X A_ bl bk b (n + 1) a p pk pv h hk hv d lk lv t fa oa t2 fa2 oa2 ch ck cv rs rk_ rv rd m mn xr yr vr cr wr wl wc rx ry mv fr H1 ∨ LOff X A_ bl bk b (n + 1) a p pk pv h hk hv d lk lv t fa oa t2 fa2 oa2 ch ck cv rs rk_ rv rd m mn xr yr vr cr wr wl wc rx ry mv fr H1 → va_S A_ sz.heap H1 locs1 → W pz l ez room_1 sz mz #[Value.ref bb] below meth cz H1 locs1 600000 7302250 Q (F0 mz 649 ls [])) : W pz l ez room_1 sz mz #[Value.ref bb] below meth cz H locs 600000 7302250 Q (F0 mz 511 ls []) := by
  obtain ⟨hx, hb, hml, hown, hts, hXs, hbl0, hK, hN, hbA⟩ := C0
  obtain ⟨hbl1, hbl, hbk, hbk2, hb1⟩ := hpar
  have hsp := pw15 hb1
  refine LOff.use hI (fun cp w wh nc f_ct f_nn f_dd f_mo e_nn e_dd e_mo f_wt f_lv f_fi f_en f_cd pkf pvf hkf hvf lkf lvf ff o ffb ob ckf cvf rkf rvf mf xf yf vf wf lf rxf ryf mvf rdf cf kf frf Hm Qm ZQ Lg K f_cp f_w f_wh f_h f_l f_t f_t2 f_m1 f_ap f_tr2 f_k f_kh f_kc hP hD => ?_)
  clear hI
  refine lv_aload_n hx hb dL_law_511 rfl (lv_at hl 1 rfl) ?_
  refine ckVRi (As := []) (rest := []) 0 [0] (c_X5_abort_off l X a d p t t2 ch rs (2 ^ b) bl bk cp f_ct) ⟨hx, hb, hml, hown, hts⟩ (cwV 0 hts gL_law_X5_abort rfl rfl rfl (by decide +kernel) ⟨Nat.le_of_ble_eq_true rfl, Nat.le_of_ble_eq_true rfl⟩) hK hN hP hD (by decide) rfl (ci := 5) rfl rfl rfl hl.1 rfl (Nat.le_of_ble_eq_true rfl) dL_law_512 ⟨lroom.1, lroom.2⟩ (fun ra ha => ?_)
  refine lv_aload_n hx hb dL_law_515 rfl (lv_at hl 2 rfl) ?_
  refine ckVRi (As := []) (rest := [.int ra]) 0 [23] (c_X6_abort_off l X m bl bk b (2 ^ b) mn xr yr vr cr wr nc wl wc rx ry mv fr f_ct f_wt f_lv f_fi f_en (nI 0) f_cd) ⟨hx, hb, hml, hown, hts⟩ (cwV 0 hts gL_law_X6_abort rfl rfl rfl (by decide +kernel) ⟨Nat.le_of_ble_eq_true rfl, Nat.le_of_ble_eq_true rfl⟩) hK hN hP hD (by decide) rfl (ci := 6) rfl rfl rfl hl.1 rfl (Nat.le_of_ble_eq_true rfl) dL_law_516 ⟨lroom.1, lroom.2⟩ (fun rb hb2 => ?_)
  have hE : ra = rb := ha.trans hb2.symm
  refine lv_icmp_eq (tgt := 649) hx hb dL_law_519 (by decide) (fun c_519 => ?_) (fun c_519 => ?_)
  · skip
    exact kk _ _ (Or.inr ⟨cp, w, wh, nc, f_ct, f_nn, f_dd, f_mo, e_nn, e_dd, e_mo, f_wt, f_lv, f_fi, f_en, f_cd, pkf, pvf, hkf, hvf, lkf, lvf, ff, o, ffb, ob, ckf, cvf, rkf, rvf, mf, xf, yf, vf, wf, lf, rxf, ryf, mvf, rdf, cf, kf, frf, Hm, Qm, ZQ, Lg, K, ⟨f_cp, (by omega), (by omega), f_h, f_l, f_t, f_t2, f_m1, f_ap, f_tr2, (by omega), f_kh, f_kc⟩, hP, hD⟩) hS
  · skip
    exact absurd hE c_519
set_option maxHeartbeats 4000000 in
set_option maxRecDepth 100000 in
theorem lw_off_format {pz : Program} {l : Launch} {ez : Env} {sz : State} {mz : MethodId} {below : List Frame} {meth : Method} {cz : Code} {X : kX} {bb L : Nat} {xs : Nat → Int32} {A_ : Nat → Prop} {bl bk b n i a p pk pv h hk hv d lk lv t fa oa t2 fa2 oa2 ch ck cv rs rk_ rv rd m mn xr yr vr cr wr wl wc rx ry mv fr : Nat} {Q : State → Prop} {H : Heap} {locs : List Loc} {ls : Array Slot} (C0 : lwc pz sz mz cz X bb L xs A_) (hpar : lpar bl bk b) (hn : n < 512) (hi : i + 6 ≤ L) (hL : L ≤ 3075) (hI : LOff X A_ bl bk b n a p pk pv h hk hv d lk lv t fa oa t2 fa2 oa2 ch ck cv rs rk_ rv rd m mn xr yr vr cr wr wl wc rx ry mv fr H) (hS : va_S A_ sz.heap H locs) (hl : lv_has ls 4 [(0, .ref bb), (1, .ref a), (2, .ref m), (3, .int (nI i))]) (kk : ∀ (H1 : Heap) (locs1 : List Loc), LOn X A_ bl bk b (n + 1) a p pk pv h hk hv d lk lv t fa oa t2 fa2 oa2 ch ck cv rs rk_ rv rd m mn xr yr vr cr wr wl wc rx ry mv fr H1 ∨ LOff X A_ bl bk b (n + 1) a p pk pv h hk hv d lk lv t fa oa t2 fa2 oa2 ch ck cv rs rk_ rv rd m mn xr yr vr cr wr wl wc rx ry mv fr H1 → va_S A_ sz.heap H1 locs1 → W pz l ez room_1 sz mz #[Value.ref bb] below meth cz H1 locs1 600000 7302250 Q (F0 mz 649 ls [])) : W pz l ez room_1 sz mz #[Value.ref bb] below meth cz H locs 600000 7302250 Q (F0 mz 524 ls []) := by
  obtain ⟨hx, hb, hml, hown, hts, hXs, hbl0, hK, hN, hbA⟩ := C0
  obtain ⟨hbl1, hbl, hbk, hbk2, hb1⟩ := hpar
  have hsp := pw15 hb1
  refine LOff.use hI (fun cp w wh nc f_ct f_nn f_dd f_mo e_nn e_dd e_mo f_wt f_lv f_fi f_en f_cd pkf pvf hkf hvf lkf lvf ff o ffb ob ckf cvf rkf rvf mf xf yf vf wf lf rxf ryf mvf rdf cf kf frf Hm Qm ZQ Lg K f_cp f_w f_wh f_h f_l f_t f_t2 f_m1 f_ap f_tr2 f_k f_kh f_kc hP hD => ?_)
  clear hI
  refine lv_aload_n hx hb dL_law_524 rfl (lv_at hl 1 rfl) ?_
  refine ckVRi (As := []) (rest := []) 0 [0] (c_X5_format_off l X a d p t t2 ch rs (2 ^ b) bl bk cp f_ct) ⟨hx, hb, hml, hown, hts⟩ (cwV 0 hts gL_law_X5_format rfl rfl rfl (by decide +kernel) ⟨Nat.le_of_ble_eq_true rfl, Nat.le_of_ble_eq_true rfl⟩) hK hN hP hD (by decide) rfl (ci := 5) rfl rfl rfl hl.1 rfl (Nat.le_of_ble_eq_true rfl) dL_law_525 ⟨lroom.1, lroom.2⟩ (fun ra ha => ?_)
  refine lv_aload_n hx hb dL_law_528 rfl (lv_at hl 2 rfl) ?_
  refine ckVRi (As := []) (rest := [.int ra]) 0 [23] (c_X6_format_off l X m bl bk b (2 ^ b) mn xr yr vr cr wr nc wl wc rx ry mv fr f_ct f_wt f_lv f_fi f_en (nI 0) f_cd) ⟨hx, hb, hml, hown, hts⟩ (cwV 0 hts gL_law_X6_format rfl rfl rfl (by decide +kernel) ⟨Nat.le_of_ble_eq_true rfl, Nat.le_of_ble_eq_true rfl⟩) hK hN hP hD (by decide) rfl (ci := 6) rfl rfl rfl hl.1 rfl (Nat.le_of_ble_eq_true rfl) dL_law_529 ⟨lroom.1, lroom.2⟩ (fun rb hb2 => ?_)
  have hE : ra = rb := ha.trans hb2.symm
  refine lv_icmp_eq (tgt := 649) hx hb dL_law_532 (by decide) (fun c_532 => ?_) (fun c_532 => ?_)
  · skip
    exact kk _ _ (Or.inr ⟨cp, w, wh, nc, f_ct, f_nn, f_dd, f_mo, e_nn, e_dd, e_mo, f_wt, f_lv, f_fi, f_en, f_cd, pkf, pvf, hkf, hvf, lkf, lvf, ff, o, ffb, ob, ckf, cvf, rkf, rvf, mf, xf, yf, vf, wf, lf, rxf, ryf, mvf, rdf, cf, kf, frf, Hm, Qm, ZQ, Lg, K, ⟨f_cp, (by omega), (by omega), f_h, f_l, f_t, f_t2, f_m1, f_ap, f_tr2, (by omega), f_kh, f_kc⟩, hP, hD⟩) hS
  · skip
    exact absurd hE c_532
set_option maxHeartbeats 4000000 in
set_option maxRecDepth 100000 in
theorem lw_off_node {pz : Program} {l : Launch} {ez : Env} {sz : State} {mz : MethodId} {below : List Frame} {meth : Method} {cz : Code} {X : kX} {bb L : Nat} {xs : Nat → Int32} {A_ : Nat → Prop} {bl bk b n i a p pk pv h hk hv d lk lv t fa oa t2 fa2 oa2 ch ck cv rs rk_ rv rd m mn xr yr vr cr wr wl wc rx ry mv fr : Nat} {Q : State → Prop} {H : Heap} {locs : List Loc} {ls : Array Slot} (C0 : lwc pz sz mz cz X bb L xs A_) (hpar : lpar bl bk b) (hn : n < 512) (hi : i + 6 ≤ L) (hL : L ≤ 3075) (hI : LOff X A_ bl bk b n a p pk pv h hk hv d lk lv t fa oa t2 fa2 oa2 ch ck cv rs rk_ rv rd m mn xr yr vr cr wr wl wc rx ry mv fr H) (hS : va_S A_ sz.heap H locs) (hl : lv_has ls 4 [(0, .ref bb), (1, .ref a), (2, .ref m), (3, .int (nI i))]) (kk : ∀ (H1 : Heap) (locs1 : List Loc), LOn X A_ bl bk b (n + 1) a p pk pv h hk hv d lk lv t fa oa t2 fa2 oa2 ch ck cv rs rk_ rv rd m mn xr yr vr cr wr wl wc rx ry mv fr H1 ∨ LOff X A_ bl bk b (n + 1) a p pk pv h hk hv d lk lv t fa oa t2 fa2 oa2 ch ck cv rs rk_ rv rd m mn xr yr vr cr wr wl wc rx ry mv fr H1 → va_S A_ sz.heap H1 locs1 → W pz l ez room_1 sz mz #[Value.ref bb] below meth cz H1 locs1 600000 7302250 Q (F0 mz 649 ls [])) : W pz l ez room_1 sz mz #[Value.ref bb] below meth cz H locs 600000 7302250 Q (F0 mz 583 ls []) := by
  obtain ⟨hx, hb, hml, hown, hts, hXs, hbl0, hK, hN, hbA⟩ := C0
  obtain ⟨hbl1, hbl, hbk, hbk2, hb1⟩ := hpar
  have hsp := pw15 hb1
  refine LOff.use hI (fun cp w wh nc f_ct f_nn f_dd f_mo e_nn e_dd e_mo f_wt f_lv f_fi f_en f_cd pkf pvf hkf hvf lkf lvf ff o ffb ob ckf cvf rkf rvf mf xf yf vf wf lf rxf ryf mvf rdf cf kf frf Hm Qm ZQ Lg K f_cp f_w f_wh f_h f_l f_t f_t2 f_m1 f_ap f_tr2 f_k f_kh f_kc hP hD => ?_)
  clear hI
  refine lv_aload_n hx hb dL_law_583 rfl (lv_at hl 1 rfl) ?_
  refine lv_aload_n hx hb dL_law_584 rfl (lv_at hl 0 rfl) ?_
  refine lv_iload_n hx hb dL_law_585 rfl (lv_at hl 3 rfl) ?_
  refine lv_iconst (v := nI 1) hx hb dL_law_586 (by decide) ?_
  refine lv_iadd hx hb dL_law_587 ?_
  refine lv_topi (fun x_1 ex_1 => ?_)
  obtain rfl : x_1 = nI (i + 1) := by
    rw [ex_1]
    exact nI_add _ _
  refine va_sld hx hb hXs hbl0 hbA hS (vp_in_nI (n := i + 1) (by omega) (by omega)) dL_law_588 ?_
  refine lv_topi (fun x_2 ex_2 => ?_)
  obtain rfl : x_2 = xs (i + 1) := by
    rw [ex_2]
    rw [nI_clamp (by omega)]
  refine lv_aload_n hx hb dL_law_589 rfl (lv_at hl 0 rfl) ?_
  refine lv_iload_n hx hb dL_law_590 rfl (lv_at hl 3 rfl) ?_
  refine lv_iconst (v := nI 2) hx hb dL_law_591 (by decide) ?_
  refine lv_iadd hx hb dL_law_592 ?_
  refine lv_topi (fun x_3 ex_3 => ?_)
  obtain rfl : x_3 = nI (i + 2) := by
    rw [ex_3]
    exact nI_add _ _
  refine va_sld hx hb hXs hbl0 hbA hS (vp_in_nI (n := i + 2) (by omega) (by omega)) dL_law_593 ?_
  refine lv_topi (fun x_4 ex_4 => ?_)
  obtain rfl : x_4 = xs (i + 2) := by
    rw [ex_4]
    rw [nI_clamp (by omega)]
  refine lv_aload_n hx hb dL_law_594 rfl (lv_at hl 0 rfl) ?_
  refine lv_iload_n hx hb dL_law_595 rfl (lv_at hl 3 rfl) ?_
  refine lv_iconst (v := nI 3) hx hb dL_law_596 (by decide) ?_
  refine lv_iadd hx hb dL_law_597 ?_
  refine lv_topi (fun x_5 ex_5 => ?_)
  obtain rfl : x_5 = nI (i + 3) := by
    rw [ex_5]
    exact nI_add _ _
  refine va_sld hx hb hXs hbl0 hbA hS (vp_in_nI (n := i + 3) (by omega) (by omega)) dL_law_598 ?_
  refine lv_topi (fun x_6 ex_6 => ?_)
  obtain rfl : x_6 = xs (i + 3) := by
    rw [ex_6]
    rw [nI_clamp (by omega)]
  refine ckVRi (As := [.int (xs (i + 1)), .int (xs (i + 2)), .int (xs (i + 3))]) (rest := []) 0 [0] (c_X5_node_off l X a d p t t2 ch rs (2 ^ b) bl bk cp f_ct (xs (i + 1)) (xs (i + 2)) (xs (i + 3))) ⟨hx, hb, hml, hown, hts⟩ (cwV 3 hts gL_law_X5_node rfl rfl rfl (by decide +kernel) ⟨Nat.le_of_ble_eq_true rfl, Nat.le_of_ble_eq_true rfl⟩) hK hN hP hD (by decide) rfl (ci := 5) rfl rfl rfl hl.1 rfl (Nat.le_of_ble_eq_true rfl) dL_law_599 ⟨lroom.1, lroom.2⟩ (fun ra ha => ?_)
  refine lv_aload_n hx hb dL_law_602 rfl (lv_at hl 2 rfl) ?_
  refine lv_aload_n hx hb dL_law_603 rfl (lv_at hl 0 rfl) ?_
  refine lv_iload_n hx hb dL_law_604 rfl (lv_at hl 3 rfl) ?_
  refine lv_iconst (v := nI 1) hx hb dL_law_605 (by decide) ?_
  refine lv_iadd hx hb dL_law_606 ?_
  refine lv_topi (fun x_7 ex_7 => ?_)
  obtain rfl : x_7 = nI (i + 1) := by
    rw [ex_7]
    exact nI_add _ _
  refine va_sld hx hb hXs hbl0 hbA hS (vp_in_nI (n := i + 1) (by omega) (by omega)) dL_law_607 ?_
  refine lv_topi (fun x_8 ex_8 => ?_)
  obtain rfl : x_8 = xs (i + 1) := by
    rw [ex_8]
    rw [nI_clamp (by omega)]
  refine lv_aload_n hx hb dL_law_608 rfl (lv_at hl 0 rfl) ?_
  refine lv_iload_n hx hb dL_law_609 rfl (lv_at hl 3 rfl) ?_
  refine lv_iconst (v := nI 2) hx hb dL_law_610 (by decide) ?_
  refine lv_iadd hx hb dL_law_611 ?_
  refine lv_topi (fun x_9 ex_9 => ?_)
  obtain rfl : x_9 = nI (i + 2) := by
    rw [ex_9]
    exact nI_add _ _
  refine va_sld hx hb hXs hbl0 hbA hS (vp_in_nI (n := i + 2) (by omega) (by omega)) dL_law_612 ?_
  refine lv_topi (fun x_10 ex_10 => ?_)
  obtain rfl : x_10 = xs (i + 2) := by
    rw [ex_10]
    rw [nI_clamp (by omega)]
  refine lv_aload_n hx hb dL_law_613 rfl (lv_at hl 0 rfl) ?_
  refine lv_iload_n hx hb dL_law_614 rfl (lv_at hl 3 rfl) ?_
  refine lv_iconst (v := nI 3) hx hb dL_law_615 (by decide) ?_
  refine lv_iadd hx hb dL_law_616 ?_
  refine lv_topi (fun x_11 ex_11 => ?_)
  obtain rfl : x_11 = nI (i + 3) := by
    rw [ex_11]
    exact nI_add _ _
  refine va_sld hx hb hXs hbl0 hbA hS (vp_in_nI (n := i + 3) (by omega) (by omega)) dL_law_617 ?_
  refine lv_topi (fun x_12 ex_12 => ?_)
  obtain rfl : x_12 = xs (i + 3) := by
    rw [ex_12]
    rw [nI_clamp (by omega)]
  refine ckVRi (As := [.int (xs (i + 1)), .int (xs (i + 2)), .int (xs (i + 3))]) (rest := [.int ra]) 0 [23] (c_X6_node_off l X m bl bk b (2 ^ b) mn xr yr vr cr wr nc wl wc rx ry mv fr f_ct f_wt f_lv f_fi f_en (nI 0) f_cd (xs (i + 1)) (xs (i + 2)) (xs (i + 3))) ⟨hx, hb, hml, hown, hts⟩ (cwV 3 hts gL_law_X6_node rfl rfl rfl (by decide +kernel) ⟨Nat.le_of_ble_eq_true rfl, Nat.le_of_ble_eq_true rfl⟩) hK hN hP hD (by decide) rfl (ci := 6) rfl rfl rfl hl.1 rfl (Nat.le_of_ble_eq_true rfl) dL_law_618 ⟨lroom.1, lroom.2⟩ (fun rb hb2 => ?_)
  have hE : ra = rb := ha.trans hb2.symm
  refine lv_icmp_eq (tgt := 649) hx hb dL_law_621 (by decide) (fun c_621 => ?_) (fun c_621 => ?_)
  · skip
    exact kk _ _ (Or.inr ⟨cp, w, wh, nc, f_ct, f_nn, f_dd, f_mo, e_nn, e_dd, e_mo, f_wt, f_lv, f_fi, f_en, f_cd, pkf, pvf, hkf, hvf, lkf, lvf, ff, o, ffb, ob, ckf, cvf, rkf, rvf, mf, xf, yf, vf, wf, lf, rxf, ryf, mvf, rdf, cf, kf, frf, Hm, Qm, ZQ, Lg, K, ⟨f_cp, (by omega), (by omega), f_h, f_l, f_t, f_t2, f_m1, f_ap, f_tr2, (by omega), f_kh, f_kc⟩, hP, hD⟩) hS
  · skip
    exact absurd hE c_621
set_option maxHeartbeats 4000000 in
set_option maxRecDepth 100000 in
theorem lw_off_count {pz : Program} {l : Launch} {ez : Env} {sz : State} {mz : MethodId} {below : List Frame} {meth : Method} {cz : Code} {X : kX} {bb L : Nat} {xs : Nat → Int32} {A_ : Nat → Prop} {bl bk b n i a p pk pv h hk hv d lk lv t fa oa t2 fa2 oa2 ch ck cv rs rk_ rv rd m mn xr yr vr cr wr wl wc rx ry mv fr : Nat} {Q : State → Prop} {H : Heap} {locs : List Loc} {ls : Array Slot} (C0 : lwc pz sz mz cz X bb L xs A_) (hpar : lpar bl bk b) (hn : n < 512) (hi : i + 6 ≤ L) (hL : L ≤ 3075) (hI : LOff X A_ bl bk b n a p pk pv h hk hv d lk lv t fa oa t2 fa2 oa2 ch ck cv rs rk_ rv rd m mn xr yr vr cr wr wl wc rx ry mv fr H) (hS : va_S A_ sz.heap H locs) (hl : lv_has ls 4 [(0, .ref bb), (1, .ref a), (2, .ref m), (3, .int (nI i))]) (kk : ∀ (H1 : Heap) (locs1 : List Loc), LOn X A_ bl bk b (n + 1) a p pk pv h hk hv d lk lv t fa oa t2 fa2 oa2 ch ck cv rs rk_ rv rd m mn xr yr vr cr wr wl wc rx ry mv fr H1 ∨ LOff X A_ bl bk b (n + 1) a p pk pv h hk hv d lk lv t fa oa t2 fa2 oa2 ch ck cv rs rk_ rv rd m mn xr yr vr cr wr wl wc rx ry mv fr H1 → va_S A_ sz.heap H1 locs1 → W pz l ez room_1 sz mz #[Value.ref bb] below meth cz H1 locs1 600000 7302250 Q (F0 mz 649 ls [])) : W pz l ez room_1 sz mz #[Value.ref bb] below meth cz H locs 600000 7302250 Q (F0 mz 626 ls []) := by
  obtain ⟨hx, hb, hml, hown, hts, hXs, hbl0, hK, hN, hbA⟩ := C0
  obtain ⟨hbl1, hbl, hbk, hbk2, hb1⟩ := hpar
  have hsp := pw15 hb1
  refine LOff.use hI (fun cp w wh nc f_ct f_nn f_dd f_mo e_nn e_dd e_mo f_wt f_lv f_fi f_en f_cd pkf pvf hkf hvf lkf lvf ff o ffb ob ckf cvf rkf rvf mf xf yf vf wf lf rxf ryf mvf rdf cf kf frf Hm Qm ZQ Lg K f_cp f_w f_wh f_h f_l f_t f_t2 f_m1 f_ap f_tr2 f_k f_kh f_kc hP hD => ?_)
  clear hI
  refine lv_aload_n hx hb dL_law_626 rfl (lv_at hl 1 rfl) ?_
  refine lv_aload_n hx hb dL_law_627 rfl (lv_at hl 0 rfl) ?_
  refine lv_iload_n hx hb dL_law_628 rfl (lv_at hl 3 rfl) ?_
  refine lv_iconst (v := nI 1) hx hb dL_law_629 (by decide) ?_
  refine lv_iadd hx hb dL_law_630 ?_
  refine lv_topi (fun x_1 ex_1 => ?_)
  obtain rfl : x_1 = nI (i + 1) := by
    rw [ex_1]
    exact nI_add _ _
  refine va_sld hx hb hXs hbl0 hbA hS (vp_in_nI (n := i + 1) (by omega) (by omega)) dL_law_631 ?_
  refine lv_topi (fun x_2 ex_2 => ?_)
  obtain rfl : x_2 = xs (i + 1) := by
    rw [ex_2]
    rw [nI_clamp (by omega)]
  refine ckVRi (As := [.int (xs (i + 1))]) (rest := []) 0 [0] (c_X5_count_off l X a d p t t2 ch rs (2 ^ b) bl bk cp f_ct (xs (i + 1))) ⟨hx, hb, hml, hown, hts⟩ (cwV 1 hts gL_law_X5_count rfl rfl rfl (by decide +kernel) ⟨Nat.le_of_ble_eq_true rfl, Nat.le_of_ble_eq_true rfl⟩) hK hN hP hD (by decide) rfl (ci := 5) rfl rfl rfl hl.1 rfl (Nat.le_of_ble_eq_true rfl) dL_law_632 ⟨lroom.1, lroom.2⟩ (fun ra ha => ?_)
  refine lv_aload_n hx hb dL_law_635 rfl (lv_at hl 2 rfl) ?_
  refine lv_aload_n hx hb dL_law_636 rfl (lv_at hl 0 rfl) ?_
  refine lv_iload_n hx hb dL_law_637 rfl (lv_at hl 3 rfl) ?_
  refine lv_iconst (v := nI 1) hx hb dL_law_638 (by decide) ?_
  refine lv_iadd hx hb dL_law_639 ?_
  refine lv_topi (fun x_3 ex_3 => ?_)
  obtain rfl : x_3 = nI (i + 1) := by
    rw [ex_3]
    exact nI_add _ _
  refine va_sld hx hb hXs hbl0 hbA hS (vp_in_nI (n := i + 1) (by omega) (by omega)) dL_law_640 ?_
  refine lv_topi (fun x_4 ex_4 => ?_)
  obtain rfl : x_4 = xs (i + 1) := by
    rw [ex_4]
    rw [nI_clamp (by omega)]
  refine ckVRi (As := [.int (xs (i + 1))]) (rest := [.int ra]) 0 [23] (c_X6_count_off l X m bl bk b (2 ^ b) mn xr yr vr cr wr nc wl wc rx ry mv fr f_ct f_wt f_lv f_fi f_en (nI 0) f_cd (xs (i + 1))) ⟨hx, hb, hml, hown, hts⟩ (cwV 1 hts gL_law_X6_count rfl rfl rfl (by decide +kernel) ⟨Nat.le_of_ble_eq_true rfl, Nat.le_of_ble_eq_true rfl⟩) hK hN hP hD (by decide) rfl (ci := 6) rfl rfl rfl hl.1 rfl (Nat.le_of_ble_eq_true rfl) dL_law_641 ⟨lroom.1, lroom.2⟩ (fun rb hb2 => ?_)
  have hE : ra = rb := ha.trans hb2.symm
  refine lv_icmp_eq (tgt := 649) hx hb dL_law_644 (by decide) (fun c_644 => ?_) (fun c_644 => ?_)
  · skip
    exact kk _ _ (Or.inr ⟨cp, w, wh, nc, f_ct, f_nn, f_dd, f_mo, e_nn, e_dd, e_mo, f_wt, f_lv, f_fi, f_en, f_cd, pkf, pvf, hkf, hvf, lkf, lvf, ff, o, ffb, ob, ckf, cvf, rkf, rvf, mf, xf, yf, vf, wf, lf, rxf, ryf, mvf, rdf, cf, kf, frf, Hm, Qm, ZQ, Lg, K, ⟨f_cp, (by omega), (by omega), f_h, f_l, f_t, f_t2, f_m1, f_ap, f_tr2, (by omega), f_kh, f_kc⟩, hP, hD⟩) hS
  · skip
    exact absurd hE c_644
set_option maxHeartbeats 4000000 in
set_option maxRecDepth 100000 in
theorem lw_off_size {pz : Program} {l : Launch} {ez : Env} {sz : State} {mz : MethodId} {below : List Frame} {meth : Method} {cz : Code} {X : kX} {bb L : Nat} {xs : Nat → Int32} {A_ : Nat → Prop} {bl bk b n i a p pk pv h hk hv d lk lv t fa oa t2 fa2 oa2 ch ck cv rs rk_ rv rd m mn xr yr vr cr wr wl wc rx ry mv fr : Nat} {Q : State → Prop} {H : Heap} {locs : List Loc} {ls : Array Slot} (C0 : lwc pz sz mz cz X bb L xs A_) (hpar : lpar bl bk b) (hn : n < 512) (hi : i + 6 ≤ L) (hL : L ≤ 3075) (hI : LOff X A_ bl bk b n a p pk pv h hk hv d lk lv t fa oa t2 fa2 oa2 ch ck cv rs rk_ rv rd m mn xr yr vr cr wr wl wc rx ry mv fr H) (hS : va_S A_ sz.heap H locs) (hl : lv_has ls 4 [(0, .ref bb), (1, .ref a), (2, .ref m), (3, .int (nI i))]) (kk : ∀ (H1 : Heap) (locs1 : List Loc), LOn X A_ bl bk b (n + 1) a p pk pv h hk hv d lk lv t fa oa t2 fa2 oa2 ch ck cv rs rk_ rv rd m mn xr yr vr cr wr wl wc rx ry mv fr H1 ∨ LOff X A_ bl bk b (n + 1) a p pk pv h hk hv d lk lv t fa oa t2 fa2 oa2 ch ck cv rs rk_ rv rd m mn xr yr vr cr wr wl wc rx ry mv fr H1 → va_S A_ sz.heap H1 locs1 → W pz l ez room_1 sz mz #[Value.ref bb] below meth cz H1 locs1 600000 7302250 Q (F0 mz 649 ls [])) : W pz l ez room_1 sz mz #[Value.ref bb] below meth cz H locs 600000 7302250 Q (F0 mz 421 ls []) := by
  obtain ⟨hx, hb, hml, hown, hts, hXs, hbl0, hK, hN, hbA⟩ := C0
  obtain ⟨hbl1, hbl, hbk, hbk2, hb1⟩ := hpar
  have hsp := pw15 hb1
  refine LOff.use hI (fun cp w wh nc f_ct f_nn f_dd f_mo e_nn e_dd e_mo f_wt f_lv f_fi f_en f_cd pkf pvf hkf hvf lkf lvf ff o ffb ob ckf cvf rkf rvf mf xf yf vf wf lf rxf ryf mvf rdf cf kf frf Hm Qm ZQ Lg K f_cp f_w f_wh f_h f_l f_t f_t2 f_m1 f_ap f_tr2 f_k f_kh f_kc hP hD => ?_)
  clear hI
  refine lv_aload_n hx hb dL_law_421 rfl (lv_at hl 1 rfl) ?_
  refine ckVRi (As := []) (rest := []) 0 [0, 19] (c_X5_size l X a d p t t2 ch rs (2 ^ b) bl bk cp f_ct rk_ rv rd 0 (nI 0)) ⟨hx, hb, hml, hown, hts⟩ (cwV 0 hts gL_law_X5_size rfl rfl rfl (by decide +kernel) ⟨Nat.le_of_ble_eq_true rfl, Nat.le_of_ble_eq_true rfl⟩) hK hN hP hD (by decide) rfl (ci := 5) rfl rfl rfl hl.1 rfl (Nat.le_of_ble_eq_true rfl) dL_law_422 ⟨lroom.1, lroom.2⟩ (fun ra ha => ?_)
  refine lv_aload_n hx hb dL_law_425 rfl (lv_at hl 2 rfl) ?_
  refine ckVRi (As := []) (rest := [.int ra]) 0 [23] (c_X6_size l X m bl bk b (2 ^ b) mn xr yr vr cr wr nc wl wc rx ry mv fr (nI 1) f_ct f_wt f_lv f_fi f_en f_cd 0) ⟨hx, hb, hml, hown, hts⟩ (cwV 0 hts gL_law_X6_size rfl rfl rfl (by decide +kernel) ⟨Nat.le_of_ble_eq_true rfl, Nat.le_of_ble_eq_true rfl⟩) hK hN hP hD (by decide) rfl (ci := 6) rfl rfl rfl hl.1 rfl (Nat.le_of_ble_eq_true rfl) dL_law_426 ⟨lroom.1, lroom.2⟩ (fun rb hb2 => ?_)
  have hE : ra = rb := ha.trans hb2.symm
  refine lv_icmp_eq (tgt := 649) hx hb dL_law_429 (by decide) (fun c_429 => ?_) (fun c_429 => ?_)
  · skip
    exact kk _ _ (Or.inr ⟨cp, w, wh, nc, f_ct, f_nn, f_dd, f_mo, e_nn, e_dd, e_mo, f_wt, f_lv, f_fi, f_en, f_cd, pkf, pvf, hkf, hvf, lkf, lvf, ff, o, ffb, ob, ckf, cvf, rkf, rvf, mf, xf, yf, vf, wf, lf, rxf, ryf, mvf, rdf, cf, kf, frf, Hm, Qm, ZQ, Lg, K, ⟨f_cp, (by omega), (by omega), f_h, f_l, f_t, f_t2, f_m1, f_ap, f_tr2, (by omega), f_kh, f_kc⟩, hP, hD⟩) hS
  · skip
    exact absurd hE c_429
set_option maxHeartbeats 4000000 in
set_option maxRecDepth 100000 in
theorem lw_off_result {pz : Program} {l : Launch} {ez : Env} {sz : State} {mz : MethodId} {below : List Frame} {meth : Method} {cz : Code} {X : kX} {bb L : Nat} {xs : Nat → Int32} {A_ : Nat → Prop} {bl bk b n i a p pk pv h hk hv d lk lv t fa oa t2 fa2 oa2 ch ck cv rs rk_ rv rd m mn xr yr vr cr wr wl wc rx ry mv fr : Nat} {Q : State → Prop} {H : Heap} {locs : List Loc} {ls : Array Slot} (C0 : lwc pz sz mz cz X bb L xs A_) (hpar : lpar bl bk b) (hn : n < 512) (hi : i + 6 ≤ L) (hL : L ≤ 3075) (hI : LOff X A_ bl bk b n a p pk pv h hk hv d lk lv t fa oa t2 fa2 oa2 ch ck cv rs rk_ rv rd m mn xr yr vr cr wr wl wc rx ry mv fr H) (hS : va_S A_ sz.heap H locs) (hl : lv_has ls 4 [(0, .ref bb), (1, .ref a), (2, .ref m), (3, .int (nI i))]) (kk : ∀ (H1 : Heap) (locs1 : List Loc), LOn X A_ bl bk b (n + 1) a p pk pv h hk hv d lk lv t fa oa t2 fa2 oa2 ch ck cv rs rk_ rv rd m mn xr yr vr cr wr wl wc rx ry mv fr H1 ∨ LOff X A_ bl bk b (n + 1) a p pk pv h hk hv d lk lv t fa oa t2 fa2 oa2 ch ck cv rs rk_ rv rd m mn xr yr vr cr wr wl wc rx ry mv fr H1 → va_S A_ sz.heap H1 locs1 → W pz l ez room_1 sz mz #[Value.ref bb] below meth cz H1 locs1 600000 7302250 Q (F0 mz 649 ls [])) : W pz l ez room_1 sz mz #[Value.ref bb] below meth cz H locs 600000 7302250 Q (F0 mz 388 ls []) := by
  obtain ⟨hx, hb, hml, hown, hts, hXs, hbl0, hK, hN, hbA⟩ := C0
  obtain ⟨hbl1, hbl, hbk, hbk2, hb1⟩ := hpar
  have hsp := pw15 hb1
  refine LOff.use hI (fun cp w wh nc f_ct f_nn f_dd f_mo e_nn e_dd e_mo f_wt f_lv f_fi f_en f_cd pkf pvf hkf hvf lkf lvf ff o ffb ob ckf cvf rkf rvf mf xf yf vf wf lf rxf ryf mvf rdf cf kf frf Hm Qm ZQ Lg K f_cp f_w f_wh f_h f_l f_t f_t2 f_m1 f_ap f_tr2 f_k f_kh f_kc hP hD => ?_)
  clear hI
  refine lv_aload_n hx hb dL_law_388 rfl (lv_at hl 1 rfl) ?_
  refine lv_aload_n hx hb dL_law_389 rfl (lv_at hl 0 rfl) ?_
  refine lv_iload_n hx hb dL_law_390 rfl (lv_at hl 3 rfl) ?_
  refine lv_iconst (v := nI 1) hx hb dL_law_391 (by decide) ?_
  refine lv_iadd hx hb dL_law_392 ?_
  refine lv_topi (fun x_1 ex_1 => ?_)
  obtain rfl : x_1 = nI (i + 1) := by
    rw [ex_1]
    exact nI_add _ _
  refine va_sld hx hb hXs hbl0 hbA hS (vp_in_nI (n := i + 1) (by omega) (by omega)) dL_law_393 ?_
  refine lv_topi (fun x_2 ex_2 => ?_)
  obtain rfl : x_2 = xs (i + 1) := by
    rw [ex_2]
    rw [nI_clamp (by omega)]
  refine lv_aload_n hx hb dL_law_394 rfl (lv_at hl 0 rfl) ?_
  refine lv_iload_n hx hb dL_law_395 rfl (lv_at hl 3 rfl) ?_
  refine lv_iconst (v := nI 2) hx hb dL_law_396 (by decide) ?_
  refine lv_iadd hx hb dL_law_397 ?_
  refine lv_topi (fun x_3 ex_3 => ?_)
  obtain rfl : x_3 = nI (i + 2) := by
    rw [ex_3]
    exact nI_add _ _
  refine va_sld hx hb hXs hbl0 hbA hS (vp_in_nI (n := i + 2) (by omega) (by omega)) dL_law_398 ?_
  refine lv_topi (fun x_4 ex_4 => ?_)
  obtain rfl : x_4 = xs (i + 2) := by
    rw [ex_4]
    rw [nI_clamp (by omega)]
  refine ckVRi (As := [.int (xs (i + 1)), .int (xs (i + 2))]) (rest := []) 0 [0, 19, 20, 21] (c_X5_result l X a d p t t2 ch rs (2 ^ b) bl bk cp f_ct rk_ rv rd (nI 0) (xs (i + 1)) (xs (i + 2)) rkf rvf ([] : RSL) rs_nil) ⟨hx, hb, hml, hown, hts⟩ (cwV 2 hts gL_law_X5_result rfl rfl rfl (by decide +kernel) ⟨Nat.le_of_ble_eq_true rfl, Nat.le_of_ble_eq_true rfl⟩) hK hN hP hD (by decide) rfl (ci := 5) rfl rfl rfl hl.1 rfl (Nat.le_of_ble_eq_true rfl) dL_law_399 ⟨lroom.1, lroom.2⟩ (fun ra ha => ?_)
  refine lv_aload_n hx hb dL_law_402 rfl (lv_at hl 2 rfl) ?_
  refine lv_aload_n hx hb dL_law_403 rfl (lv_at hl 0 rfl) ?_
  refine lv_iload_n hx hb dL_law_404 rfl (lv_at hl 3 rfl) ?_
  refine lv_iconst (v := nI 1) hx hb dL_law_405 (by decide) ?_
  refine lv_iadd hx hb dL_law_406 ?_
  refine lv_topi (fun x_5 ex_5 => ?_)
  obtain rfl : x_5 = nI (i + 1) := by
    rw [ex_5]
    exact nI_add _ _
  refine va_sld hx hb hXs hbl0 hbA hS (vp_in_nI (n := i + 1) (by omega) (by omega)) dL_law_407 ?_
  refine lv_topi (fun x_6 ex_6 => ?_)
  obtain rfl : x_6 = xs (i + 1) := by
    rw [ex_6]
    rw [nI_clamp (by omega)]
  refine lv_aload_n hx hb dL_law_408 rfl (lv_at hl 0 rfl) ?_
  refine lv_iload_n hx hb dL_law_409 rfl (lv_at hl 3 rfl) ?_
  refine lv_iconst (v := nI 2) hx hb dL_law_410 (by decide) ?_
  refine lv_iadd hx hb dL_law_411 ?_
  refine lv_topi (fun x_7 ex_7 => ?_)
  obtain rfl : x_7 = nI (i + 2) := by
    rw [ex_7]
    exact nI_add _ _
  refine va_sld hx hb hXs hbl0 hbA hS (vp_in_nI (n := i + 2) (by omega) (by omega)) dL_law_412 ?_
  refine lv_topi (fun x_8 ex_8 => ?_)
  obtain rfl : x_8 = xs (i + 2) := by
    rw [ex_8]
    rw [nI_clamp (by omega)]
  refine ckVRi (As := [.int (xs (i + 1)), .int (xs (i + 2))]) (rest := [.int ra]) 0 [23, 32, 33, 34] (c_X6_result l X m bl bk b (2 ^ b) mn xr yr vr cr wr nc wl wc rx ry mv fr (nI 1) f_ct f_wt f_lv f_fi f_en f_cd (xs (i + 1)) (xs (i + 2)) rxf ryf mvf ([] : RSL) mR_nil) ⟨hx, hb, hml, hown, hts⟩ (cwV 2 hts gL_law_X6_result rfl rfl rfl (by decide +kernel) ⟨Nat.le_of_ble_eq_true rfl, Nat.le_of_ble_eq_true rfl⟩) hK hN hP hD (by decide) rfl (ci := 6) rfl rfl rfl hl.1 rfl (Nat.le_of_ble_eq_true rfl) dL_law_413 ⟨lroom.1, lroom.2⟩ (fun rb hb2 => ?_)
  have hE : ra = rb := ha.trans hb2.symm
  refine lv_icmp_eq (tgt := 649) hx hb dL_law_416 (by decide) (fun c_416 => ?_) (fun c_416 => ?_)
  · skip
    exact kk _ _ (Or.inr ⟨cp, w, wh, nc, f_ct, f_nn, f_dd, f_mo, e_nn, e_dd, e_mo, f_wt, f_lv, f_fi, f_en, f_cd, pkf, pvf, hkf, hvf, lkf, lvf, ff, o, ffb, ob, ckf, cvf, rkf, rvf, mf, xf, yf, vf, wf, lf, rxf, ryf, mvf, rdf, cf, kf, frf, Hm, Qm, ZQ, Lg, K, ⟨f_cp, (by omega), (by omega), f_h, f_l, f_t, f_t2, f_m1, f_ap, f_tr2, (by omega), f_kh, f_kc⟩, hP, hD⟩) hS
  · skip
    exact absurd hE c_416
set_option maxHeartbeats 4000000 in
set_option maxRecDepth 100000 in
theorem lw_off_arm {pz : Program} {l : Launch} {ez : Env} {sz : State} {mz : MethodId} {below : List Frame} {meth : Method} {cz : Code} {X : kX} {bb L : Nat} {xs : Nat → Int32} {A_ : Nat → Prop} {bl bk b n i a p pk pv h hk hv d lk lv t fa oa t2 fa2 oa2 ch ck cv rs rk_ rv rd m mn xr yr vr cr wr wl wc rx ry mv fr : Nat} {Q : State → Prop} {H : Heap} {locs : List Loc} {ls : Array Slot} (C0 : lwc pz sz mz cz X bb L xs A_) (hpar : lpar bl bk b) (hn : n < 512) (hi : i + 6 ≤ L) (hL : L ≤ 3075) (hI : LOff X A_ bl bk b n a p pk pv h hk hv d lk lv t fa oa t2 fa2 oa2 ch ck cv rs rk_ rv rd m mn xr yr vr cr wr wl wc rx ry mv fr H) (hS : va_S A_ sz.heap H locs) (hl : lv_has ls 4 [(0, .ref bb), (1, .ref a), (2, .ref m), (3, .int (nI i))]) (kk : ∀ (H1 : Heap) (locs1 : List Loc), LOn X A_ bl bk b (n + 1) a p pk pv h hk hv d lk lv t fa oa t2 fa2 oa2 ch ck cv rs rk_ rv rd m mn xr yr vr cr wr wl wc rx ry mv fr H1 ∨ LOff X A_ bl bk b (n + 1) a p pk pv h hk hv d lk lv t fa oa t2 fa2 oa2 ch ck cv rs rk_ rv rd m mn xr yr vr cr wr wl wc rx ry mv fr H1 → va_S A_ sz.heap H1 locs1 → W pz l ez room_1 sz mz #[Value.ref bb] below meth cz H1 locs1 600000 7302250 Q (F0 mz 649 ls [])) : W pz l ez room_1 sz mz #[Value.ref bb] below meth cz H locs 600000 7302250 Q (F0 mz 537 ls []) := by
  obtain ⟨hx, hb, hml, hown, hts, hXs, hbl0, hK, hN, hbA⟩ := C0
  obtain ⟨hbl1, hbl, hbk, hbk2, hb1⟩ := hpar
  have hsp := pw15 hb1
  refine LOff.use hI (fun cp w wh nc f_ct f_nn f_dd f_mo e_nn e_dd e_mo f_wt f_lv f_fi f_en f_cd pkf pvf hkf hvf lkf lvf ff o ffb ob ckf cvf rkf rvf mf xf yf vf wf lf rxf ryf mvf rdf cf kf frf Hm Qm ZQ Lg K f_cp f_w f_wh f_h f_l f_t f_t2 f_m1 f_ap f_tr2 f_k f_kh f_kc hP hD => ?_)
  clear hI
  refine lv_aload_n hx hb dL_law_537 rfl (lv_at hl 1 rfl) ?_
  refine lv_aload_n hx hb dL_law_538 rfl (lv_at hl 0 rfl) ?_
  refine lv_iload_n hx hb dL_law_539 rfl (lv_at hl 3 rfl) ?_
  refine lv_iconst (v := nI 1) hx hb dL_law_540 (by decide) ?_
  refine lv_iadd hx hb dL_law_541 ?_
  refine lv_topi (fun x_1 ex_1 => ?_)
  obtain rfl : x_1 = nI (i + 1) := by
    rw [ex_1]
    exact nI_add _ _
  refine va_sld hx hb hXs hbl0 hbA hS (vp_in_nI (n := i + 1) (by omega) (by omega)) dL_law_542 ?_
  refine lv_topi (fun x_2 ex_2 => ?_)
  obtain rfl : x_2 = xs (i + 1) := by
    rw [ex_2]
    rw [nI_clamp (by omega)]
  refine lv_aload_n hx hb dL_law_543 rfl (lv_at hl 0 rfl) ?_
  refine lv_iload_n hx hb dL_law_544 rfl (lv_at hl 3 rfl) ?_
  refine lv_iconst (v := nI 2) hx hb dL_law_545 (by decide) ?_
  refine lv_iadd hx hb dL_law_546 ?_
  refine lv_topi (fun x_3 ex_3 => ?_)
  obtain rfl : x_3 = nI (i + 2) := by
    rw [ex_3]
    exact nI_add _ _
  refine va_sld hx hb hXs hbl0 hbA hS (vp_in_nI (n := i + 2) (by omega) (by omega)) dL_law_547 ?_
  refine lv_topi (fun x_4 ex_4 => ?_)
  obtain rfl : x_4 = xs (i + 2) := by
    rw [ex_4]
    rw [nI_clamp (by omega)]
  refine ckVi (As := [.int (xs (i + 1)), .int (xs (i + 2))]) (rest := []) 0 [0] (c_X5_arm l X a d p t t2 ch rs (2 ^ b) bl bk cp f_ct (nI 0) (xs (i + 1)) (xs (i + 2))) ⟨hx, hb, hml, hown, hts⟩ (cwV 2 hts gL_law_X5_arm rfl rfl rfl (by decide +kernel) ⟨Nat.le_of_ble_eq_true rfl, Nat.le_of_ble_eq_true rfl⟩) hK hN hP hD hS (by decide) rfl (ci := 5) rfl rfl (fun _ => rfl) rfl hl.1 rfl (Nat.le_of_ble_eq_true rfl) dL_law_548 ⟨lroom.1, lroom.2⟩ (fun ra u_5 H locs ha hP hD hS => ?_)
  obtain ⟨ct2, cp2⟩ := u_5
  have hP : va_P X.1 vwCl [(a, .inr (5, [.int (nI bl), .int (nI bk), .int (nI (2 ^ b)), .ref d, .ref p, .ref t, .ref t2, .ref ch, .ref rs, .int (nI 0), .int ct2, .int (nI cp2)])), (p, .inr (2, [.ref pk, .ref pv, .int (nI 0), .int (nI w)])), (pk, .inl (X.2.1, 512, .inl pkf)), (pv, .inl (X.2.1, 512, .inl pvf)), (h, .inr (2, [.ref hk, .ref hv, .int (nI Hm.length), .int (nI wh)])), (hk, .inl (X.2.1, 512, .inl hkf)), (hv, .inl (X.2.1, 512, .inl hvf)), (d, .inr (1, [.ref h, .ref lk, .ref lv, .int (nI Lg.length)])), (lk, .inl (X.2.1, 60, .inl lkf)), (lv, .inl (X.2.1, 60, .inl lvf)), (t, .inr (4, [.ref p, .int (nI bk), .int (nI b), .int (nI (bl + 1)), .ref fa, .ref oa, .int f_nn, .int f_dd, .int f_mo])), (fa, .inl (X.2.1, 6 * (bl + 1), .inl ff)), (oa, .inl (X.2.1, 512, .inl o)), (t2, .inr (4, [.ref h, .int (nI bk), .int (nI b), .int (nI (bl + 1)), .ref fa2, .ref oa2, .int e_nn, .int e_dd, .int e_mo])), (fa2, .inl (X.2.1, 6 * (bl + 1), .inl ffb)), (oa2, .inl (X.2.1, 512, .inl ob)), (ch, .inr (0, [.ref ck, .ref cv, .int (nI 0)])), (ck, .inl (X.2.1, 60, .inl ckf)), (cv, .inl (X.2.1, 60, .inl cvf)), (rs, .inr (3, [.ref rk_, .ref rv, .ref rd, .int (nI 0)])), (rk_, .inl (X.2.1, 150, .inl rkf)), (rv, .inl (X.2.1, 150, .inl rvf)), (rd, .inl (X.2.2, 150, .inr (.inl rdf))), (m, .inr (6, [.int (nI bl), .int (nI bk), .int (nI b), .int (nI (2 ^ b)), .ref mn, .ref xr, .ref yr, .ref vr, .ref cr, .ref wr, .int (nI nc), .int (nI 1), .int f_ct, .ref wl, .ref wc, .int f_wt, .int f_lv, .int f_fi, .int f_en, .long f_cd, .ref rx, .ref ry, .ref mv, .ref fr, .int (nI 0)])), (mn, .inl (X.2.1, 2, .inl mf)), (xr, .inl (X.2.1, 6600, .inl xf)), (yr, .inl (X.2.1, 6600, .inl yf)), (vr, .inl (X.2.1, 6600, .inl vf)), (cr, .inl (X.2.2, 6600, .inr (.inl cf))), (wr, .inl (X.2.1, 6600, .inl wf)), (wl, .inl (X.2.1, 80, .inl lf)), (wc, .inl (X.2.2, 80, .inr (.inl kf))), (rx, .inl (X.2.1, 150, .inl rxf)), (ry, .inl (X.2.1, 150, .inl ryf)), (mv, .inl (X.2.1, 150, .inl mvf)), (fr, .inl (X.2.2, 150, .inr (.inl frf)))] H := hP
  have hD : va_D A_ [(a, .inr (5, [.int (nI bl), .int (nI bk), .int (nI (2 ^ b)), .ref d, .ref p, .ref t, .ref t2, .ref ch, .ref rs, .int (nI 0), .int ct2, .int (nI cp2)])), (p, .inr (2, [.ref pk, .ref pv, .int (nI 0), .int (nI w)])), (pk, .inl (X.2.1, 512, .inl pkf)), (pv, .inl (X.2.1, 512, .inl pvf)), (h, .inr (2, [.ref hk, .ref hv, .int (nI Hm.length), .int (nI wh)])), (hk, .inl (X.2.1, 512, .inl hkf)), (hv, .inl (X.2.1, 512, .inl hvf)), (d, .inr (1, [.ref h, .ref lk, .ref lv, .int (nI Lg.length)])), (lk, .inl (X.2.1, 60, .inl lkf)), (lv, .inl (X.2.1, 60, .inl lvf)), (t, .inr (4, [.ref p, .int (nI bk), .int (nI b), .int (nI (bl + 1)), .ref fa, .ref oa, .int f_nn, .int f_dd, .int f_mo])), (fa, .inl (X.2.1, 6 * (bl + 1), .inl ff)), (oa, .inl (X.2.1, 512, .inl o)), (t2, .inr (4, [.ref h, .int (nI bk), .int (nI b), .int (nI (bl + 1)), .ref fa2, .ref oa2, .int e_nn, .int e_dd, .int e_mo])), (fa2, .inl (X.2.1, 6 * (bl + 1), .inl ffb)), (oa2, .inl (X.2.1, 512, .inl ob)), (ch, .inr (0, [.ref ck, .ref cv, .int (nI 0)])), (ck, .inl (X.2.1, 60, .inl ckf)), (cv, .inl (X.2.1, 60, .inl cvf)), (rs, .inr (3, [.ref rk_, .ref rv, .ref rd, .int (nI 0)])), (rk_, .inl (X.2.1, 150, .inl rkf)), (rv, .inl (X.2.1, 150, .inl rvf)), (rd, .inl (X.2.2, 150, .inr (.inl rdf))), (m, .inr (6, [.int (nI bl), .int (nI bk), .int (nI b), .int (nI (2 ^ b)), .ref mn, .ref xr, .ref yr, .ref vr, .ref cr, .ref wr, .int (nI nc), .int (nI 1), .int f_ct, .ref wl, .ref wc, .int f_wt, .int f_lv, .int f_fi, .int f_en, .long f_cd, .ref rx, .ref ry, .ref mv, .ref fr, .int (nI 0)])), (mn, .inl (X.2.1, 2, .inl mf)), (xr, .inl (X.2.1, 6600, .inl xf)), (yr, .inl (X.2.1, 6600, .inl yf)), (vr, .inl (X.2.1, 6600, .inl vf)), (cr, .inl (X.2.2, 6600, .inr (.inl cf))), (wr, .inl (X.2.1, 6600, .inl wf)), (wl, .inl (X.2.1, 80, .inl lf)), (wc, .inl (X.2.2, 80, .inr (.inl kf))), (rx, .inl (X.2.1, 150, .inl rxf)), (ry, .inl (X.2.1, 150, .inl ryf)), (mv, .inl (X.2.1, 150, .inl mvf)), (fr, .inl (X.2.2, 150, .inr (.inl frf)))] := hD
  try dsimp only at ha
  refine lv_aload_n hx hb dL_law_551 rfl (lv_at hl 2 rfl) ?_
  refine lv_aload_n hx hb dL_law_552 rfl (lv_at hl 0 rfl) ?_
  refine lv_iload_n hx hb dL_law_553 rfl (lv_at hl 3 rfl) ?_
  refine lv_iconst (v := nI 1) hx hb dL_law_554 (by decide) ?_
  refine lv_iadd hx hb dL_law_555 ?_
  refine lv_topi (fun x_6 ex_6 => ?_)
  obtain rfl : x_6 = nI (i + 1) := by
    rw [ex_6]
    exact nI_add _ _
  refine va_sld hx hb hXs hbl0 hbA hS (vp_in_nI (n := i + 1) (by omega) (by omega)) dL_law_556 ?_
  refine lv_topi (fun x_7 ex_7 => ?_)
  obtain rfl : x_7 = xs (i + 1) := by
    rw [ex_7]
    rw [nI_clamp (by omega)]
  refine lv_aload_n hx hb dL_law_557 rfl (lv_at hl 0 rfl) ?_
  refine lv_iload_n hx hb dL_law_558 rfl (lv_at hl 3 rfl) ?_
  refine lv_iconst (v := nI 2) hx hb dL_law_559 (by decide) ?_
  refine lv_iadd hx hb dL_law_560 ?_
  refine lv_topi (fun x_8 ex_8 => ?_)
  obtain rfl : x_8 = nI (i + 2) := by
    rw [ex_8]
    exact nI_add _ _
  refine va_sld hx hb hXs hbl0 hbA hS (vp_in_nI (n := i + 2) (by omega) (by omega)) dL_law_561 ?_
  refine lv_topi (fun x_9 ex_9 => ?_)
  obtain rfl : x_9 = xs (i + 2) := by
    rw [ex_9]
    rw [nI_clamp (by omega)]
  refine ckVi (As := [.int (xs (i + 1)), .int (xs (i + 2))]) (rest := [.int ra]) 0 [23] (c_X6_arm l X m bl bk b (2 ^ b) mn xr yr vr cr wr nc wl wc rx ry mv fr (nI 1) f_ct f_wt f_lv f_fi f_en (nI 0) f_cd cp (xs (i + 1)) (xs (i + 2))) ⟨hx, hb, hml, hown, hts⟩ (cwV 2 hts gL_law_X6_arm rfl rfl rfl (by decide +kernel) ⟨Nat.le_of_ble_eq_true rfl, Nat.le_of_ble_eq_true rfl⟩) hK hN hP hD hS (by decide) rfl (ci := 6) rfl rfl (fun _ => rfl) rfl hl.1 rfl (Nat.le_of_ble_eq_true rfl) dL_law_562 ⟨lroom.1, lroom.2⟩ (fun rb u_10 H locs hb2 hP hD hS => ?_)
  obtain ⟨ar2, rfl⟩ := (⟨_, rfl⟩ : ∃ z, z = u_10)
  have hP : va_P X.1 vwCl [(a, .inr (5, [.int (nI bl), .int (nI bk), .int (nI (2 ^ b)), .ref d, .ref p, .ref t, .ref t2, .ref ch, .ref rs, .int (nI 0), .int ct2, .int (nI cp2)])), (p, .inr (2, [.ref pk, .ref pv, .int (nI 0), .int (nI w)])), (pk, .inl (X.2.1, 512, .inl pkf)), (pv, .inl (X.2.1, 512, .inl pvf)), (h, .inr (2, [.ref hk, .ref hv, .int (nI Hm.length), .int (nI wh)])), (hk, .inl (X.2.1, 512, .inl hkf)), (hv, .inl (X.2.1, 512, .inl hvf)), (d, .inr (1, [.ref h, .ref lk, .ref lv, .int (nI Lg.length)])), (lk, .inl (X.2.1, 60, .inl lkf)), (lv, .inl (X.2.1, 60, .inl lvf)), (t, .inr (4, [.ref p, .int (nI bk), .int (nI b), .int (nI (bl + 1)), .ref fa, .ref oa, .int f_nn, .int f_dd, .int f_mo])), (fa, .inl (X.2.1, 6 * (bl + 1), .inl ff)), (oa, .inl (X.2.1, 512, .inl o)), (t2, .inr (4, [.ref h, .int (nI bk), .int (nI b), .int (nI (bl + 1)), .ref fa2, .ref oa2, .int e_nn, .int e_dd, .int e_mo])), (fa2, .inl (X.2.1, 6 * (bl + 1), .inl ffb)), (oa2, .inl (X.2.1, 512, .inl ob)), (ch, .inr (0, [.ref ck, .ref cv, .int (nI 0)])), (ck, .inl (X.2.1, 60, .inl ckf)), (cv, .inl (X.2.1, 60, .inl cvf)), (rs, .inr (3, [.ref rk_, .ref rv, .ref rd, .int (nI 0)])), (rk_, .inl (X.2.1, 150, .inl rkf)), (rv, .inl (X.2.1, 150, .inl rvf)), (rd, .inl (X.2.2, 150, .inr (.inl rdf))), (m, .inr (6, [.int (nI bl), .int (nI bk), .int (nI b), .int (nI (2 ^ b)), .ref mn, .ref xr, .ref yr, .ref vr, .ref cr, .ref wr, .int (nI nc), .int (nI 1), .int ar2, .ref wl, .ref wc, .int f_wt, .int f_lv, .int f_fi, .int f_en, .long f_cd, .ref rx, .ref ry, .ref mv, .ref fr, .int (nI 0)])), (mn, .inl (X.2.1, 2, .inl mf)), (xr, .inl (X.2.1, 6600, .inl xf)), (yr, .inl (X.2.1, 6600, .inl yf)), (vr, .inl (X.2.1, 6600, .inl vf)), (cr, .inl (X.2.2, 6600, .inr (.inl cf))), (wr, .inl (X.2.1, 6600, .inl wf)), (wl, .inl (X.2.1, 80, .inl lf)), (wc, .inl (X.2.2, 80, .inr (.inl kf))), (rx, .inl (X.2.1, 150, .inl rxf)), (ry, .inl (X.2.1, 150, .inl ryf)), (mv, .inl (X.2.1, 150, .inl mvf)), (fr, .inl (X.2.2, 150, .inr (.inl frf)))] H := hP
  have hD : va_D A_ [(a, .inr (5, [.int (nI bl), .int (nI bk), .int (nI (2 ^ b)), .ref d, .ref p, .ref t, .ref t2, .ref ch, .ref rs, .int (nI 0), .int ct2, .int (nI cp2)])), (p, .inr (2, [.ref pk, .ref pv, .int (nI 0), .int (nI w)])), (pk, .inl (X.2.1, 512, .inl pkf)), (pv, .inl (X.2.1, 512, .inl pvf)), (h, .inr (2, [.ref hk, .ref hv, .int (nI Hm.length), .int (nI wh)])), (hk, .inl (X.2.1, 512, .inl hkf)), (hv, .inl (X.2.1, 512, .inl hvf)), (d, .inr (1, [.ref h, .ref lk, .ref lv, .int (nI Lg.length)])), (lk, .inl (X.2.1, 60, .inl lkf)), (lv, .inl (X.2.1, 60, .inl lvf)), (t, .inr (4, [.ref p, .int (nI bk), .int (nI b), .int (nI (bl + 1)), .ref fa, .ref oa, .int f_nn, .int f_dd, .int f_mo])), (fa, .inl (X.2.1, 6 * (bl + 1), .inl ff)), (oa, .inl (X.2.1, 512, .inl o)), (t2, .inr (4, [.ref h, .int (nI bk), .int (nI b), .int (nI (bl + 1)), .ref fa2, .ref oa2, .int e_nn, .int e_dd, .int e_mo])), (fa2, .inl (X.2.1, 6 * (bl + 1), .inl ffb)), (oa2, .inl (X.2.1, 512, .inl ob)), (ch, .inr (0, [.ref ck, .ref cv, .int (nI 0)])), (ck, .inl (X.2.1, 60, .inl ckf)), (cv, .inl (X.2.1, 60, .inl cvf)), (rs, .inr (3, [.ref rk_, .ref rv, .ref rd, .int (nI 0)])), (rk_, .inl (X.2.1, 150, .inl rkf)), (rv, .inl (X.2.1, 150, .inl rvf)), (rd, .inl (X.2.2, 150, .inr (.inl rdf))), (m, .inr (6, [.int (nI bl), .int (nI bk), .int (nI b), .int (nI (2 ^ b)), .ref mn, .ref xr, .ref yr, .ref vr, .ref cr, .ref wr, .int (nI nc), .int (nI 1), .int ar2, .ref wl, .ref wc, .int f_wt, .int f_lv, .int f_fi, .int f_en, .long f_cd, .ref rx, .ref ry, .ref mv, .ref fr, .int (nI 0)])), (mn, .inl (X.2.1, 2, .inl mf)), (xr, .inl (X.2.1, 6600, .inl xf)), (yr, .inl (X.2.1, 6600, .inl yf)), (vr, .inl (X.2.1, 6600, .inl vf)), (cr, .inl (X.2.2, 6600, .inr (.inl cf))), (wr, .inl (X.2.1, 6600, .inl wf)), (wl, .inl (X.2.1, 80, .inl lf)), (wc, .inl (X.2.2, 80, .inr (.inl kf))), (rx, .inl (X.2.1, 150, .inl rxf)), (ry, .inl (X.2.1, 150, .inl ryf)), (mv, .inl (X.2.1, 150, .inl mvf)), (fr, .inl (X.2.2, 150, .inr (.inl frf)))] := hD
  try dsimp only at hb2
  obtain ⟨c3, hb2⟩ := hb2
  have hE9 := ha.trans hb2.symm
  have hE : ra = rb := congrArg Prod.fst hE9
  have hE2 : ct2 = ar2 := congrArg (fun z => z.2.1) hE9
  subst hE2
  refine lv_icmp_eq (tgt := 649) hx hb dL_law_565 (by decide) (fun c_565 => ?_) (fun c_565 => ?_)
  · skip
    exact kk _ _ (Or.inr ⟨cp2, w, wh, nc, ct2, f_nn, f_dd, f_mo, e_nn, e_dd, e_mo, f_wt, f_lv, f_fi, f_en, f_cd, pkf, pvf, hkf, hvf, lkf, lvf, ff, o, ffb, ob, ckf, cvf, rkf, rvf, mf, xf, yf, vf, wf, lf, rxf, ryf, mvf, rdf, cf, kf, frf, Hm, Qm, ZQ, Lg, K, ⟨(arm_of ha f_cp), (by omega), (by omega), f_h, f_l, f_t, f_t2, f_m1, f_ap, f_tr2, (by omega), f_kh, f_kc⟩, hP, hD⟩) hS
  · skip
    exact absurd hE c_565
set_option maxHeartbeats 4000000 in
set_option maxRecDepth 100000 in
theorem lw_off_recover {pz : Program} {l : Launch} {ez : Env} {sz : State} {mz : MethodId} {below : List Frame} {meth : Method} {cz : Code} {X : kX} {bb L : Nat} {xs : Nat → Int32} {A_ : Nat → Prop} {bl bk b n i a p pk pv h hk hv d lk lv t fa oa t2 fa2 oa2 ch ck cv rs rk_ rv rd m mn xr yr vr cr wr wl wc rx ry mv fr : Nat} {Q : State → Prop} {H : Heap} {locs : List Loc} {ls : Array Slot} (C0 : lwc pz sz mz cz X bb L xs A_) (hpar : lpar bl bk b) (hn : n < 512) (hi : i + 6 ≤ L) (hL : L ≤ 3075) (hI : LOff X A_ bl bk b n a p pk pv h hk hv d lk lv t fa oa t2 fa2 oa2 ch ck cv rs rk_ rv rd m mn xr yr vr cr wr wl wc rx ry mv fr H) (hS : va_S A_ sz.heap H locs) (hl : lv_has ls 4 [(0, .ref bb), (1, .ref a), (2, .ref m), (3, .int (nI i))]) (kk : ∀ (H1 : Heap) (locs1 : List Loc), LOn X A_ bl bk b (n + 1) a p pk pv h hk hv d lk lv t fa oa t2 fa2 oa2 ch ck cv rs rk_ rv rd m mn xr yr vr cr wr wl wc rx ry mv fr H1 ∨ LOff X A_ bl bk b (n + 1) a p pk pv h hk hv d lk lv t fa oa t2 fa2 oa2 ch ck cv rs rk_ rv rd m mn xr yr vr cr wr wl wc rx ry mv fr H1 → va_S A_ sz.heap H1 locs1 → W pz l ez room_1 sz mz #[Value.ref bb] below meth cz H1 locs1 600000 7302250 Q (F0 mz 649 ls [])) : W pz l ez room_1 sz mz #[Value.ref bb] below meth cz H locs 600000 7302250 Q (F0 mz 570 ls []) := by
  obtain ⟨hx, hb, hml, hown, hts, hXs, hbl0, hK, hN, hbA⟩ := C0
  obtain ⟨hbl1, hbl, hbk, hbk2, hb1⟩ := hpar
  have hsp := pw15 hb1
  refine LOff.use hI (fun cp w wh nc f_ct f_nn f_dd f_mo e_nn e_dd e_mo f_wt f_lv f_fi f_en f_cd pkf pvf hkf hvf lkf lvf ff o ffb ob ckf cvf rkf rvf mf xf yf vf wf lf rxf ryf mvf rdf cf kf frf Hm Qm ZQ Lg K f_cp f_w f_wh f_h f_l f_t f_t2 f_m1 f_ap f_tr2 f_k f_kh f_kc hP hD => ?_)
  clear hI
  have hcap := ki_cap f_h.2.2.1 f_kh f_kc (show K.length ≤ 512 by omega)
  by_cases hn2 : f_ct = nI 2
  · skip
    subst hn2
    refine lv_aload_n hx hb dL_law_570 rfl (lv_at hl 1 rfl) ?_
    refine ckVi (As := []) (rest := []) 0 [0, 7, 8, 9, 4, 5, 6, 1, 16, 19] (c_X5_recover_a l X a d p t t2 ch rs (2 ^ b) bl bk cp h lk lv pk pv 0 w hk hv wh ck cv 0 rk_ rv rd 0 (nI 0) lkf lvf pkf pvf hkf hvf Lg Hm f_l f_h f_cp hcap) ⟨hx, hb, hml, hown, hts⟩ (cwV 0 hts gL_law_X5_recover rfl rfl rfl (by decide +kernel) ⟨Nat.le_of_ble_eq_true rfl, Nat.le_of_ble_eq_true rfl⟩) hK hN hP hD hS (by decide) rfl (ci := 5) rfl rfl (fun _ => rfl) rfl hl.1 rfl (Nat.le_of_ble_eq_true rfl) dL_law_571 ⟨lroom.1, lroom.2⟩ (fun ra u_1 H locs ha hP hD hS => ?_)
    obtain ⟨hk2, hv2⟩ := u_1
    have hP : va_P X.1 vwCl [(a, .inr (5, [.int (nI bl), .int (nI bk), .int (nI (2 ^ b)), .ref d, .ref p, .ref t, .ref t2, .ref ch, .ref rs, .int (nI 0), .int (-1), .int (nI cp)])), (p, .inr (2, [.ref pk, .ref pv, .int (nI 0), .int (nI (w + 1))])), (pk, .inl (X.2.1, 512, .inl pkf)), (pv, .inl (X.2.1, 512, .inl pvf)), (h, .inr (2, [.ref hk, .ref hv, .int (nI ((apL Hm (Lg.take (Lg.length * cp / 256))).length)), .int (nI (avL Hm wh (Lg.take (Lg.length * cp / 256))))])), (hk, .inl (X.2.1, 512, .inl hk2)), (hv, .inl (X.2.1, 512, .inl hv2)), (d, .inr (1, [.ref h, .ref lk, .ref lv, .int (nI Lg.length)])), (lk, .inl (X.2.1, 60, .inl lkf)), (lv, .inl (X.2.1, 60, .inl lvf)), (t, .inr (4, [.ref p, .int (nI bk), .int (nI b), .int (nI (bl + 1)), .ref fa, .ref oa, .int f_nn, .int f_dd, .int f_mo])), (fa, .inl (X.2.1, 6 * (bl + 1), .inl ff)), (oa, .inl (X.2.1, 512, .inl o)), (t2, .inr (4, [.ref h, .int (nI bk), .int (nI b), .int (nI (bl + 1)), .ref fa2, .ref oa2, .int e_nn, .int e_dd, .int e_mo])), (fa2, .inl (X.2.1, 6 * (bl + 1), .inl ffb)), (oa2, .inl (X.2.1, 512, .inl ob)), (ch, .inr (0, [.ref ck, .ref cv, .int (nI 0)])), (ck, .inl (X.2.1, 60, .inl ckf)), (cv, .inl (X.2.1, 60, .inl cvf)), (rs, .inr (3, [.ref rk_, .ref rv, .ref rd, .int (nI 0)])), (rk_, .inl (X.2.1, 150, .inl rkf)), (rv, .inl (X.2.1, 150, .inl rvf)), (rd, .inl (X.2.2, 150, .inr (.inl rdf))), (m, .inr (6, [.int (nI bl), .int (nI bk), .int (nI b), .int (nI (2 ^ b)), .ref mn, .ref xr, .ref yr, .ref vr, .ref cr, .ref wr, .int (nI nc), .int (nI 1), .int (nI 2), .ref wl, .ref wc, .int f_wt, .int f_lv, .int f_fi, .int f_en, .long f_cd, .ref rx, .ref ry, .ref mv, .ref fr, .int (nI 0)])), (mn, .inl (X.2.1, 2, .inl mf)), (xr, .inl (X.2.1, 6600, .inl xf)), (yr, .inl (X.2.1, 6600, .inl yf)), (vr, .inl (X.2.1, 6600, .inl vf)), (cr, .inl (X.2.2, 6600, .inr (.inl cf))), (wr, .inl (X.2.1, 6600, .inl wf)), (wl, .inl (X.2.1, 80, .inl lf)), (wc, .inl (X.2.2, 80, .inr (.inl kf))), (rx, .inl (X.2.1, 150, .inl rxf)), (ry, .inl (X.2.1, 150, .inl ryf)), (mv, .inl (X.2.1, 150, .inl mvf)), (fr, .inl (X.2.2, 150, .inr (.inl frf)))] H := hP
    have hD : va_D A_ [(a, .inr (5, [.int (nI bl), .int (nI bk), .int (nI (2 ^ b)), .ref d, .ref p, .ref t, .ref t2, .ref ch, .ref rs, .int (nI 0), .int (-1), .int (nI cp)])), (p, .inr (2, [.ref pk, .ref pv, .int (nI 0), .int (nI (w + 1))])), (pk, .inl (X.2.1, 512, .inl pkf)), (pv, .inl (X.2.1, 512, .inl pvf)), (h, .inr (2, [.ref hk, .ref hv, .int (nI ((apL Hm (Lg.take (Lg.length * cp / 256))).length)), .int (nI (avL Hm wh (Lg.take (Lg.length * cp / 256))))])), (hk, .inl (X.2.1, 512, .inl hk2)), (hv, .inl (X.2.1, 512, .inl hv2)), (d, .inr (1, [.ref h, .ref lk, .ref lv, .int (nI Lg.length)])), (lk, .inl (X.2.1, 60, .inl lkf)), (lv, .inl (X.2.1, 60, .inl lvf)), (t, .inr (4, [.ref p, .int (nI bk), .int (nI b), .int (nI (bl + 1)), .ref fa, .ref oa, .int f_nn, .int f_dd, .int f_mo])), (fa, .inl (X.2.1, 6 * (bl + 1), .inl ff)), (oa, .inl (X.2.1, 512, .inl o)), (t2, .inr (4, [.ref h, .int (nI bk), .int (nI b), .int (nI (bl + 1)), .ref fa2, .ref oa2, .int e_nn, .int e_dd, .int e_mo])), (fa2, .inl (X.2.1, 6 * (bl + 1), .inl ffb)), (oa2, .inl (X.2.1, 512, .inl ob)), (ch, .inr (0, [.ref ck, .ref cv, .int (nI 0)])), (ck, .inl (X.2.1, 60, .inl ckf)), (cv, .inl (X.2.1, 60, .inl cvf)), (rs, .inr (3, [.ref rk_, .ref rv, .ref rd, .int (nI 0)])), (rk_, .inl (X.2.1, 150, .inl rkf)), (rv, .inl (X.2.1, 150, .inl rvf)), (rd, .inl (X.2.2, 150, .inr (.inl rdf))), (m, .inr (6, [.int (nI bl), .int (nI bk), .int (nI b), .int (nI (2 ^ b)), .ref mn, .ref xr, .ref yr, .ref vr, .ref cr, .ref wr, .int (nI nc), .int (nI 1), .int (nI 2), .ref wl, .ref wc, .int f_wt, .int f_lv, .int f_fi, .int f_en, .long f_cd, .ref rx, .ref ry, .ref mv, .ref fr, .int (nI 0)])), (mn, .inl (X.2.1, 2, .inl mf)), (xr, .inl (X.2.1, 6600, .inl xf)), (yr, .inl (X.2.1, 6600, .inl yf)), (vr, .inl (X.2.1, 6600, .inl vf)), (cr, .inl (X.2.2, 6600, .inr (.inl cf))), (wr, .inl (X.2.1, 6600, .inl wf)), (wl, .inl (X.2.1, 80, .inl lf)), (wc, .inl (X.2.2, 80, .inr (.inl kf))), (rx, .inl (X.2.1, 150, .inl rxf)), (ry, .inl (X.2.1, 150, .inl ryf)), (mv, .inl (X.2.1, 150, .inl mvf)), (fr, .inl (X.2.2, 150, .inr (.inl frf)))] := hD
    try dsimp only at ha
    refine lv_aload_n hx hb dL_law_574 rfl (lv_at hl 2 rfl) ?_
    refine ckVi (As := []) (rest := [.int ra]) 0 [23] (c_X6_recover_a l X m bl bk b (2 ^ b) mn xr yr vr cr wr nc wl wc rx ry mv fr (nI 1) f_wt f_lv f_fi f_en (nI 0) f_cd) ⟨hx, hb, hml, hown, hts⟩ (cwV 0 hts gL_law_X6_recover rfl rfl rfl (by decide +kernel) ⟨Nat.le_of_ble_eq_true rfl, Nat.le_of_ble_eq_true rfl⟩) hK hN hP hD hS (by decide) rfl (ci := 6) rfl rfl (fun _ => rfl) rfl hl.1 rfl (Nat.le_of_ble_eq_true rfl) dL_law_575 ⟨lroom.1, lroom.2⟩ (fun rb u_2 H locs hb2 hP hD hS => ?_)
    have hP : va_P X.1 vwCl [(a, .inr (5, [.int (nI bl), .int (nI bk), .int (nI (2 ^ b)), .ref d, .ref p, .ref t, .ref t2, .ref ch, .ref rs, .int (nI 0), .int (-1), .int (nI cp)])), (p, .inr (2, [.ref pk, .ref pv, .int (nI 0), .int (nI (w + 1))])), (pk, .inl (X.2.1, 512, .inl pkf)), (pv, .inl (X.2.1, 512, .inl pvf)), (h, .inr (2, [.ref hk, .ref hv, .int (nI ((apL Hm (Lg.take (Lg.length * cp / 256))).length)), .int (nI (avL Hm wh (Lg.take (Lg.length * cp / 256))))])), (hk, .inl (X.2.1, 512, .inl hk2)), (hv, .inl (X.2.1, 512, .inl hv2)), (d, .inr (1, [.ref h, .ref lk, .ref lv, .int (nI Lg.length)])), (lk, .inl (X.2.1, 60, .inl lkf)), (lv, .inl (X.2.1, 60, .inl lvf)), (t, .inr (4, [.ref p, .int (nI bk), .int (nI b), .int (nI (bl + 1)), .ref fa, .ref oa, .int f_nn, .int f_dd, .int f_mo])), (fa, .inl (X.2.1, 6 * (bl + 1), .inl ff)), (oa, .inl (X.2.1, 512, .inl o)), (t2, .inr (4, [.ref h, .int (nI bk), .int (nI b), .int (nI (bl + 1)), .ref fa2, .ref oa2, .int e_nn, .int e_dd, .int e_mo])), (fa2, .inl (X.2.1, 6 * (bl + 1), .inl ffb)), (oa2, .inl (X.2.1, 512, .inl ob)), (ch, .inr (0, [.ref ck, .ref cv, .int (nI 0)])), (ck, .inl (X.2.1, 60, .inl ckf)), (cv, .inl (X.2.1, 60, .inl cvf)), (rs, .inr (3, [.ref rk_, .ref rv, .ref rd, .int (nI 0)])), (rk_, .inl (X.2.1, 150, .inl rkf)), (rv, .inl (X.2.1, 150, .inl rvf)), (rd, .inl (X.2.2, 150, .inr (.inl rdf))), (m, .inr (6, [.int (nI bl), .int (nI bk), .int (nI b), .int (nI (2 ^ b)), .ref mn, .ref xr, .ref yr, .ref vr, .ref cr, .ref wr, .int (nI nc), .int (nI 1), .int (-1), .ref wl, .ref wc, .int f_wt, .int f_lv, .int f_fi, .int f_en, .long f_cd, .ref rx, .ref ry, .ref mv, .ref fr, .int (nI 0)])), (mn, .inl (X.2.1, 2, .inl mf)), (xr, .inl (X.2.1, 6600, .inl xf)), (yr, .inl (X.2.1, 6600, .inl yf)), (vr, .inl (X.2.1, 6600, .inl vf)), (cr, .inl (X.2.2, 6600, .inr (.inl cf))), (wr, .inl (X.2.1, 6600, .inl wf)), (wl, .inl (X.2.1, 80, .inl lf)), (wc, .inl (X.2.2, 80, .inr (.inl kf))), (rx, .inl (X.2.1, 150, .inl rxf)), (ry, .inl (X.2.1, 150, .inl ryf)), (mv, .inl (X.2.1, 150, .inl mvf)), (fr, .inl (X.2.2, 150, .inr (.inl frf)))] H := hP
    have hD : va_D A_ [(a, .inr (5, [.int (nI bl), .int (nI bk), .int (nI (2 ^ b)), .ref d, .ref p, .ref t, .ref t2, .ref ch, .ref rs, .int (nI 0), .int (-1), .int (nI cp)])), (p, .inr (2, [.ref pk, .ref pv, .int (nI 0), .int (nI (w + 1))])), (pk, .inl (X.2.1, 512, .inl pkf)), (pv, .inl (X.2.1, 512, .inl pvf)), (h, .inr (2, [.ref hk, .ref hv, .int (nI ((apL Hm (Lg.take (Lg.length * cp / 256))).length)), .int (nI (avL Hm wh (Lg.take (Lg.length * cp / 256))))])), (hk, .inl (X.2.1, 512, .inl hk2)), (hv, .inl (X.2.1, 512, .inl hv2)), (d, .inr (1, [.ref h, .ref lk, .ref lv, .int (nI Lg.length)])), (lk, .inl (X.2.1, 60, .inl lkf)), (lv, .inl (X.2.1, 60, .inl lvf)), (t, .inr (4, [.ref p, .int (nI bk), .int (nI b), .int (nI (bl + 1)), .ref fa, .ref oa, .int f_nn, .int f_dd, .int f_mo])), (fa, .inl (X.2.1, 6 * (bl + 1), .inl ff)), (oa, .inl (X.2.1, 512, .inl o)), (t2, .inr (4, [.ref h, .int (nI bk), .int (nI b), .int (nI (bl + 1)), .ref fa2, .ref oa2, .int e_nn, .int e_dd, .int e_mo])), (fa2, .inl (X.2.1, 6 * (bl + 1), .inl ffb)), (oa2, .inl (X.2.1, 512, .inl ob)), (ch, .inr (0, [.ref ck, .ref cv, .int (nI 0)])), (ck, .inl (X.2.1, 60, .inl ckf)), (cv, .inl (X.2.1, 60, .inl cvf)), (rs, .inr (3, [.ref rk_, .ref rv, .ref rd, .int (nI 0)])), (rk_, .inl (X.2.1, 150, .inl rkf)), (rv, .inl (X.2.1, 150, .inl rvf)), (rd, .inl (X.2.2, 150, .inr (.inl rdf))), (m, .inr (6, [.int (nI bl), .int (nI bk), .int (nI b), .int (nI (2 ^ b)), .ref mn, .ref xr, .ref yr, .ref vr, .ref cr, .ref wr, .int (nI nc), .int (nI 1), .int (-1), .ref wl, .ref wc, .int f_wt, .int f_lv, .int f_fi, .int f_en, .long f_cd, .ref rx, .ref ry, .ref mv, .ref fr, .int (nI 0)])), (mn, .inl (X.2.1, 2, .inl mf)), (xr, .inl (X.2.1, 6600, .inl xf)), (yr, .inl (X.2.1, 6600, .inl yf)), (vr, .inl (X.2.1, 6600, .inl vf)), (cr, .inl (X.2.2, 6600, .inr (.inl cf))), (wr, .inl (X.2.1, 6600, .inl wf)), (wl, .inl (X.2.1, 80, .inl lf)), (wc, .inl (X.2.2, 80, .inr (.inl kf))), (rx, .inl (X.2.1, 150, .inl rxf)), (ry, .inl (X.2.1, 150, .inl ryf)), (mv, .inl (X.2.1, 150, .inl mvf)), (fr, .inl (X.2.2, 150, .inr (.inl frf)))] := hD
    have hE : ra = rb := ha.1.trans hb2.symm
    refine lv_icmp_eq (tgt := 649) hx hb dL_law_578 (by decide) (fun c_578 => ?_) (fun c_578 => ?_)
    · skip
      exact kk _ _ (Or.inr ⟨cp, (w + 1), (avL Hm wh (Lg.take (Lg.length * cp / 256))), nc, ((-1)), f_nn, f_dd, f_mo, e_nn, e_dd, e_mo, f_wt, f_lv, f_fi, f_en, f_cd, pkf, pvf, hk2, hv2, lkf, lvf, ff, o, ffb, ob, ckf, cvf, rkf, rvf, mf, xf, yf, vf, wf, lf, rxf, ryf, mvf, rdf, cf, kf, frf, (apL Hm (Lg.take (Lg.length * cp / 256))), Qm, ZQ, Lg, K, ⟨f_cp, (by omega), (by have h9 := tk_le (Lg.length * cp / 256) Lg; have h7 : Lg.length ≤ 60 := f_l.1; have h8 := av_le (w := wh) f_h.2.2.1 (Lg.take (Lg.length * cp / 256)); omega), ha.2, f_l, (tc_next f_t (Nat.lt_succ_self w) (by omega)), (tc_av f_t2 f_h.2.2.1 _ (by have h9 := tk_le (Lg.length * cp / 256) Lg; have h7 : Lg.length ≤ 60 := f_l.1; omega)), f_m1, ((ap_again f_h.2.2.1 Lg _).trans f_ap), f_tr2, (by omega), (ki_apL _ f_kh (oi_take f_kc _)), f_kc⟩, hP, hD⟩) hS
    · skip
      exact absurd hE c_578
  · skip
    refine lv_aload_n hx hb dL_law_570 rfl (lv_at hl 1 rfl) ?_
    refine ckVi (As := []) (rest := []) 0 [0, 7, 8, 9, 4, 5, 6, 1, 2, 3, 16, 19] (c_X5_recover_n l X a d p t t2 ch rs (2 ^ b) bl bk cp f_ct h lk lv pk pv 0 w hk hv wh ck cv 0 rk_ rv rd 0 (nI 0) lkf lvf pkf pvf hkf hvf Lg Hm f_l f_h hcap hn2) ⟨hx, hb, hml, hown, hts⟩ (cwV 0 hts gL_law_X5_recover rfl rfl rfl (by decide +kernel) ⟨Nat.le_of_ble_eq_true rfl, Nat.le_of_ble_eq_true rfl⟩) hK hN hP hD hS (by decide) rfl (ci := 5) rfl rfl (fun _ => rfl) rfl hl.1 rfl (Nat.le_of_ble_eq_true rfl) dL_law_571 ⟨lroom.1, lroom.2⟩ (fun ra u_3 H locs ha hP hD hS => ?_)
    obtain ⟨hk2, hv2, kf2, vf2⟩ := u_3
    have hP : va_P X.1 vwCl [(a, .inr (5, [.int (nI bl), .int (nI bk), .int (nI (2 ^ b)), .ref d, .ref p, .ref t, .ref t2, .ref ch, .ref rs, .int (nI 1), .int f_ct, .int (nI cp)])), (p, .inr (2, [.ref pk, .ref pv, .int (nI ((apL Hm Lg).length)), .int (nI (w + 1))])), (pk, .inl (X.2.1, 512, .inl kf2)), (pv, .inl (X.2.1, 512, .inl vf2)), (h, .inr (2, [.ref hk, .ref hv, .int (nI ((apL Hm Lg).length)), .int (nI (avL Hm wh Lg))])), (hk, .inl (X.2.1, 512, .inl hk2)), (hv, .inl (X.2.1, 512, .inl hv2)), (d, .inr (1, [.ref h, .ref lk, .ref lv, .int (nI 0)])), (lk, .inl (X.2.1, 60, .inl lkf)), (lv, .inl (X.2.1, 60, .inl lvf)), (t, .inr (4, [.ref p, .int (nI bk), .int (nI b), .int (nI (bl + 1)), .ref fa, .ref oa, .int f_nn, .int f_dd, .int f_mo])), (fa, .inl (X.2.1, 6 * (bl + 1), .inl ff)), (oa, .inl (X.2.1, 512, .inl o)), (t2, .inr (4, [.ref h, .int (nI bk), .int (nI b), .int (nI (bl + 1)), .ref fa2, .ref oa2, .int e_nn, .int e_dd, .int e_mo])), (fa2, .inl (X.2.1, 6 * (bl + 1), .inl ffb)), (oa2, .inl (X.2.1, 512, .inl ob)), (ch, .inr (0, [.ref ck, .ref cv, .int (nI 0)])), (ck, .inl (X.2.1, 60, .inl ckf)), (cv, .inl (X.2.1, 60, .inl cvf)), (rs, .inr (3, [.ref rk_, .ref rv, .ref rd, .int (nI 0)])), (rk_, .inl (X.2.1, 150, .inl rkf)), (rv, .inl (X.2.1, 150, .inl rvf)), (rd, .inl (X.2.2, 150, .inr (.inl rdf))), (m, .inr (6, [.int (nI bl), .int (nI bk), .int (nI b), .int (nI (2 ^ b)), .ref mn, .ref xr, .ref yr, .ref vr, .ref cr, .ref wr, .int (nI nc), .int (nI 1), .int f_ct, .ref wl, .ref wc, .int f_wt, .int f_lv, .int f_fi, .int f_en, .long f_cd, .ref rx, .ref ry, .ref mv, .ref fr, .int (nI 0)])), (mn, .inl (X.2.1, 2, .inl mf)), (xr, .inl (X.2.1, 6600, .inl xf)), (yr, .inl (X.2.1, 6600, .inl yf)), (vr, .inl (X.2.1, 6600, .inl vf)), (cr, .inl (X.2.2, 6600, .inr (.inl cf))), (wr, .inl (X.2.1, 6600, .inl wf)), (wl, .inl (X.2.1, 80, .inl lf)), (wc, .inl (X.2.2, 80, .inr (.inl kf))), (rx, .inl (X.2.1, 150, .inl rxf)), (ry, .inl (X.2.1, 150, .inl ryf)), (mv, .inl (X.2.1, 150, .inl mvf)), (fr, .inl (X.2.2, 150, .inr (.inl frf)))] H := hP
    have hD : va_D A_ [(a, .inr (5, [.int (nI bl), .int (nI bk), .int (nI (2 ^ b)), .ref d, .ref p, .ref t, .ref t2, .ref ch, .ref rs, .int (nI 1), .int f_ct, .int (nI cp)])), (p, .inr (2, [.ref pk, .ref pv, .int (nI ((apL Hm Lg).length)), .int (nI (w + 1))])), (pk, .inl (X.2.1, 512, .inl kf2)), (pv, .inl (X.2.1, 512, .inl vf2)), (h, .inr (2, [.ref hk, .ref hv, .int (nI ((apL Hm Lg).length)), .int (nI (avL Hm wh Lg))])), (hk, .inl (X.2.1, 512, .inl hk2)), (hv, .inl (X.2.1, 512, .inl hv2)), (d, .inr (1, [.ref h, .ref lk, .ref lv, .int (nI 0)])), (lk, .inl (X.2.1, 60, .inl lkf)), (lv, .inl (X.2.1, 60, .inl lvf)), (t, .inr (4, [.ref p, .int (nI bk), .int (nI b), .int (nI (bl + 1)), .ref fa, .ref oa, .int f_nn, .int f_dd, .int f_mo])), (fa, .inl (X.2.1, 6 * (bl + 1), .inl ff)), (oa, .inl (X.2.1, 512, .inl o)), (t2, .inr (4, [.ref h, .int (nI bk), .int (nI b), .int (nI (bl + 1)), .ref fa2, .ref oa2, .int e_nn, .int e_dd, .int e_mo])), (fa2, .inl (X.2.1, 6 * (bl + 1), .inl ffb)), (oa2, .inl (X.2.1, 512, .inl ob)), (ch, .inr (0, [.ref ck, .ref cv, .int (nI 0)])), (ck, .inl (X.2.1, 60, .inl ckf)), (cv, .inl (X.2.1, 60, .inl cvf)), (rs, .inr (3, [.ref rk_, .ref rv, .ref rd, .int (nI 0)])), (rk_, .inl (X.2.1, 150, .inl rkf)), (rv, .inl (X.2.1, 150, .inl rvf)), (rd, .inl (X.2.2, 150, .inr (.inl rdf))), (m, .inr (6, [.int (nI bl), .int (nI bk), .int (nI b), .int (nI (2 ^ b)), .ref mn, .ref xr, .ref yr, .ref vr, .ref cr, .ref wr, .int (nI nc), .int (nI 1), .int f_ct, .ref wl, .ref wc, .int f_wt, .int f_lv, .int f_fi, .int f_en, .long f_cd, .ref rx, .ref ry, .ref mv, .ref fr, .int (nI 0)])), (mn, .inl (X.2.1, 2, .inl mf)), (xr, .inl (X.2.1, 6600, .inl xf)), (yr, .inl (X.2.1, 6600, .inl yf)), (vr, .inl (X.2.1, 6600, .inl vf)), (cr, .inl (X.2.2, 6600, .inr (.inl cf))), (wr, .inl (X.2.1, 6600, .inl wf)), (wl, .inl (X.2.1, 80, .inl lf)), (wc, .inl (X.2.2, 80, .inr (.inl kf))), (rx, .inl (X.2.1, 150, .inl rxf)), (ry, .inl (X.2.1, 150, .inl ryf)), (mv, .inl (X.2.1, 150, .inl mvf)), (fr, .inl (X.2.2, 150, .inr (.inl frf)))] := hD
    try dsimp only at ha
    rw [f_ap] at hP hD
    have hP : va_P X.1 vwCl [(a, .inr (5, [.int (nI bl), .int (nI bk), .int (nI (2 ^ b)), .ref d, .ref p, .ref t, .ref t2, .ref ch, .ref rs, .int (nI 1), .int f_ct, .int (nI cp)])), (p, .inr (2, [.ref pk, .ref pv, .int (nI ((Qm).length)), .int (nI (w + 1))])), (pk, .inl (X.2.1, 512, .inl kf2)), (pv, .inl (X.2.1, 512, .inl vf2)), (h, .inr (2, [.ref hk, .ref hv, .int (nI ((Qm).length)), .int (nI (avL Hm wh Lg))])), (hk, .inl (X.2.1, 512, .inl hk2)), (hv, .inl (X.2.1, 512, .inl hv2)), (d, .inr (1, [.ref h, .ref lk, .ref lv, .int (nI 0)])), (lk, .inl (X.2.1, 60, .inl lkf)), (lv, .inl (X.2.1, 60, .inl lvf)), (t, .inr (4, [.ref p, .int (nI bk), .int (nI b), .int (nI (bl + 1)), .ref fa, .ref oa, .int f_nn, .int f_dd, .int f_mo])), (fa, .inl (X.2.1, 6 * (bl + 1), .inl ff)), (oa, .inl (X.2.1, 512, .inl o)), (t2, .inr (4, [.ref h, .int (nI bk), .int (nI b), .int (nI (bl + 1)), .ref fa2, .ref oa2, .int e_nn, .int e_dd, .int e_mo])), (fa2, .inl (X.2.1, 6 * (bl + 1), .inl ffb)), (oa2, .inl (X.2.1, 512, .inl ob)), (ch, .inr (0, [.ref ck, .ref cv, .int (nI 0)])), (ck, .inl (X.2.1, 60, .inl ckf)), (cv, .inl (X.2.1, 60, .inl cvf)), (rs, .inr (3, [.ref rk_, .ref rv, .ref rd, .int (nI 0)])), (rk_, .inl (X.2.1, 150, .inl rkf)), (rv, .inl (X.2.1, 150, .inl rvf)), (rd, .inl (X.2.2, 150, .inr (.inl rdf))), (m, .inr (6, [.int (nI bl), .int (nI bk), .int (nI b), .int (nI (2 ^ b)), .ref mn, .ref xr, .ref yr, .ref vr, .ref cr, .ref wr, .int (nI nc), .int (nI 1), .int f_ct, .ref wl, .ref wc, .int f_wt, .int f_lv, .int f_fi, .int f_en, .long f_cd, .ref rx, .ref ry, .ref mv, .ref fr, .int (nI 0)])), (mn, .inl (X.2.1, 2, .inl mf)), (xr, .inl (X.2.1, 6600, .inl xf)), (yr, .inl (X.2.1, 6600, .inl yf)), (vr, .inl (X.2.1, 6600, .inl vf)), (cr, .inl (X.2.2, 6600, .inr (.inl cf))), (wr, .inl (X.2.1, 6600, .inl wf)), (wl, .inl (X.2.1, 80, .inl lf)), (wc, .inl (X.2.2, 80, .inr (.inl kf))), (rx, .inl (X.2.1, 150, .inl rxf)), (ry, .inl (X.2.1, 150, .inl ryf)), (mv, .inl (X.2.1, 150, .inl mvf)), (fr, .inl (X.2.2, 150, .inr (.inl frf)))] _ := hP
    have hD : va_D A_ [(a, .inr (5, [.int (nI bl), .int (nI bk), .int (nI (2 ^ b)), .ref d, .ref p, .ref t, .ref t2, .ref ch, .ref rs, .int (nI 1), .int f_ct, .int (nI cp)])), (p, .inr (2, [.ref pk, .ref pv, .int (nI ((Qm).length)), .int (nI (w + 1))])), (pk, .inl (X.2.1, 512, .inl kf2)), (pv, .inl (X.2.1, 512, .inl vf2)), (h, .inr (2, [.ref hk, .ref hv, .int (nI ((Qm).length)), .int (nI (avL Hm wh Lg))])), (hk, .inl (X.2.1, 512, .inl hk2)), (hv, .inl (X.2.1, 512, .inl hv2)), (d, .inr (1, [.ref h, .ref lk, .ref lv, .int (nI 0)])), (lk, .inl (X.2.1, 60, .inl lkf)), (lv, .inl (X.2.1, 60, .inl lvf)), (t, .inr (4, [.ref p, .int (nI bk), .int (nI b), .int (nI (bl + 1)), .ref fa, .ref oa, .int f_nn, .int f_dd, .int f_mo])), (fa, .inl (X.2.1, 6 * (bl + 1), .inl ff)), (oa, .inl (X.2.1, 512, .inl o)), (t2, .inr (4, [.ref h, .int (nI bk), .int (nI b), .int (nI (bl + 1)), .ref fa2, .ref oa2, .int e_nn, .int e_dd, .int e_mo])), (fa2, .inl (X.2.1, 6 * (bl + 1), .inl ffb)), (oa2, .inl (X.2.1, 512, .inl ob)), (ch, .inr (0, [.ref ck, .ref cv, .int (nI 0)])), (ck, .inl (X.2.1, 60, .inl ckf)), (cv, .inl (X.2.1, 60, .inl cvf)), (rs, .inr (3, [.ref rk_, .ref rv, .ref rd, .int (nI 0)])), (rk_, .inl (X.2.1, 150, .inl rkf)), (rv, .inl (X.2.1, 150, .inl rvf)), (rd, .inl (X.2.2, 150, .inr (.inl rdf))), (m, .inr (6, [.int (nI bl), .int (nI bk), .int (nI b), .int (nI (2 ^ b)), .ref mn, .ref xr, .ref yr, .ref vr, .ref cr, .ref wr, .int (nI nc), .int (nI 1), .int f_ct, .ref wl, .ref wc, .int f_wt, .int f_lv, .int f_fi, .int f_en, .long f_cd, .ref rx, .ref ry, .ref mv, .ref fr, .int (nI 0)])), (mn, .inl (X.2.1, 2, .inl mf)), (xr, .inl (X.2.1, 6600, .inl xf)), (yr, .inl (X.2.1, 6600, .inl yf)), (vr, .inl (X.2.1, 6600, .inl vf)), (cr, .inl (X.2.2, 6600, .inr (.inl cf))), (wr, .inl (X.2.1, 6600, .inl wf)), (wl, .inl (X.2.1, 80, .inl lf)), (wc, .inl (X.2.2, 80, .inr (.inl kf))), (rx, .inl (X.2.1, 150, .inl rxf)), (ry, .inl (X.2.1, 150, .inl ryf)), (mv, .inl (X.2.1, 150, .inl mvf)), (fr, .inl (X.2.2, 150, .inr (.inl frf)))] := hD
    rw [f_ap] at ha
    refine lv_aload_n hx hb dL_law_574 rfl (lv_at hl 2 rfl) ?_
    refine ckVi (As := []) (rest := [.int ra]) 0 [23, 24, 25, 26, 27, 28, 29] (c_X6_recover_n l X m bl bk b (2 ^ b) mn xr yr vr cr wr nc wl wc rx ry mv fr (nI 1) f_ct f_wt f_lv f_fi f_en (nI 0) f_cd mf xf yf vf wf cf Qm ZQ f_m1 hn2) ⟨hx, hb, hml, hown, hts⟩ (cwV 0 hts gL_law_X6_recover rfl rfl rfl (by decide +kernel) ⟨Nat.le_of_ble_eq_true rfl, Nat.le_of_ble_eq_true rfl⟩) hK hN hP hD hS (by decide) rfl (ci := 6) rfl rfl (fun _ => rfl) rfl hl.1 rfl (Nat.le_of_ble_eq_true rfl) dL_law_575 ⟨lroom.1, lroom.2⟩ (fun rb u_4 H locs hb2 hP hD hS => ?_)
    obtain ⟨mf2, xf2, yf2, vf3, wf2, cf2⟩ := u_4
    have hP : va_P X.1 vwCl [(a, .inr (5, [.int (nI bl), .int (nI bk), .int (nI (2 ^ b)), .ref d, .ref p, .ref t, .ref t2, .ref ch, .ref rs, .int (nI 1), .int f_ct, .int (nI cp)])), (p, .inr (2, [.ref pk, .ref pv, .int (nI ((Qm).length)), .int (nI (w + 1))])), (pk, .inl (X.2.1, 512, .inl kf2)), (pv, .inl (X.2.1, 512, .inl vf2)), (h, .inr (2, [.ref hk, .ref hv, .int (nI ((Qm).length)), .int (nI (avL Hm wh Lg))])), (hk, .inl (X.2.1, 512, .inl hk2)), (hv, .inl (X.2.1, 512, .inl hv2)), (d, .inr (1, [.ref h, .ref lk, .ref lv, .int (nI 0)])), (lk, .inl (X.2.1, 60, .inl lkf)), (lv, .inl (X.2.1, 60, .inl lvf)), (t, .inr (4, [.ref p, .int (nI bk), .int (nI b), .int (nI (bl + 1)), .ref fa, .ref oa, .int f_nn, .int f_dd, .int f_mo])), (fa, .inl (X.2.1, 6 * (bl + 1), .inl ff)), (oa, .inl (X.2.1, 512, .inl o)), (t2, .inr (4, [.ref h, .int (nI bk), .int (nI b), .int (nI (bl + 1)), .ref fa2, .ref oa2, .int e_nn, .int e_dd, .int e_mo])), (fa2, .inl (X.2.1, 6 * (bl + 1), .inl ffb)), (oa2, .inl (X.2.1, 512, .inl ob)), (ch, .inr (0, [.ref ck, .ref cv, .int (nI 0)])), (ck, .inl (X.2.1, 60, .inl ckf)), (cv, .inl (X.2.1, 60, .inl cvf)), (rs, .inr (3, [.ref rk_, .ref rv, .ref rd, .int (nI 0)])), (rk_, .inl (X.2.1, 150, .inl rkf)), (rv, .inl (X.2.1, 150, .inl rvf)), (rd, .inl (X.2.2, 150, .inr (.inl rdf))), (m, .inr (6, [.int (nI bl), .int (nI bk), .int (nI b), .int (nI (2 ^ b)), .ref mn, .ref xr, .ref yr, .ref vr, .ref cr, .ref wr, .int (nI 0), .int (nI 0), .int f_ct, .ref wl, .ref wc, .int f_wt, .int f_lv, .int f_fi, .int f_en, .long f_cd, .ref rx, .ref ry, .ref mv, .ref fr, .int (nI 0)])), (mn, .inl (X.2.1, 2, .inl mf2)), (xr, .inl (X.2.1, 6600, .inl xf2)), (yr, .inl (X.2.1, 6600, .inl yf2)), (vr, .inl (X.2.1, 6600, .inl vf3)), (cr, .inl (X.2.2, 6600, .inr (.inl cf2))), (wr, .inl (X.2.1, 6600, .inl wf2)), (wl, .inl (X.2.1, 80, .inl lf)), (wc, .inl (X.2.2, 80, .inr (.inl kf))), (rx, .inl (X.2.1, 150, .inl rxf)), (ry, .inl (X.2.1, 150, .inl ryf)), (mv, .inl (X.2.1, 150, .inl mvf)), (fr, .inl (X.2.2, 150, .inr (.inl frf)))] H := hP
    have hD : va_D A_ [(a, .inr (5, [.int (nI bl), .int (nI bk), .int (nI (2 ^ b)), .ref d, .ref p, .ref t, .ref t2, .ref ch, .ref rs, .int (nI 1), .int f_ct, .int (nI cp)])), (p, .inr (2, [.ref pk, .ref pv, .int (nI ((Qm).length)), .int (nI (w + 1))])), (pk, .inl (X.2.1, 512, .inl kf2)), (pv, .inl (X.2.1, 512, .inl vf2)), (h, .inr (2, [.ref hk, .ref hv, .int (nI ((Qm).length)), .int (nI (avL Hm wh Lg))])), (hk, .inl (X.2.1, 512, .inl hk2)), (hv, .inl (X.2.1, 512, .inl hv2)), (d, .inr (1, [.ref h, .ref lk, .ref lv, .int (nI 0)])), (lk, .inl (X.2.1, 60, .inl lkf)), (lv, .inl (X.2.1, 60, .inl lvf)), (t, .inr (4, [.ref p, .int (nI bk), .int (nI b), .int (nI (bl + 1)), .ref fa, .ref oa, .int f_nn, .int f_dd, .int f_mo])), (fa, .inl (X.2.1, 6 * (bl + 1), .inl ff)), (oa, .inl (X.2.1, 512, .inl o)), (t2, .inr (4, [.ref h, .int (nI bk), .int (nI b), .int (nI (bl + 1)), .ref fa2, .ref oa2, .int e_nn, .int e_dd, .int e_mo])), (fa2, .inl (X.2.1, 6 * (bl + 1), .inl ffb)), (oa2, .inl (X.2.1, 512, .inl ob)), (ch, .inr (0, [.ref ck, .ref cv, .int (nI 0)])), (ck, .inl (X.2.1, 60, .inl ckf)), (cv, .inl (X.2.1, 60, .inl cvf)), (rs, .inr (3, [.ref rk_, .ref rv, .ref rd, .int (nI 0)])), (rk_, .inl (X.2.1, 150, .inl rkf)), (rv, .inl (X.2.1, 150, .inl rvf)), (rd, .inl (X.2.2, 150, .inr (.inl rdf))), (m, .inr (6, [.int (nI bl), .int (nI bk), .int (nI b), .int (nI (2 ^ b)), .ref mn, .ref xr, .ref yr, .ref vr, .ref cr, .ref wr, .int (nI 0), .int (nI 0), .int f_ct, .ref wl, .ref wc, .int f_wt, .int f_lv, .int f_fi, .int f_en, .long f_cd, .ref rx, .ref ry, .ref mv, .ref fr, .int (nI 0)])), (mn, .inl (X.2.1, 2, .inl mf2)), (xr, .inl (X.2.1, 6600, .inl xf2)), (yr, .inl (X.2.1, 6600, .inl yf2)), (vr, .inl (X.2.1, 6600, .inl vf3)), (cr, .inl (X.2.2, 6600, .inr (.inl cf2))), (wr, .inl (X.2.1, 6600, .inl wf2)), (wl, .inl (X.2.1, 80, .inl lf)), (wc, .inl (X.2.2, 80, .inr (.inl kf))), (rx, .inl (X.2.1, 150, .inl rxf)), (ry, .inl (X.2.1, 150, .inl ryf)), (mv, .inl (X.2.1, 150, .inl mvf)), (fr, .inl (X.2.2, 150, .inr (.inl frf)))] := hD
    try dsimp only at hb2
    have hE : ra = rb := ha.1.trans hb2.1.symm
    refine lv_icmp_eq (tgt := 649) hx hb dL_law_578 (by decide) (fun c_578 => ?_) (fun c_578 => ?_)
    · skip
      exact kk _ _ (Or.inl ⟨cp, (w + 1), (avL Hm wh Lg), f_ct, f_nn, f_dd, f_mo, e_nn, e_dd, e_mo, f_wt, f_lv, f_fi, f_en, f_cd, kf2, vf2, hk2, hv2, lkf, lvf, ff, o, ffb, ob, ckf, cvf, rkf, rvf, mf2, xf2, yf2, vf3, wf2, lf, rxf, ryf, mvf, rdf, cf2, kf, frf, Qm, Qm, ZQ, ZQ, (([] : List Op)), (([] : RSL)), K, ⟨f_cp, (by omega), (by have h7 := f_l.1; have h8 := av_le (w := wh) f_h.2.2.1 Lg; omega), ha.2.2, ha.2.1, ch_nil, rs_nil, (tc_next f_t (Nat.lt_succ_self w) (by omega)), (by have h9 := tc_av f_t2 f_h.2.2.1 Lg (by have h7 := f_l.1; omega); rw [f_ap] at h9; exact h9), hb2.2.1, hb2.2.2, mR_nil, rfl, f_tr2, f_tr2, (by omega), (f_ap ▸ ki_apL Lg f_kh f_kc), oi_nil⟩, hP, hD⟩) hS
    · skip
      exact absurd hE c_578
