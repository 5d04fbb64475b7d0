/-! PointStoreModel: count, nearest, differs: contracts, laid by program (wip/gen/spec_m6.py) -/
set_option maxHeartbeats 4000000 in
set_option maxRecDepth 100000 in
theorem c_X6_count (l : Launch) (X : kX) (m bl bk b sp mn xr yr vr cr wr nc wl wc rx ry rv fr : Nat) (f_ar f_wt f_lv f_fi f_en f_rs : Int32) (f_cd : Int64) (x : Int32) (mf xf yf vf wf : Nat → Int32) (cf : Nat → Int64) (lf : Nat → Int32) (kf : Nat → Int64) (P ZP Qm ZQm : PL) (h0 : mSt b mf xf yf vf wf cf 0 P ZP) (h1 : mSt b mf xf yf vf wf cf 1 Qm ZQm) (hb1 : b ≤ 15) (hf1 : (tr bk b 0 0 P).length ≤ bl) (hbk : 1 ≤ bk) (hbk2 : bk ≤ 8) : CWi l X yX6_count wsX6_count 5 [.ref m, .int x] [(m, .inr (6, [.int (nI bl), .int (nI bk), .int (nI b), .int (nI sp), .ref mn, .ref xr, .ref yr, .ref vr, .ref cr, .ref wr, .int (nI nc), .int (nI 0), .int f_ar, .ref wl, .ref wc, .int f_wt, .int f_lv, .int f_fi, .int f_en, .long f_cd, .ref rx, .ref ry, .ref rv, .ref fr, .int f_rs])), (mn, .inl (X.2.1, 2, .inl mf)), (cr, .inl (X.2.2, 6600, .inr (.inl cf))), (wl, .inl (X.2.1, 80, .inl lf)), (wc, .inl (X.2.2, 80, .inr (.inl kf)))] (S := ((Nat → Int32) × (Nat → Int64)) × (Int32 × Int32 × Int32 × Int32 × Int64)) (fun r _ => r = cntV bk b bl sp P Qm nc f_ar x) (fun ⟨⟨lf2, kf2⟩, ⟨g_wt, g_lv, g_fi, g_en, g_cd⟩⟩ => [(m, .inr (6, [.int (nI bl), .int (nI bk), .int (nI b), .int (nI sp), .ref mn, .ref xr, .ref yr, .ref vr, .ref cr, .ref wr, .int (nI nc), .int (nI 0), .int f_ar, .ref wl, .ref wc, .int g_wt, .int g_lv, .int g_fi, .int g_en, .long g_cd, .ref rx, .ref ry, .ref rv, .ref fr, .int f_rs])), (mn, .inl (X.2.1, 2, .inl mf)), (cr, .inl (X.2.2, 6600, .inr (.inl cf))), (wl, .inl (X.2.1, 80, .inl lf2)), (wc, .inl (X.2.2, 80, .inr (.inl kf2)))]) := by
  refine Met.ofW (cc := cX6_count) (maxL := 2) (ret := some (.int)) (by decide) rfl ?_
  intro pz ez sz mz args below meth cz s₁ Bz hml hv
  obtain ⟨rfl, hP, hK, hD0, hN⟩ := hv
  have hx := Bz.exec
  have hb := Bz.bytes
  have hr := Bz.returns
  have hts := atoms_spec (ws := wsX6_count) Bz.pre
  have hown : sz.vm.findClass RX6 = some mz.cls := findClass_of_methodNamed Bz.named
  have hlocks := Bz.notSynchronized
  have hD := inW.self hD0
  have hS : va_S (inW [(m, .inr (6, [.int (nI bl), .int (nI bk), .int (nI b), .int (nI sp), .ref mn, .ref xr, .ref yr, .ref vr, .ref cr, .ref wr, .int (nI nc), .int (nI 0), .int f_ar, .ref wl, .ref wc, .int f_wt, .int f_lv, .int f_fi, .int f_en, .long f_cd, .ref rx, .ref ry, .ref rv, .ref fr, .int f_rs])), (mn, .inl (X.2.1, 2, .inl mf)), (cr, .inl (X.2.2, 6600, .inr (.inl cf))), (wl, .inl (X.2.1, 80, .inl lf)), (wc, .inl (X.2.2, 80, .inr (.inl kf)))]) sz.heap sz.heap [] := va_S.rf
  have hl := lv_entry ([.ref m, .int x]) (n := 2) (Nat.le_of_ble_eq_true rfl)
  rw [lg_entry_eq]
  generalize (lg_sl ([.ref m, .int x]) ++ List.replicate (2 - (lg_sl ([.ref m, .int x])).length) Slot.unset).toArray = ls at hl ⊢
  have hl : lv_has ls 2 [(0, .ref m), (1, .int x)] := hl
  have lk7 := hts (.fieldLink RX6 7 "PointStoreModel" "many" "[I") (by decide +kernel)
  have lk29 := hts (.fieldLink RX6 29 "PointStoreModel" "armed" "I") (by decide +kernel)
  have lk51 := hts (.fieldLink RX6 51 "PointStoreModel" "blocks" "I") (by decide +kernel)
  have lk54 := hts (.fieldLink RX6 54 "PointStoreModel" "bucket" "I") (by decide +kernel)
  have lk60 := hts (.fieldLink RX6 60 "PointStoreModel" "span" "I") (by decide +kernel)
  have lk71 := hts (.fieldLink RX6 71 "PointStoreModel" "changes" "I") (by decide +kernel)
  have lk105 := hts (.fieldLink RX6 105 "PointStoreModel" "isOff" "Z") (by decide +kernel)
  have hin6 : ∀ w ∈ u_ws RX6 TX6 25, w ∈ wsX6_count := by decide +kernel
  refine wQ (fun Q hQ => ?_)
  generalize hAe : inW [(m, .inr (6, [.int (nI bl), .int (nI bk), .int (nI b), .int (nI sp), .ref mn, .ref xr, .ref yr, .ref vr, .ref cr, .ref wr, .int (nI nc), .int (nI 0), .int f_ar, .ref wl, .ref wc, .int f_wt, .int f_lv, .int f_fi, .int f_en, .long f_cd, .ref rx, .ref ry, .ref rv, .ref fr, .int f_rs])), (mn, .inl (X.2.1, 2, .inl mf)), (cr, .inl (X.2.2, 6600, .inr (.inl cf))), (wl, .inl (X.2.1, 80, .inl lf)), (wc, .inl (X.2.2, 80, .inr (.inl kf)))] = A_ at hD hS hQ
  refine lv_aload_n hx hb dX6_count_0 rfl (lv_at hl 0 rfl) ?_
  refine va_get (D := X.1) (ci := 6) (v := .int (nI 0)) (C := RX6) (T := TX6) (N := 25) hx hb hts hin6 hown hK hP 0 rfl rfl 11 (by decide) lk105 (fun _ h9 => h9) rfl dX6_count_1 ?_
  refine lv_if_eq (tgt := 10) hx hb dX6_count_4 (by decide) (fun c_4 => ?_) (fun c_4 => ?_)
  · skip
    refine lv_iload_n hx hb dX6_count_10 rfl (lv_at hl 1 rfl) ?_
    rcases sw_cases x 11 with h_11 | h_11
    · refine lv_tableOut (tgt := 135) hx hb dX6_count_11 (by rcases h_11 with h9 | h9; exact Or.inl h9; right; omega) (by decide) ?_
      refine lv_iconst (v := (-1)) hx hb dX6_count_135 (by decide) ?_
      refine wM hQ ?_
      exact rtI ((lf, kf), (f_wt, f_lv, f_fi, f_en, f_cd)) hx hb hr hlocks hP hS ((by show _ = _; unfold cntV; rw [cif_neg (sw_ne h_11 (by decide) (by decide)), cif_neg (sw_ne h_11 (by decide) (by decide)), cif_neg (sw_ne h_11 (by decide) (by decide)), cif_neg (sw_ne h_11 (by decide) (by decide)), cif_neg (sw_ne h_11 (by decide) (by decide)), cif_neg (sw_ne h_11 (by decide) (by decide)), cif_neg (sw_ne h_11 (by decide) (by decide)), cif_neg (sw_ne h_11 (by decide) (by decide)), cif_neg (sw_ne h_11 (by decide) (by decide)), cif_neg (sw_ne h_11 (by decide) (by decide)), cif_neg (sw_ne h_11 (by decide) (by decide))])) dX6_count_136
    · obtain ⟨j_11, hj_11, rfl⟩ := h_11
      rcases sw_lt11 hj_11 with rfl | rfl | rfl | rfl | rfl | rfl | rfl | rfl | rfl | rfl | rfl
      · refine lv_tableIn (tgt := 68) hx hb dX6_count_11 (by decide) (by decide) rfl (by decide) ?_
        refine lv_aload_n hx hb dX6_count_68 rfl (lv_at hl 0 rfl) ?_
        refine va_get (D := X.1) (ci := 6) (v := .ref mn) (C := RX6) (T := TX6) (N := 25) hx hb hts hin6 hown hK hP 0 rfl rfl 4 (by decide) lk7 (fun _ h9 => h9) rfl dX6_count_69 ?_
        refine lv_iconst (v := nI 0) hx hb dX6_count_72 (by decide) ?_
        have hi_1 : vp_in (nI 0) 2 := vp_in_nI (by omega) (by omega)
        refine va_iald hx hb hK hP 1 0 rfl rfl hi_1 dX6_count_73 ?_
        refine lv_topi (fun x_2 ex_2 => ?_)
        obtain rfl : x_2 = mf 0 := by
          rw [ex_2]
          rw [nI_clamp (by omega)]
        refine lv_topi (fun x_3 ex_3 => ?_)
        obtain rfl : x_3 = nI P.length := by
          rw [ex_3]
          exact h0.m
        refine wM hQ ?_
        exact rtI ((lf, kf), (f_wt, f_lv, f_fi, f_en, f_cd)) hx hb hr hlocks hP hS ((by show _ = _; unfold cntV; rw [cif_pos rfl])) dX6_count_74
      · refine lv_tableIn (tgt := 75) hx hb dX6_count_11 (by decide) (by decide) rfl (by decide) ?_
        refine lv_aload_n hx hb dX6_count_75 rfl (lv_at hl 0 rfl) ?_
        refine va_get (D := X.1) (ci := 6) (v := .ref mn) (C := RX6) (T := TX6) (N := 25) hx hb hts hin6 hown hK hP 0 rfl rfl 4 (by decide) lk7 (fun _ h9 => h9) rfl dX6_count_76 ?_
        refine lv_iconst (v := nI 1) hx hb dX6_count_79 (by decide) ?_
        have hi_4 : vp_in (nI 1) 2 := vp_in_nI (by omega) (by omega)
        refine va_iald hx hb hK hP 1 0 rfl rfl hi_4 dX6_count_80 ?_
        refine lv_topi (fun x_5 ex_5 => ?_)
        obtain rfl : x_5 = mf 1 := by
          rw [ex_5]
          rw [nI_clamp (by omega)]
        refine lv_topi (fun x_6 ex_6 => ?_)
        obtain rfl : x_6 = nI Qm.length := by
          rw [ex_6]
          exact h1.m
        refine wM hQ ?_
        exact rtI ((lf, kf), (f_wt, f_lv, f_fi, f_en, f_cd)) hx hb hr hlocks hP hS ((by show _ = _; unfold cntV; rw [cif_neg (by decide), cif_pos rfl])) dX6_count_81
      · refine lv_tableIn (tgt := 82) hx hb dX6_count_11 (by decide) (by decide) rfl (by decide) ?_
        refine lv_aload_n hx hb dX6_count_82 rfl (lv_at hl 0 rfl) ?_
        refine lv_iconst (v := nI 0) hx hb dX6_count_83 (by decide) ?_
        refine ckVi (As := [.int (nI 0)]) (rest := []) 0 [0, 1, 2, 3, 4] (c_X6_nodes l X m bl bk b sp mn xr yr vr cr wr nc wl wc rx ry rv fr (nI 0) f_ar f_wt f_lv f_fi f_en f_rs f_cd 0 mf cf P ZP (by decide) h0.mz h0.C h0.Z h0.I h0.L hb1 lf kf hbk hbk2) ⟨hx, hb, hml, hown, hts⟩ (cwV 1 hts gX6_count_X6_nodes rfl rfl rfl (by decide +kernel) ⟨Nat.le_of_ble_eq_true rfl, Nat.le_of_ble_eq_true rfl⟩) hK hN hP hD hS (by decide) rfl (ci := 6) rfl rfl (fun _ => rfl) rfl hl.1 rfl (Nat.le_of_ble_eq_true rfl) dX6_count_84 ⟨Nat.zero_le _, Nat.zero_le _⟩ (fun r_8 u_7 H locs hc_84 hP hD hS => ?_)
        obtain ⟨⟨lf2, kf2⟩, ⟨g_wt, g_lv, g_fi, g_en, g_cd⟩⟩ := u_7
        have hP : va_P X.1 vwCl [(m, .inr (6, [.int (nI bl), .int (nI bk), .int (nI b), .int (nI sp), .ref mn, .ref xr, .ref yr, .ref vr, .ref cr, .ref wr, .int (nI nc), .int (nI 0), .int f_ar, .ref wl, .ref wc, .int g_wt, .int g_lv, .int g_fi, .int g_en, .long g_cd, .ref rx, .ref ry, .ref rv, .ref fr, .int f_rs])), (mn, .inl (X.2.1, 2, .inl mf)), (cr, .inl (X.2.2, 6600, .inr (.inl cf))), (wl, .inl (X.2.1, 80, .inl lf2)), (wc, .inl (X.2.2, 80, .inr (.inl kf2)))] H := hP
        have hD : va_D A_ [(m, .inr (6, [.int (nI bl), .int (nI bk), .int (nI b), .int (nI sp), .ref mn, .ref xr, .ref yr, .ref vr, .ref cr, .ref wr, .int (nI nc), .int (nI 0), .int f_ar, .ref wl, .ref wc, .int g_wt, .int g_lv, .int g_fi, .int g_en, .long g_cd, .ref rx, .ref ry, .ref rv, .ref fr, .int f_rs])), (mn, .inl (X.2.1, 2, .inl mf)), (cr, .inl (X.2.2, 6600, .inr (.inl cf))), (wl, .inl (X.2.1, 80, .inl lf2)), (wc, .inl (X.2.2, 80, .inr (.inl kf2)))] := hD
        try dsimp only at hc_84
        subst hc_84
        refine wM hQ ?_
        exact rtI ((lf2, kf2), (g_wt, g_lv, g_fi, g_en, g_cd)) hx hb hr hlocks hP hS ((by show _ = _; unfold cntV; rw [cif_neg (by decide), cif_neg (by decide), cif_pos rfl])) dX6_count_87
      · refine lv_tableIn (tgt := 88) hx hb dX6_count_11 (by decide) (by decide) rfl (by decide) ?_
        refine lv_aload_n hx hb dX6_count_88 rfl (lv_at hl 0 rfl) ?_
        refine lv_iconst (v := nI 1) hx hb dX6_count_89 (by decide) ?_
        refine ckVi (As := [.int (nI 1)]) (rest := []) 0 [0, 1, 2, 3, 4] (c_X6_nodes l X m bl bk b sp mn xr yr vr cr wr nc wl wc rx ry rv fr (nI 0) f_ar f_wt f_lv f_fi f_en f_rs f_cd 1 mf cf Qm ZQm (by decide) h1.mz h1.C h1.Z h1.I h1.L hb1 lf kf hbk hbk2) ⟨hx, hb, hml, hown, hts⟩ (cwV 1 hts gX6_count_X6_nodes rfl rfl rfl (by decide +kernel) ⟨Nat.le_of_ble_eq_true rfl, Nat.le_of_ble_eq_true rfl⟩) hK hN hP hD hS (by decide) rfl (ci := 6) rfl rfl (fun _ => rfl) rfl hl.1 rfl (Nat.le_of_ble_eq_true rfl) dX6_count_90 ⟨Nat.zero_le _, Nat.zero_le _⟩ (fun r_10 u_9 H locs hc_90 hP hD hS => ?_)
        obtain ⟨⟨lf2, kf2⟩, ⟨g_wt, g_lv, g_fi, g_en, g_cd⟩⟩ := u_9
        have hP : va_P X.1 vwCl [(m, .inr (6, [.int (nI bl), .int (nI bk), .int (nI b), .int (nI sp), .ref mn, .ref xr, .ref yr, .ref vr, .ref cr, .ref wr, .int (nI nc), .int (nI 0), .int f_ar, .ref wl, .ref wc, .int g_wt, .int g_lv, .int g_fi, .int g_en, .long g_cd, .ref rx, .ref ry, .ref rv, .ref fr, .int f_rs])), (mn, .inl (X.2.1, 2, .inl mf)), (cr, .inl (X.2.2, 6600, .inr (.inl cf))), (wl, .inl (X.2.1, 80, .inl lf2)), (wc, .inl (X.2.2, 80, .inr (.inl kf2)))] H := hP
        have hD : va_D A_ [(m, .inr (6, [.int (nI bl), .int (nI bk), .int (nI b), .int (nI sp), .ref mn, .ref xr, .ref yr, .ref vr, .ref cr, .ref wr, .int (nI nc), .int (nI 0), .int f_ar, .ref wl, .ref wc, .int g_wt, .int g_lv, .int g_fi, .int g_en, .long g_cd, .ref rx, .ref ry, .ref rv, .ref fr, .int f_rs])), (mn, .inl (X.2.1, 2, .inl mf)), (cr, .inl (X.2.2, 6600, .inr (.inl cf))), (wl, .inl (X.2.1, 80, .inl lf2)), (wc, .inl (X.2.2, 80, .inr (.inl kf2)))] := hD
        try dsimp only at hc_90
        subst hc_90
        refine wM hQ ?_
        exact rtI ((lf2, kf2), (g_wt, g_lv, g_fi, g_en, g_cd)) hx hb hr hlocks hP hS ((by show _ = _; unfold cntV; rw [cif_neg (by decide), cif_neg (by decide), cif_neg (by decide), cif_pos rfl])) dX6_count_93
      · refine lv_tableIn (tgt := 94) hx hb dX6_count_11 (by decide) (by decide) rfl (by decide) ?_
        refine lv_aload_n hx hb dX6_count_94 rfl (lv_at hl 0 rfl) ?_
        refine va_get (D := X.1) (ci := 6) (v := .int (nI bl)) (C := RX6) (T := TX6) (N := 25) hx hb hts hin6 hown hK hP 0 rfl rfl 0 (by decide) lk51 (fun _ h9 => h9) rfl dX6_count_95 ?_
        refine lv_aload_n hx hb dX6_count_98 rfl (lv_at hl 0 rfl) ?_
        refine lv_iconst (v := nI 0) hx hb dX6_count_99 (by decide) ?_
        refine ckVi (As := [.int (nI 0)]) (rest := [.int (nI bl)]) 0 [0, 1, 2, 3, 4] (c_X6_nodes l X m bl bk b sp mn xr yr vr cr wr nc wl wc rx ry rv fr (nI 0) f_ar f_wt f_lv f_fi f_en f_rs f_cd 0 mf cf P ZP (by decide) h0.mz h0.C h0.Z h0.I h0.L hb1 lf kf hbk hbk2) ⟨hx, hb, hml, hown, hts⟩ (cwV 1 hts gX6_count_X6_nodes rfl rfl rfl (by decide +kernel) ⟨Nat.le_of_ble_eq_true rfl, Nat.le_of_ble_eq_true rfl⟩) hK hN hP hD hS (by decide) rfl (ci := 6) rfl rfl (fun _ => rfl) rfl hl.1 rfl (Nat.le_of_ble_eq_true rfl) dX6_count_100 ⟨Nat.zero_le _, Nat.zero_le _⟩ (fun r_12 u_11 H locs hc_100 hP hD hS => ?_)
        obtain ⟨⟨lf2, kf2⟩, ⟨g_wt, g_lv, g_fi, g_en, g_cd⟩⟩ := u_11
        have hP : va_P X.1 vwCl [(m, .inr (6, [.int (nI bl), .int (nI bk), .int (nI b), .int (nI sp), .ref mn, .ref xr, .ref yr, .ref vr, .ref cr, .ref wr, .int (nI nc), .int (nI 0), .int f_ar, .ref wl, .ref wc, .int g_wt, .int g_lv, .int g_fi, .int g_en, .long g_cd, .ref rx, .ref ry, .ref rv, .ref fr, .int f_rs])), (mn, .inl (X.2.1, 2, .inl mf)), (cr, .inl (X.2.2, 6600, .inr (.inl cf))), (wl, .inl (X.2.1, 80, .inl lf2)), (wc, .inl (X.2.2, 80, .inr (.inl kf2)))] H := hP
        have hD : va_D A_ [(m, .inr (6, [.int (nI bl), .int (nI bk), .int (nI b), .int (nI sp), .ref mn, .ref xr, .ref yr, .ref vr, .ref cr, .ref wr, .int (nI nc), .int (nI 0), .int f_ar, .ref wl, .ref wc, .int g_wt, .int g_lv, .int g_fi, .int g_en, .long g_cd, .ref rx, .ref ry, .ref rv, .ref fr, .int f_rs])), (mn, .inl (X.2.1, 2, .inl mf)), (cr, .inl (X.2.2, 6600, .inr (.inl cf))), (wl, .inl (X.2.1, 80, .inl lf2)), (wc, .inl (X.2.2, 80, .inr (.inl kf2)))] := hD
        try dsimp only at hc_100
        subst hc_100
        refine lv_isub hx hb dX6_count_103 ?_
        refine lv_topi (fun x_13 ex_13 => ?_)
        obtain rfl : x_13 = nI (bl - ((tr bk b 0 0 P).length)) := by
          rw [ex_13]
          exact pk_sub (by omega)
        refine wM hQ ?_
        exact rtI ((lf2, kf2), (g_wt, g_lv, g_fi, g_en, g_cd)) hx hb hr hlocks hP hS ((by show _ = _; unfold cntV; rw [cif_neg (by decide), cif_neg (by decide), cif_neg (by decide), cif_neg (by decide), cif_pos rfl])) dX6_count_104
      · refine lv_tableIn (tgt := 105) hx hb dX6_count_11 (by decide) (by decide) rfl (by decide) ?_
        refine lv_aload_n hx hb dX6_count_105 rfl (lv_at hl 0 rfl) ?_
        refine va_get (D := X.1) (ci := 6) (v := .int (nI nc)) (C := RX6) (T := TX6) (N := 25) hx hb hts hin6 hown hK hP 0 rfl rfl 10 (by decide) lk71 (fun _ h9 => h9) rfl dX6_count_106 ?_
        refine wM hQ ?_
        exact rtI ((lf, kf), (f_wt, f_lv, f_fi, f_en, f_cd)) hx hb hr hlocks hP hS ((by show _ = _; unfold cntV; rw [cif_neg (by decide), cif_neg (by decide), cif_neg (by decide), cif_neg (by decide), cif_neg (by decide), cif_pos rfl])) dX6_count_109
      · refine lv_tableIn (tgt := 110) hx hb dX6_count_11 (by decide) (by decide) rfl (by decide) ?_
        refine lv_aload_n hx hb dX6_count_110 rfl (lv_at hl 0 rfl) ?_
        refine ckVi (As := []) (rest := []) 0 [0, 1, 2, 3, 4] (c_X6_depth l X m bl bk b sp mn xr yr vr cr wr nc wl wc rx ry rv fr (nI 0) f_ar f_wt f_lv f_fi f_en f_rs f_cd mf cf P ZP h0.mz h0.C h0.Z h0.I h0.L hb1 lf kf hbk hbk2) ⟨hx, hb, hml, hown, hts⟩ (cwV 0 hts gX6_count_X6_depth rfl rfl rfl (by decide +kernel) ⟨Nat.le_of_ble_eq_true rfl, Nat.le_of_ble_eq_true rfl⟩) hK hN hP hD hS (by decide) rfl (ci := 6) rfl rfl (fun _ => rfl) rfl hl.1 rfl (Nat.le_of_ble_eq_true rfl) dX6_count_111 ⟨Nat.zero_le _, Nat.zero_le _⟩ (fun r_15 u_14 H locs hc_111 hP hD hS => ?_)
        obtain ⟨⟨lf2, kf2⟩, ⟨g_wt, g_lv, g_fi, g_en, g_cd⟩⟩ := u_14
        have hP : va_P X.1 vwCl [(m, .inr (6, [.int (nI bl), .int (nI bk), .int (nI b), .int (nI sp), .ref mn, .ref xr, .ref yr, .ref vr, .ref cr, .ref wr, .int (nI nc), .int (nI 0), .int f_ar, .ref wl, .ref wc, .int g_wt, .int g_lv, .int g_fi, .int g_en, .long g_cd, .ref rx, .ref ry, .ref rv, .ref fr, .int f_rs])), (mn, .inl (X.2.1, 2, .inl mf)), (cr, .inl (X.2.2, 6600, .inr (.inl cf))), (wl, .inl (X.2.1, 80, .inl lf2)), (wc, .inl (X.2.2, 80, .inr (.inl kf2)))] H := hP
        have hD : va_D A_ [(m, .inr (6, [.int (nI bl), .int (nI bk), .int (nI b), .int (nI sp), .ref mn, .ref xr, .ref yr, .ref vr, .ref cr, .ref wr, .int (nI nc), .int (nI 0), .int f_ar, .ref wl, .ref wc, .int g_wt, .int g_lv, .int g_fi, .int g_en, .long g_cd, .ref rx, .ref ry, .ref rv, .ref fr, .int f_rs])), (mn, .inl (X.2.1, 2, .inl mf)), (cr, .inl (X.2.2, 6600, .inr (.inl cf))), (wl, .inl (X.2.1, 80, .inl lf2)), (wc, .inl (X.2.2, 80, .inr (.inl kf2)))] := hD
        try dsimp only at hc_111
        subst hc_111
        refine wM hQ ?_
        exact rtI ((lf2, kf2), (g_wt, g_lv, g_fi, g_en, g_cd)) hx hb hr hlocks hP hS ((by show _ = _; unfold cntV; rw [cif_neg (by decide), cif_neg (by decide), cif_neg (by decide), cif_neg (by decide), cif_neg (by decide), cif_neg (by decide), cif_pos rfl])) dX6_count_114
      · refine lv_tableIn (tgt := 115) hx hb dX6_count_11 (by decide) (by decide) rfl (by decide) ?_
        refine lv_aload_n hx hb dX6_count_115 rfl (lv_at hl 0 rfl) ?_
        refine va_get (D := X.1) (ci := 6) (v := .int f_ar) (C := RX6) (T := TX6) (N := 25) hx hb hts hin6 hown hK hP 0 rfl rfl 12 (by decide) lk29 (fun _ h9 => h9) rfl dX6_count_116 ?_
        refine wM hQ ?_
        exact rtI ((lf, kf), (f_wt, f_lv, f_fi, f_en, f_cd)) hx hb hr hlocks hP hS ((by show _ = _; unfold cntV; rw [cif_neg (by decide), cif_neg (by decide), cif_neg (by decide), cif_neg (by decide), cif_neg (by decide), cif_neg (by decide), cif_neg (by decide), cif_pos rfl])) dX6_count_119
      · refine lv_tableIn (tgt := 120) hx hb dX6_count_11 (by decide) (by decide) rfl (by decide) ?_
        refine lv_aload_n hx hb dX6_count_120 rfl (lv_at hl 0 rfl) ?_
        refine va_get (D := X.1) (ci := 6) (v := .int (nI bl)) (C := RX6) (T := TX6) (N := 25) hx hb hts hin6 hown hK hP 0 rfl rfl 0 (by decide) lk51 (fun _ h9 => h9) rfl dX6_count_121 ?_
        refine wM hQ ?_
        exact rtI ((lf, kf), (f_wt, f_lv, f_fi, f_en, f_cd)) hx hb hr hlocks hP hS ((by show _ = _; unfold cntV; rw [cif_neg (by decide), cif_neg (by decide), cif_neg (by decide), cif_neg (by decide), cif_neg (by decide), cif_neg (by decide), cif_neg (by decide), cif_neg (by decide), cif_pos rfl])) dX6_count_124
      · refine lv_tableIn (tgt := 125) hx hb dX6_count_11 (by decide) (by decide) rfl (by decide) ?_
        refine lv_aload_n hx hb dX6_count_125 rfl (lv_at hl 0 rfl) ?_
        refine va_get (D := X.1) (ci := 6) (v := .int (nI bk)) (C := RX6) (T := TX6) (N := 25) hx hb hts hin6 hown hK hP 0 rfl rfl 1 (by decide) lk54 (fun _ h9 => h9) rfl dX6_count_126 ?_
        refine wM hQ ?_
        exact rtI ((lf, kf), (f_wt, f_lv, f_fi, f_en, f_cd)) hx hb hr hlocks hP hS ((by show _ = _; unfold cntV; rw [cif_neg (by decide), cif_neg (by decide), cif_neg (by decide), cif_neg (by decide), cif_neg (by decide), cif_neg (by decide), cif_neg (by decide), cif_neg (by decide), cif_neg (by decide), cif_pos rfl])) dX6_count_129
      · refine lv_tableIn (tgt := 130) hx hb dX6_count_11 (by decide) (by decide) rfl (by decide) ?_
        refine lv_aload_n hx hb dX6_count_130 rfl (lv_at hl 0 rfl) ?_
        refine va_get (D := X.1) (ci := 6) (v := .int (nI sp)) (C := RX6) (T := TX6) (N := 25) hx hb hts hin6 hown hK hP 0 rfl rfl 3 (by decide) lk60 (fun _ h9 => h9) rfl dX6_count_131 ?_
        refine wM hQ ?_
        exact rtI ((lf, kf), (f_wt, f_lv, f_fi, f_en, f_cd)) hx hb hr hlocks hP hS ((by show _ = _; unfold cntV; rw [cif_neg (by decide), cif_neg (by decide), cif_neg (by decide), cif_neg (by decide), cif_neg (by decide), cif_neg (by decide), cif_neg (by decide), cif_neg (by decide), cif_neg (by decide), cif_neg (by decide), cif_pos rfl])) dX6_count_134
  · exact absurd c_4 (by decide)
set_option maxHeartbeats 4000000 in
set_option maxRecDepth 100000 in
theorem c_X6_nearest (l : Launch) (X : kX) (m bl bk b sp mn xr yr vr cr wr nc wl wc rx ry rv fr : Nat) (f_ar f_wt f_lv f_fi f_en : Int32) (f_cd : Int64) (s_ x y kq : Int32) (rxf ryf rvf : Nat → Int32) (frf : Nat → Int64) (R : RSL) (h3 : mR rxf ryf rvf R) (mf xf yf vf wf : Nat → Int32) (cf : Nat → Int64) (P ZP Qm ZQm : PL) (h0 : mSt b mf xf yf vf wf cf 0 P ZP) (h1 : mSt b mf xf yf vf wf cf 1 Qm ZQm) : CWi l X yX6_nearest wsX6_nearest 1 [.ref m, .int s_, .int x, .int y, .int kq] [(m, .inr (6, [.int (nI bl), .int (nI bk), .int (nI b), .int (nI sp), .ref mn, .ref xr, .ref yr, .ref vr, .ref cr, .ref wr, .int (nI nc), .int (nI 0), .int f_ar, .ref wl, .ref wc, .int f_wt, .int f_lv, .int f_fi, .int f_en, .long f_cd, .ref rx, .ref ry, .ref rv, .ref fr, .int (nI R.length)])), (mn, .inl (X.2.1, 2, .inl mf)), (xr, .inl (X.2.1, 6600, .inl xf)), (yr, .inl (X.2.1, 6600, .inl yf)), (vr, .inl (X.2.1, 6600, .inl vf)), (rx, .inl (X.2.1, 150, .inl rxf)), (ry, .inl (X.2.1, 150, .inl ryf)), (rv, .inl (X.2.1, 150, .inl rvf)), (fr, .inl (X.2.2, 150, .inr (.inl frf)))] (S := (Nat → Int32) × (Nat → Int32) × (Nat → Int32) × (Nat → Int64) × RSL) (fun r u => mR u.1 u.2.1 u.2.2.1 u.2.2.2.2 ∧ (r, u.2.2.2.2) = nearF (sel s_ P Qm) R x y kq) (fun ⟨rx2, ry2, rv2, fr2, R2⟩ => [(m, .inr (6, [.int (nI bl), .int (nI bk), .int (nI b), .int (nI sp), .ref mn, .ref xr, .ref yr, .ref vr, .ref cr, .ref wr, .int (nI nc), .int (nI 0), .int f_ar, .ref wl, .ref wc, .int f_wt, .int f_lv, .int f_fi, .int f_en, .long f_cd, .ref rx, .ref ry, .ref rv, .ref fr, .int (nI R2.length)])), (mn, .inl (X.2.1, 2, .inl mf)), (xr, .inl (X.2.1, 6600, .inl xf)), (yr, .inl (X.2.1, 6600, .inl yf)), (vr, .inl (X.2.1, 6600, .inl vf)), (rx, .inl (X.2.1, 150, .inl rx2)), (ry, .inl (X.2.1, 150, .inl ry2)), (rv, .inl (X.2.1, 150, .inl rv2)), (fr, .inl (X.2.2, 150, .inr (.inl fr2)))]) := by
  refine Met.ofW (cc := cX6_nearest) (maxL := 14) (ret := some (.int)) (by decide) rfl ?_
  intro pz ez sz mz args below meth cz s₁ Bz hml hv
  obtain ⟨rfl, hP, hK, hD0, hN⟩ := hv
  have hx := Bz.exec
  have hb := Bz.bytes
  have hr := Bz.returns
  have hts := atoms_spec (ws := wsX6_nearest) Bz.pre
  have hown : sz.vm.findClass RX6 = some mz.cls := findClass_of_methodNamed Bz.named
  have hlocks := Bz.notSynchronized
  have hD := inW.self hD0
  have hS : va_S (inW [(m, .inr (6, [.int (nI bl), .int (nI bk), .int (nI b), .int (nI sp), .ref mn, .ref xr, .ref yr, .ref vr, .ref cr, .ref wr, .int (nI nc), .int (nI 0), .int f_ar, .ref wl, .ref wc, .int f_wt, .int f_lv, .int f_fi, .int f_en, .long f_cd, .ref rx, .ref ry, .ref rv, .ref fr, .int (nI R.length)])), (mn, .inl (X.2.1, 2, .inl mf)), (xr, .inl (X.2.1, 6600, .inl xf)), (yr, .inl (X.2.1, 6600, .inl yf)), (vr, .inl (X.2.1, 6600, .inl vf)), (rx, .inl (X.2.1, 150, .inl rxf)), (ry, .inl (X.2.1, 150, .inl ryf)), (rv, .inl (X.2.1, 150, .inl rvf)), (fr, .inl (X.2.2, 150, .inr (.inl frf)))]) sz.heap sz.heap [] := va_S.rf
  have hl := lv_entry ([.ref m, .int s_, .int x, .int y, .int kq]) (n := 14) (Nat.le_of_ble_eq_true rfl)
  rw [lg_entry_eq]
  generalize (lg_sl ([.ref m, .int s_, .int x, .int y, .int kq]) ++ List.replicate (14 - (lg_sl ([.ref m, .int s_, .int x, .int y, .int kq])).length) Slot.unset).toArray = ls at hl ⊢
  have hl : lv_has ls 14 [(0, .ref m), (1, .int s_), (2, .int x), (3, .int y), (4, .int kq)] := hl
  have lk7 := hts (.fieldLink RX6 7 "PointStoreModel" "many" "[I") (by decide +kernel)
  have lk13 := hts (.fieldLink RX6 13 "PointStoreModel" "xs" "[I") (by decide +kernel)
  have lk16 := hts (.fieldLink RX6 16 "PointStoreModel" "ys" "[I") (by decide +kernel)
  have lk19 := hts (.fieldLink RX6 19 "PointStoreModel" "values" "[I") (by decide +kernel)
  have lk39 := hts (.fieldLink RX6 39 "PointStoreModel" "resultX" "[I") (by decide +kernel)
  have lk42 := hts (.fieldLink RX6 42 "PointStoreModel" "resultY" "[I") (by decide +kernel)
  have lk45 := hts (.fieldLink RX6 45 "PointStoreModel" "resultValue" "[I") (by decide +kernel)
  have lk48 := hts (.fieldLink RX6 48 "PointStoreModel" "far" "[J") (by decide +kernel)
  have lk105 := hts (.fieldLink RX6 105 "PointStoreModel" "isOff" "Z") (by decide +kernel)
  have lk137 := hts (.fieldLink RX6 137 "PointStoreModel" "results" "I") (by decide +kernel)
  have hin6 : ∀ w ∈ u_ws RX6 TX6 25, w ∈ wsX6_nearest := by decide +kernel
  refine wQ (fun Q hQ => ?_)
  generalize hAe : inW [(m, .inr (6, [.int (nI bl), .int (nI bk), .int (nI b), .int (nI sp), .ref mn, .ref xr, .ref yr, .ref vr, .ref cr, .ref wr, .int (nI nc), .int (nI 0), .int f_ar, .ref wl, .ref wc, .int f_wt, .int f_lv, .int f_fi, .int f_en, .long f_cd, .ref rx, .ref ry, .ref rv, .ref fr, .int (nI R.length)])), (mn, .inl (X.2.1, 2, .inl mf)), (xr, .inl (X.2.1, 6600, .inl xf)), (yr, .inl (X.2.1, 6600, .inl yf)), (vr, .inl (X.2.1, 6600, .inl vf)), (rx, .inl (X.2.1, 150, .inl rxf)), (ry, .inl (X.2.1, 150, .inl ryf)), (rv, .inl (X.2.1, 150, .inl rvf)), (fr, .inl (X.2.2, 150, .inr (.inl frf)))] = A_ at hD hS hQ
  have hp1 := h0.L.1
  have hp2 := h1.L.1
  have hR := h3.1
  refine lv_aload_n hx hb dX6_nearest_0 rfl (lv_at hl 0 rfl) ?_
  refine va_get (D := X.1) (ci := 6) (v := .int (nI 0)) (C := RX6) (T := TX6) (N := 25) hx hb hts hin6 hown hK hP 0 rfl rfl 11 (by decide) lk105 (fun _ h9 => h9) rfl dX6_nearest_1 ?_
  refine lv_if_eq (tgt := 10) hx hb dX6_nearest_4 (by decide) (fun c_4 => ?_) (fun c_4 => ?_)
  · skip
    rcases sel3 s_ with hs | hs | hs
    · skip
      have hs9 : s_ = nI 0 := hs
      subst hs9
      refine lv_iload_n hx hb dX6_nearest_10 rfl (lv_at hl 1 rfl) ?_
      refine ckSRi (As := [.int (nI 0)]) (rest := []) [] (c_X6_isState l X (nI 0)) ⟨hx, hb, hml, hown, hts⟩ (va_cwS 1 hts gX6_nearest_X6_isState rfl rfl rfl (by decide +kernel) ⟨Nat.le_of_ble_eq_true rfl, Nat.le_of_ble_eq_true rfl⟩) hK hN hP hD (by decide) rfl rfl hl.1 rfl (Nat.le_of_ble_eq_true rfl) dX6_nearest_11 ⟨Nat.zero_le _, Nat.zero_le _⟩ (fun r_1 hc_11 => ?_)
      rcases hc_11 with ⟨hc_11, rfl⟩ | ⟨hc_11, rfl⟩
      · skip
        refine lv_if_eq (tgt := 51) hx hb dX6_nearest_14 (by decide) (fun c_14 => ?_) (fun c_14 => ?_)
        · exact absurd c_14 (by decide)
        · skip
          refine lv_iload_n hx hb dX6_nearest_17 rfl (lv_at hl 2 rfl) ?_
          refine lv_if_lt (tgt := 51) hx hb dX6_nearest_18 (by decide) (fun c_18 => ?_) (fun c_18 => ?_)
          · skip
            refine lv_iconst (v := (-1)) hx hb dX6_nearest_51 (by decide) ?_
            refine wM hQ ?_
            exact rtI (rxf, ryf, rvf, frf, R) hx hb hr hlocks hP hS (⟨h3, by show (-1, R) = _; rw [sel_0 (show nI 0 = 0 from rfl)]; exact (cif_neg (fun z => by first | exact z.1.1 c_18 | exact z.1.2 c_24 | exact z.2.1.1 c_28 | exact z.2.1.2 c_34 | exact z.2.2.1 c_40 | exact c_48 (Int32.not_lt.mp z.2.2.2))).symm⟩) dX6_nearest_52
          · skip
            refine lv_iload_n hx hb dX6_nearest_21 rfl (lv_at hl 2 rfl) ?_
            refine lv_ldc (v := 65535) hx hb hown (hts (.constant RX6 112 (65535)) (by decide +kernel)) dX6_nearest_22 ?_
            refine lv_topi (fun x_2 ex_2 => ?_)
            obtain rfl : x_2 = nI 65535 := by
              rw [ex_2]
              rfl
            refine lv_icmp_gt (tgt := 51) hx hb dX6_nearest_24 (by decide) (fun c_24 => ?_) (fun c_24 => ?_)
            · skip
              refine lv_iconst (v := (-1)) hx hb dX6_nearest_51 (by decide) ?_
              refine wM hQ ?_
              exact rtI (rxf, ryf, rvf, frf, R) hx hb hr hlocks hP hS (⟨h3, by show (-1, R) = _; rw [sel_0 (show nI 0 = 0 from rfl)]; exact (cif_neg (fun z => by first | exact z.1.1 c_18 | exact z.1.2 c_24 | exact z.2.1.1 c_28 | exact z.2.1.2 c_34 | exact z.2.2.1 c_40 | exact c_48 (Int32.not_lt.mp z.2.2.2))).symm⟩) dX6_nearest_52
            · skip
              refine lv_iload_n hx hb dX6_nearest_27 rfl (lv_at hl 3 rfl) ?_
              refine lv_if_lt (tgt := 51) hx hb dX6_nearest_28 (by decide) (fun c_28 => ?_) (fun c_28 => ?_)
              · skip
                refine lv_iconst (v := (-1)) hx hb dX6_nearest_51 (by decide) ?_
                refine wM hQ ?_
                exact rtI (rxf, ryf, rvf, frf, R) hx hb hr hlocks hP hS (⟨h3, by show (-1, R) = _; rw [sel_0 (show nI 0 = 0 from rfl)]; exact (cif_neg (fun z => by first | exact z.1.1 c_18 | exact z.1.2 c_24 | exact z.2.1.1 c_28 | exact z.2.1.2 c_34 | exact z.2.2.1 c_40 | exact c_48 (Int32.not_lt.mp z.2.2.2))).symm⟩) dX6_nearest_52
              · skip
                refine lv_iload_n hx hb dX6_nearest_31 rfl (lv_at hl 3 rfl) ?_
                refine lv_ldc (v := 65535) hx hb hown (hts (.constant RX6 112 (65535)) (by decide +kernel)) dX6_nearest_32 ?_
                refine lv_topi (fun x_3 ex_3 => ?_)
                obtain rfl : x_3 = nI 65535 := by
                  rw [ex_3]
                  rfl
                refine lv_icmp_gt (tgt := 51) hx hb dX6_nearest_34 (by decide) (fun c_34 => ?_) (fun c_34 => ?_)
                · skip
                  refine lv_iconst (v := (-1)) hx hb dX6_nearest_51 (by decide) ?_
                  refine wM hQ ?_
                  exact rtI (rxf, ryf, rvf, frf, R) hx hb hr hlocks hP hS (⟨h3, by show (-1, R) = _; rw [sel_0 (show nI 0 = 0 from rfl)]; exact (cif_neg (fun z => by first | exact z.1.1 c_18 | exact z.1.2 c_24 | exact z.2.1.1 c_28 | exact z.2.1.2 c_34 | exact z.2.2.1 c_40 | exact c_48 (Int32.not_lt.mp z.2.2.2))).symm⟩) dX6_nearest_52
                · skip
                  refine lv_iload hx hb dX6_nearest_37 (lv_at hl 4 rfl) ?_
                  refine lv_iconst (v := nI 1) hx hb dX6_nearest_39 (by decide) ?_
                  refine lv_icmp_lt (tgt := 51) hx hb dX6_nearest_40 (by decide) (fun c_40 => ?_) (fun c_40 => ?_)
                  · skip
                    refine lv_iconst (v := (-1)) hx hb dX6_nearest_51 (by decide) ?_
                    refine wM hQ ?_
                    exact rtI (rxf, ryf, rvf, frf, R) hx hb hr hlocks hP hS (⟨h3, by show (-1, R) = _; rw [sel_0 (show nI 0 = 0 from rfl)]; exact (cif_neg (fun z => by first | exact z.1.1 c_18 | exact z.1.2 c_24 | exact z.2.1.1 c_28 | exact z.2.1.2 c_34 | exact z.2.2.1 c_40 | exact c_48 (Int32.not_lt.mp z.2.2.2))).symm⟩) dX6_nearest_52
                  · skip
                    refine lv_iload hx hb dX6_nearest_43 (lv_at hl 4 rfl) ?_
                    refine lv_sipush (v := nI 150) hx hb dX6_nearest_45 (by decide) ?_
                    refine lv_icmp_le (tgt := 53) hx hb dX6_nearest_48 (by decide) (fun c_48 => ?_) (fun c_48 => ?_)
                    · skip
                      obtain ⟨kk, hk1, hk2, hkk⟩ := ct_le c_40 (le_nlt c_48)
                      refine lv_aload_n hx hb dX6_nearest_53 rfl (lv_at hl 0 rfl) ?_
                      refine lv_iconst (v := nI 0) hx hb dX6_nearest_54 (by decide) ?_
                      refine va_put (D := X.1) (ci := 6) (v := .int (nI 0)) (ty := .int) (C := RX6) (T := TX6) (N := 25) hx hb hts hin6 tyX6 tyX6_ok nmX6 hown hK hP hD hS 0 rfl rfl 24 (by decide) lk137 (fun _ h9 => h9) rfl (by decide +kernel) rfl rfl (Nat.le_of_ble_eq_true rfl) dX6_nearest_55 (fun H locs hP hD hS => ?_)
                      have hP : va_P X.1 vwCl [(m, .inr (6, [.int (nI bl), .int (nI bk), .int (nI b), .int (nI sp), .ref mn, .ref xr, .ref yr, .ref vr, .ref cr, .ref wr, .int (nI nc), .int (nI 0), .int f_ar, .ref wl, .ref wc, .int f_wt, .int f_lv, .int f_fi, .int f_en, .long f_cd, .ref rx, .ref ry, .ref rv, .ref fr, .int (nI 0)])), (mn, .inl (X.2.1, 2, .inl mf)), (xr, .inl (X.2.1, 6600, .inl xf)), (yr, .inl (X.2.1, 6600, .inl yf)), (vr, .inl (X.2.1, 6600, .inl vf)), (rx, .inl (X.2.1, 150, .inl rxf)), (ry, .inl (X.2.1, 150, .inl ryf)), (rv, .inl (X.2.1, 150, .inl rvf)), (fr, .inl (X.2.2, 150, .inr (.inl frf)))] H := hP
                      have hD : va_D A_ [(m, .inr (6, [.int (nI bl), .int (nI bk), .int (nI b), .int (nI sp), .ref mn, .ref xr, .ref yr, .ref vr, .ref cr, .ref wr, .int (nI nc), .int (nI 0), .int f_ar, .ref wl, .ref wc, .int f_wt, .int f_lv, .int f_fi, .int f_en, .long f_cd, .ref rx, .ref ry, .ref rv, .ref fr, .int (nI 0)])), (mn, .inl (X.2.1, 2, .inl mf)), (xr, .inl (X.2.1, 6600, .inl xf)), (yr, .inl (X.2.1, 6600, .inl yf)), (vr, .inl (X.2.1, 6600, .inl vf)), (rx, .inl (X.2.1, 150, .inl rxf)), (ry, .inl (X.2.1, 150, .inl ryf)), (rv, .inl (X.2.1, 150, .inl rvf)), (fr, .inl (X.2.2, 150, .inr (.inl frf)))] := hD
                      refine lv_iconst (v := nI 0) hx hb dX6_nearest_58 (by decide) ?_
                      refine lv_istore (lv' := [(5, .int (nI 0)), (0, .ref m), (1, .int (nI 0)), (2, .int x), (3, .int y), (4, .int kq)]) hx hb dX6_nearest_59 hl (by decide) rfl (fun ls hl => ?_)
                      have loop_61 : ∀ (fu : Nat) (i : Nat) (rx1 : Nat → Int32) (ry1 : Nat → Int32) (rv1 : Nat → Int32) (fr1 : Nat → Int64), (i ≤ P.length) → (mN rx1 ry1 rv1 fr1 ((P.take i).foldl (nSt x y kk) [])) → P.length - i < fu → ∀ (H : Heap) (locs : List Loc), va_P X.1 vwCl [(m, .inr (6, [.int (nI bl), .int (nI bk), .int (nI b), .int (nI sp), .ref mn, .ref xr, .ref yr, .ref vr, .ref cr, .ref wr, .int (nI nc), .int (nI 0), .int f_ar, .ref wl, .ref wc, .int f_wt, .int f_lv, .int f_fi, .int f_en, .long f_cd, .ref rx, .ref ry, .ref rv, .ref fr, .int (nI (((P.take i).foldl (nSt x y kk) []).length))])), (mn, .inl (X.2.1, 2, .inl mf)), (xr, .inl (X.2.1, 6600, .inl xf)), (yr, .inl (X.2.1, 6600, .inl yf)), (vr, .inl (X.2.1, 6600, .inl vf)), (rx, .inl (X.2.1, 150, .inl rx1)), (ry, .inl (X.2.1, 150, .inl ry1)), (rv, .inl (X.2.1, 150, .inl rv1)), (fr, .inl (X.2.2, 150, .inr (.inl fr1)))] H → va_D A_ [(m, .inr (6, [.int (nI bl), .int (nI bk), .int (nI b), .int (nI sp), .ref mn, .ref xr, .ref yr, .ref vr, .ref cr, .ref wr, .int (nI nc), .int (nI 0), .int f_ar, .ref wl, .ref wc, .int f_wt, .int f_lv, .int f_fi, .int f_en, .long f_cd, .ref rx, .ref ry, .ref rv, .ref fr, .int (nI (((P.take i).foldl (nSt x y kk) []).length))])), (mn, .inl (X.2.1, 2, .inl mf)), (xr, .inl (X.2.1, 6600, .inl xf)), (yr, .inl (X.2.1, 6600, .inl yf)), (vr, .inl (X.2.1, 6600, .inl vf)), (rx, .inl (X.2.1, 150, .inl rx1)), (ry, .inl (X.2.1, 150, .inl ry1)), (rv, .inl (X.2.1, 150, .inl rv1)), (fr, .inl (X.2.2, 150, .inr (.inl fr1)))] → va_S A_ sz.heap H locs → ∀ (ls : Array Slot), lv_has ls 14 [(0, .ref m), (1, .int (nI 0)), (2, .int x), (3, .int y), (4, .int kq), (5, .int (nI i))] → W pz l ez (headSpec wsX6_nearest (rmk 1)).room sz mz ([.ref m, .int (nI 0), .int x, .int y, .int kq].toArray) below meth cz H locs 0 0 Q (F0 mz 61 ls []) := by
                        intro fu
                        induction fu with
                        | zero => intro i rx1 ry1 rv1 fr1 hi hr1 hfu; exact absurd hfu (Nat.not_lt_zero _)
                        | succ fu ih61 =>
                          intro i rx1 ry1 rv1 fr1 hi hr1 hfu H locs hP hD hS ls hl
                          have hnl : ((P.take i).foldl (nSt x y kk) []).length ≤ kk := n_len hi
                          have hrl := hr1.1
                          refine lv_iload hx hb dX6_nearest_61 (lv_at hl 5 rfl) ?_
                          refine lv_aload_n hx hb dX6_nearest_63 rfl (lv_at hl 0 rfl) ?_
                          refine va_get (D := X.1) (ci := 6) (v := .ref mn) (C := RX6) (T := TX6) (N := 25) hx hb hts hin6 hown hK hP 0 rfl rfl 4 (by decide) lk7 (fun _ h9 => h9) rfl dX6_nearest_64 ?_
                          refine lv_iload_n hx hb dX6_nearest_67 rfl (lv_at hl 1 rfl) ?_
                          have hi_4 : vp_in (nI 0) 2 := vp_in_nI (by omega) (by omega)
                          refine va_iald hx hb hK hP 1 0 rfl rfl hi_4 dX6_nearest_68 ?_
                          refine lv_topi (fun x_5 ex_5 => ?_)
                          obtain rfl : x_5 = mf 0 := by
                            rw [ex_5]
                            rw [nI_clamp (by omega)]
                          refine lv_topi (fun x_6 ex_6 => ?_)
                          obtain rfl : x_6 = nI P.length := by
                            rw [ex_6]
                            exact h0.m
                          refine lv_icmp_ge (tgt := 321) hx hb dX6_nearest_69 (by decide) (fun c_69 => ?_) (fun c_69 => ?_)
                          · replace c_69 : P.length ≤ i := (nI_leI (by omega) (by omega)).mp c_69
                            refine lv_aload_n hx hb dX6_nearest_321 rfl (lv_at hl 0 rfl) ?_
                            refine va_get (D := X.1) (ci := 6) (v := .int (nI (((P.take i).foldl (nSt x y kk) []).length))) (C := RX6) (T := TX6) (N := 25) hx hb hts hin6 hown hK hP 0 rfl rfl 24 (by decide) lk137 (fun _ h9 => h9) rfl dX6_nearest_322 ?_
                            rw [← rOf_len] at hP
                            refine wM hQ ?_
                            exact rtI (rx1, ry1, rv1, fr1, rOf ((P.take i).foldl (nSt x y kk) [])) hx hb hr hlocks hP hS (⟨mN_R hr1, by show (nI ((P.take i).foldl (nSt x y kk) []).length, rOf ((P.take i).foldl (nSt x y kk) [])) = _; rw [sel_0 (show nI 0 = 0 from rfl)]; rw [nearF_in ⟨⟨c_18, c_24⟩, ⟨c_28, c_34⟩, c_40, le_nlt c_48⟩, hkk, nI_clamp (by omega), show i = P.length from by omega, List.take_length]; rfl⟩) dX6_nearest_325
                          · replace c_69 : ¬ P.length ≤ i := fun h9 => c_69 ((nI_leI (by omega) (by omega)).mpr h9)
                            refine lv_sipush (v := nI 3300) hx hb dX6_nearest_72 (by decide) ?_
                            refine lv_iload_n hx hb dX6_nearest_75 rfl (lv_at hl 1 rfl) ?_
                            refine lv_imul hx hb dX6_nearest_76 ?_
                            refine lv_topi (fun x_7 ex_7 => ?_)
                            obtain rfl : x_7 = nI (3300 * 0) := by
                              rw [ex_7]
                              exact pk_mul _ _
                            refine lv_iload hx hb dX6_nearest_77 (lv_at hl 5 rfl) ?_
                            refine lv_iadd hx hb dX6_nearest_79 ?_
                            refine lv_topi (fun x_8 ex_8 => ?_)
                            obtain rfl : x_8 = nI ((3300 * 0) + i) := by
                              rw [ex_8]
                              exact nI_add _ _
                            refine lv_istore (lv' := [(6, .int (nI ((3300 * 0) + i))), (0, .ref m), (1, .int (nI 0)), (2, .int x), (3, .int y), (4, .int kq), (5, .int (nI i))]) hx hb dX6_nearest_80 hl (by decide) rfl (fun ls hl => ?_)
                            refine lv_aload_n hx hb dX6_nearest_82 rfl (lv_at hl 1 rfl) ?_
                            refine va_get (D := X.1) (ci := 6) (v := .ref xr) (C := RX6) (T := TX6) (N := 25) hx hb hts hin6 hown hK hP 0 rfl rfl 5 (by decide) lk13 (fun _ h9 => h9) rfl dX6_nearest_83 ?_
                            refine lv_iload hx hb dX6_nearest_86 (lv_at hl 0 rfl) ?_
                            have hi_9 : vp_in (nI ((3300 * 0) + i)) 6600 := vp_in_nI (by omega) (by omega)
                            refine va_iald hx hb hK hP 2 0 rfl rfl hi_9 dX6_nearest_88 ?_
                            refine lv_topi (fun x_10 ex_10 => ?_)
                            obtain rfl : x_10 = xf ((3300 * 0) + i) := by
                              rw [ex_10]
                              rw [nI_clamp (by omega)]
                            refine lv_topi (fun x_11 ex_11 => ?_)
                            obtain rfl : x_11 = nI (pK P i / 32768) := by
                              rw [ex_11]
                              exact (h0.X i (by omega)).1
                            refine lv_iload_n hx hb dX6_nearest_89 rfl (lv_at hl 3 rfl) ?_
                            refine lv_isub hx hb dX6_nearest_90 ?_
                            refine lv_i2l (v := ((nI (pK P i / 32768)) - x).toInt64) hx hb dX6_nearest_91 rfl ?_
                            refine lv_lstore (lv' := [(7, .long (((nI (pK P i / 32768)) - x).toInt64)), (6, .int (nI ((3300 * 0) + i))), (0, .ref m), (1, .int (nI 0)), (2, .int x), (3, .int y), (4, .int kq), (5, .int (nI i))]) hx hb dX6_nearest_92 hl (by decide) rfl (fun ls hl => ?_)
                            refine lv_aload_n hx hb dX6_nearest_94 rfl (lv_at hl 2 rfl) ?_
                            refine va_get (D := X.1) (ci := 6) (v := .ref yr) (C := RX6) (T := TX6) (N := 25) hx hb hts hin6 hown hK hP 0 rfl rfl 6 (by decide) lk16 (fun _ h9 => h9) rfl dX6_nearest_95 ?_
                            refine lv_iload hx hb dX6_nearest_98 (lv_at hl 1 rfl) ?_
                            have hi_12 : vp_in (nI ((3300 * 0) + i)) 6600 := vp_in_nI (by omega) (by omega)
                            refine va_iald hx hb hK hP 3 0 rfl rfl hi_12 dX6_nearest_100 ?_
                            refine lv_topi (fun x_13 ex_13 => ?_)
                            obtain rfl : x_13 = yf ((3300 * 0) + i) := by
                              rw [ex_13]
                              rw [nI_clamp (by omega)]
                            refine lv_topi (fun x_14 ex_14 => ?_)
                            obtain rfl : x_14 = nI (pK P i % 32768) := by
                              rw [ex_14]
                              exact (h0.X i (by omega)).2
                            refine lv_iload_n hx hb dX6_nearest_101 rfl (lv_at hl 5 rfl) ?_
                            refine lv_isub hx hb dX6_nearest_102 ?_
                            refine lv_i2l (v := ((nI (pK P i % 32768)) - y).toInt64) hx hb dX6_nearest_103 rfl ?_
                            refine lv_lstore (lv' := [(9, .long (((nI (pK P i % 32768)) - y).toInt64)), (7, .long (((nI (pK P i / 32768)) - x).toInt64)), (6, .int (nI ((3300 * 0) + i))), (0, .ref m), (1, .int (nI 0)), (2, .int x), (3, .int y), (4, .int kq), (5, .int (nI i))]) hx hb dX6_nearest_104 hl (by decide) rfl (fun ls hl => ?_)
                            refine lv_lload hx hb dX6_nearest_106 (lv_at hl 1 rfl) ?_
                            refine lv_lload hx hb dX6_nearest_108 (lv_at hl 1 rfl) ?_
                            refine lv_lmul hx hb dX6_nearest_110 ?_
                            refine lv_lload hx hb dX6_nearest_111 (lv_at hl 0 rfl) ?_
                            refine lv_lload hx hb dX6_nearest_113 (lv_at hl 0 rfl) ?_
                            refine lv_lmul hx hb dX6_nearest_115 ?_
                            refine lv_ladd hx hb dX6_nearest_116 ?_
                            refine lv_topl (fun x_15 ex_15 => ?_)
                            obtain rfl : x_15 = (dst (pK P i) x y) := by
                              rw [ex_15]
                              rfl
                            refine lv_lstore (lv' := [(11, .long (dst (pK P i) x y)), (9, .long (((nI (pK P i % 32768)) - y).toInt64)), (7, .long (((nI (pK P i / 32768)) - x).toInt64)), (6, .int (nI ((3300 * 0) + i))), (0, .ref m), (1, .int (nI 0)), (2, .int x), (3, .int y), (4, .int kq), (5, .int (nI i))]) hx hb dX6_nearest_117 hl (by decide) rfl (fun ls hl => ?_)
                            refine lv_aload_n hx hb dX6_nearest_119 rfl (lv_at hl 4 rfl) ?_
                            refine va_get (D := X.1) (ci := 6) (v := .int (nI (((P.take i).foldl (nSt x y kk) []).length))) (C := RX6) (T := TX6) (N := 25) hx hb hts hin6 hown hK hP 0 rfl rfl 24 (by decide) lk137 (fun _ h9 => h9) rfl dX6_nearest_120 ?_
                            refine lv_istore (lv' := [(13, .int (nI (((P.take i).foldl (nSt x y kk) []).length))), (11, .long (dst (pK P i) x y)), (9, .long (((nI (pK P i % 32768)) - y).toInt64)), (7, .long (((nI (pK P i / 32768)) - x).toInt64)), (6, .int (nI ((3300 * 0) + i))), (0, .ref m), (1, .int (nI 0)), (2, .int x), (3, .int y), (4, .int kq), (5, .int (nI i))]) hx hb dX6_nearest_123 hl (by decide) rfl (fun ls hl => ?_)
                            refine lv_aload_n hx hb dX6_nearest_125 rfl (lv_at hl 5 rfl) ?_
                            refine va_get (D := X.1) (ci := 6) (v := .int (nI (((P.take i).foldl (nSt x y kk) []).length))) (C := RX6) (T := TX6) (N := 25) hx hb hts hin6 hown hK hP 0 rfl rfl 24 (by decide) lk137 (fun _ h9 => h9) rfl dX6_nearest_126 ?_
                            refine lv_iload hx hb dX6_nearest_129 (lv_at hl 9 rfl) ?_
                            refine lv_topi (fun x_16 ex_16 => ?_)
                            obtain rfl : x_16 = nI kk := by
                              rw [ex_16]
                              exact hkk
                            refine lv_icmp_ne (tgt := 161) hx hb dX6_nearest_131 (by decide) (fun c_131 => ?_) (fun c_131 => ?_)
                            · replace c_131 : ¬ (((P.take i).foldl (nSt x y kk) []).length) = kk := fun h9 => c_131 ((nI_eq (by omega) (by omega)).mpr h9)
                              refine lv_aload_n hx hb dX6_nearest_161 rfl (lv_at hl 5 rfl) ?_
                              refine lv_aload_n hx hb dX6_nearest_162 rfl (lv_at hl 5 rfl) ?_
                              refine va_get (D := X.1) (ci := 6) (v := .int (nI (((P.take i).foldl (nSt x y kk) []).length))) (C := RX6) (T := TX6) (N := 25) hx hb hts hin6 hown hK hP 0 rfl rfl 24 (by decide) lk137 (fun _ h9 => h9) rfl dX6_nearest_163 ?_
                              refine lv_iconst (v := nI 1) hx hb dX6_nearest_166 (by decide) ?_
                              refine lv_iadd hx hb dX6_nearest_167 ?_
                              refine lv_topi (fun x_17 ex_17 => ?_)
                              obtain rfl : x_17 = nI ((((P.take i).foldl (nSt x y kk) []).length) + 1) := by
                                rw [ex_17]
                                exact nI_add _ _
                              refine va_put (D := X.1) (ci := 6) (v := .int (nI ((((P.take i).foldl (nSt x y kk) []).length) + 1))) (ty := .int) (C := RX6) (T := TX6) (N := 25) hx hb hts hin6 tyX6 tyX6_ok nmX6 hown hK hP hD hS 0 rfl rfl 24 (by decide) lk137 (fun _ h9 => h9) rfl (by decide +kernel) rfl rfl (Nat.le_of_ble_eq_true rfl) dX6_nearest_168 (fun H locs hP hD hS => ?_)
                              have hP : va_P X.1 vwCl [(m, .inr (6, [.int (nI bl), .int (nI bk), .int (nI b), .int (nI sp), .ref mn, .ref xr, .ref yr, .ref vr, .ref cr, .ref wr, .int (nI nc), .int (nI 0), .int f_ar, .ref wl, .ref wc, .int f_wt, .int f_lv, .int f_fi, .int f_en, .long f_cd, .ref rx, .ref ry, .ref rv, .ref fr, .int (nI ((((P.take i).foldl (nSt x y kk) []).length) + 1))])), (mn, .inl (X.2.1, 2, .inl mf)), (xr, .inl (X.2.1, 6600, .inl xf)), (yr, .inl (X.2.1, 6600, .inl yf)), (vr, .inl (X.2.1, 6600, .inl vf)), (rx, .inl (X.2.1, 150, .inl rx1)), (ry, .inl (X.2.1, 150, .inl ry1)), (rv, .inl (X.2.1, 150, .inl rv1)), (fr, .inl (X.2.2, 150, .inr (.inl fr1)))] H := hP
                              have hD : va_D A_ [(m, .inr (6, [.int (nI bl), .int (nI bk), .int (nI b), .int (nI sp), .ref mn, .ref xr, .ref yr, .ref vr, .ref cr, .ref wr, .int (nI nc), .int (nI 0), .int f_ar, .ref wl, .ref wc, .int f_wt, .int f_lv, .int f_fi, .int f_en, .long f_cd, .ref rx, .ref ry, .ref rv, .ref fr, .int (nI ((((P.take i).foldl (nSt x y kk) []).length) + 1))])), (mn, .inl (X.2.1, 2, .inl mf)), (xr, .inl (X.2.1, 6600, .inl xf)), (yr, .inl (X.2.1, 6600, .inl yf)), (vr, .inl (X.2.1, 6600, .inl vf)), (rx, .inl (X.2.1, 150, .inl rx1)), (ry, .inl (X.2.1, 150, .inl ry1)), (rv, .inl (X.2.1, 150, .inl rv1)), (fr, .inl (X.2.2, 150, .inr (.inl fr1)))] := hD
                              have loop_171 : ∀ (fu : Nat) (at_ : Nat), (at_ ≤ ((P.take i).foldl (nSt x y kk) []).length) → (∀ j, at_ ≤ j → j < ((P.take i).foldl (nSt x y kk) []).length → (dst (pK P i) x y) < (((P.take i).foldl (nSt x y kk) []).getD j nr0).2.2) → at_ < fu → ∀ (H : Heap) (locs : List Loc), va_P X.1 vwCl [(m, .inr (6, [.int (nI bl), .int (nI bk), .int (nI b), .int (nI sp), .ref mn, .ref xr, .ref yr, .ref vr, .ref cr, .ref wr, .int (nI nc), .int (nI 0), .int f_ar, .ref wl, .ref wc, .int f_wt, .int f_lv, .int f_fi, .int f_en, .long f_cd, .ref rx, .ref ry, .ref rv, .ref fr, .int (nI ((((P.take i).foldl (nSt x y kk) []).length) + 1))])), (mn, .inl (X.2.1, 2, .inl mf)), (xr, .inl (X.2.1, 6600, .inl xf)), (yr, .inl (X.2.1, 6600, .inl yf)), (vr, .inl (X.2.1, 6600, .inl vf)), (rx, .inl (X.2.1, 150, .inl (shU rx1 at_ ((P.take i).foldl (nSt x y kk) []).length))), (ry, .inl (X.2.1, 150, .inl (shU ry1 at_ ((P.take i).foldl (nSt x y kk) []).length))), (rv, .inl (X.2.1, 150, .inl (shU rv1 at_ ((P.take i).foldl (nSt x y kk) []).length))), (fr, .inl (X.2.2, 150, .inr (.inl (shU fr1 at_ ((P.take i).foldl (nSt x y kk) []).length))))] H → va_D A_ [(m, .inr (6, [.int (nI bl), .int (nI bk), .int (nI b), .int (nI sp), .ref mn, .ref xr, .ref yr, .ref vr, .ref cr, .ref wr, .int (nI nc), .int (nI 0), .int f_ar, .ref wl, .ref wc, .int f_wt, .int f_lv, .int f_fi, .int f_en, .long f_cd, .ref rx, .ref ry, .ref rv, .ref fr, .int (nI ((((P.take i).foldl (nSt x y kk) []).length) + 1))])), (mn, .inl (X.2.1, 2, .inl mf)), (xr, .inl (X.2.1, 6600, .inl xf)), (yr, .inl (X.2.1, 6600, .inl yf)), (vr, .inl (X.2.1, 6600, .inl vf)), (rx, .inl (X.2.1, 150, .inl (shU rx1 at_ ((P.take i).foldl (nSt x y kk) []).length))), (ry, .inl (X.2.1, 150, .inl (shU ry1 at_ ((P.take i).foldl (nSt x y kk) []).length))), (rv, .inl (X.2.1, 150, .inl (shU rv1 at_ ((P.take i).foldl (nSt x y kk) []).length))), (fr, .inl (X.2.2, 150, .inr (.inl (shU fr1 at_ ((P.take i).foldl (nSt x y kk) []).length))))] → va_S A_ sz.heap H locs → ∀ (ls : Array Slot), lv_has ls 14 [(0, .ref m), (1, .int (nI 0)), (2, .int x), (3, .int y), (4, .int kq), (5, .int (nI i)), (6, .int (nI ((3300 * 0) + i))), (11, .long (dst (pK P i) x y)), (13, .int (nI at_))] → W pz l ez (headSpec wsX6_nearest (rmk 1)).room sz mz ([.ref m, .int (nI 0), .int x, .int y, .int kq].toArray) below meth cz H locs 0 0 Q (F0 mz 171 ls []) := by
                                intro fu
                                induction fu with
                                | zero => intro at_ h1a h2 hfu; exact absurd hfu (Nat.not_lt_zero _)
                                | succ fu ih171 =>
                                  intro at_ h1a h2 hfu H locs hP hD hS ls hl
                                  rcases Nat.eq_zero_or_pos at_ with hz | hz
                                  · skip
                                    subst hz
                                    have hpos : posD ((P.take i).foldl (nSt x y kk) []) (dst (pK P i) x y) = 0 := posD_eq _ _ 0 (Nat.zero_le _) h2 (Or.inl rfl)
                                    refine lv_iload hx hb dX6_nearest_171 (lv_at hl 8 rfl) ?_
                                    refine lv_if_le (tgt := 264) hx hb dX6_nearest_173 (by decide) (fun c_173 => ?_) (fun c_173 => ?_)
                                    · skip
                                      refine lv_aload_n hx hb dX6_nearest_264 rfl (lv_at hl 0 rfl) ?_
                                      refine va_get (D := X.1) (ci := 6) (v := .ref fr) (C := RX6) (T := TX6) (N := 25) hx hb hts hin6 hown hK hP 0 rfl rfl 23 (by decide) lk48 (fun _ h9 => h9) rfl dX6_nearest_265 ?_
                                      refine lv_iload hx hb dX6_nearest_268 (lv_at hl 8 rfl) ?_
                                      refine lv_lload hx hb dX6_nearest_270 (lv_at hl 7 rfl) ?_
                                      have hi_18 : vp_in (nI 0) 150 := vp_in_nI (by omega) (by omega)
                                      refine va_last hx hb hK hP hD hS 8 1 rfl rfl hi_18 dX6_nearest_272 (fun H locs hP hD hS => ?_)
                                      rw [nI_clamp (by omega)] at hP hD
                                      have hP : va_P X.1 vwCl [(m, .inr (6, [.int (nI bl), .int (nI bk), .int (nI b), .int (nI sp), .ref mn, .ref xr, .ref yr, .ref vr, .ref cr, .ref wr, .int (nI nc), .int (nI 0), .int f_ar, .ref wl, .ref wc, .int f_wt, .int f_lv, .int f_fi, .int f_en, .long f_cd, .ref rx, .ref ry, .ref rv, .ref fr, .int (nI ((((P.take i).foldl (nSt x y kk) []).length) + 1))])), (mn, .inl (X.2.1, 2, .inl mf)), (xr, .inl (X.2.1, 6600, .inl xf)), (yr, .inl (X.2.1, 6600, .inl yf)), (vr, .inl (X.2.1, 6600, .inl vf)), (rx, .inl (X.2.1, 150, .inl (shU rx1 0 ((P.take i).foldl (nSt x y kk) []).length))), (ry, .inl (X.2.1, 150, .inl (shU ry1 0 ((P.take i).foldl (nSt x y kk) []).length))), (rv, .inl (X.2.1, 150, .inl (shU rv1 0 ((P.take i).foldl (nSt x y kk) []).length))), (fr, .inl (X.2.2, 150, .inr (.inl (vp_updL (shU fr1 0 ((P.take i).foldl (nSt x y kk) []).length) 0 (dst (pK P i) x y)))))] H := hP
                                      have hD : va_D A_ [(m, .inr (6, [.int (nI bl), .int (nI bk), .int (nI b), .int (nI sp), .ref mn, .ref xr, .ref yr, .ref vr, .ref cr, .ref wr, .int (nI nc), .int (nI 0), .int f_ar, .ref wl, .ref wc, .int f_wt, .int f_lv, .int f_fi, .int f_en, .long f_cd, .ref rx, .ref ry, .ref rv, .ref fr, .int (nI ((((P.take i).foldl (nSt x y kk) []).length) + 1))])), (mn, .inl (X.2.1, 2, .inl mf)), (xr, .inl (X.2.1, 6600, .inl xf)), (yr, .inl (X.2.1, 6600, .inl yf)), (vr, .inl (X.2.1, 6600, .inl vf)), (rx, .inl (X.2.1, 150, .inl (shU rx1 0 ((P.take i).foldl (nSt x y kk) []).length))), (ry, .inl (X.2.1, 150, .inl (shU ry1 0 ((P.take i).foldl (nSt x y kk) []).length))), (rv, .inl (X.2.1, 150, .inl (shU rv1 0 ((P.take i).foldl (nSt x y kk) []).length))), (fr, .inl (X.2.2, 150, .inr (.inl (vp_updL (shU fr1 0 ((P.take i).foldl (nSt x y kk) []).length) 0 (dst (pK P i) x y)))))] := hD
                                      refine lv_aload_n hx hb dX6_nearest_273 rfl (lv_at hl 0 rfl) ?_
                                      refine va_get (D := X.1) (ci := 6) (v := .ref rx) (C := RX6) (T := TX6) (N := 25) hx hb hts hin6 hown hK hP 0 rfl rfl 20 (by decide) lk39 (fun _ h9 => h9) rfl dX6_nearest_274 ?_
                                      refine lv_iload hx hb dX6_nearest_277 (lv_at hl 8 rfl) ?_
                                      refine lv_aload_n hx hb dX6_nearest_279 rfl (lv_at hl 0 rfl) ?_
                                      refine va_get (D := X.1) (ci := 6) (v := .ref xr) (C := RX6) (T := TX6) (N := 25) hx hb hts hin6 hown hK hP 0 rfl rfl 5 (by decide) lk13 (fun _ h9 => h9) rfl dX6_nearest_280 ?_
                                      refine lv_iload hx hb dX6_nearest_283 (lv_at hl 6 rfl) ?_
                                      have hi_19 : vp_in (nI ((3300 * 0) + i)) 6600 := vp_in_nI (by omega) (by omega)
                                      refine va_iald hx hb hK hP 2 0 rfl rfl hi_19 dX6_nearest_285 ?_
                                      refine lv_topi (fun x_20 ex_20 => ?_)
                                      obtain rfl : x_20 = xf ((3300 * 0) + i) := by
                                        rw [ex_20]
                                        rw [nI_clamp (by omega)]
                                      refine lv_topi (fun x_21 ex_21 => ?_)
                                      obtain rfl : x_21 = nI (pK P i / 32768) := by
                                        rw [ex_21]
                                        exact (h0.X i (by omega)).1
                                      have hi_22 : vp_in (nI 0) 150 := vp_in_nI (by omega) (by omega)
                                      refine va_iast hx hb hK hP hD hS 5 0 rfl rfl hi_22 dX6_nearest_286 (fun H locs hP hD hS => ?_)
                                      rw [nI_clamp (by omega)] at hP hD
                                      have hP : va_P X.1 vwCl [(m, .inr (6, [.int (nI bl), .int (nI bk), .int (nI b), .int (nI sp), .ref mn, .ref xr, .ref yr, .ref vr, .ref cr, .ref wr, .int (nI nc), .int (nI 0), .int f_ar, .ref wl, .ref wc, .int f_wt, .int f_lv, .int f_fi, .int f_en, .long f_cd, .ref rx, .ref ry, .ref rv, .ref fr, .int (nI ((((P.take i).foldl (nSt x y kk) []).length) + 1))])), (mn, .inl (X.2.1, 2, .inl mf)), (xr, .inl (X.2.1, 6600, .inl xf)), (yr, .inl (X.2.1, 6600, .inl yf)), (vr, .inl (X.2.1, 6600, .inl vf)), (rx, .inl (X.2.1, 150, .inl (upd (shU rx1 0 ((P.take i).foldl (nSt x y kk) []).length) 0 (nI (pK P i / 32768))))), (ry, .inl (X.2.1, 150, .inl (shU ry1 0 ((P.take i).foldl (nSt x y kk) []).length))), (rv, .inl (X.2.1, 150, .inl (shU rv1 0 ((P.take i).foldl (nSt x y kk) []).length))), (fr, .inl (X.2.2, 150, .inr (.inl (vp_updL (shU fr1 0 ((P.take i).foldl (nSt x y kk) []).length) 0 (dst (pK P i) x y)))))] H := hP
                                      have hD : va_D A_ [(m, .inr (6, [.int (nI bl), .int (nI bk), .int (nI b), .int (nI sp), .ref mn, .ref xr, .ref yr, .ref vr, .ref cr, .ref wr, .int (nI nc), .int (nI 0), .int f_ar, .ref wl, .ref wc, .int f_wt, .int f_lv, .int f_fi, .int f_en, .long f_cd, .ref rx, .ref ry, .ref rv, .ref fr, .int (nI ((((P.take i).foldl (nSt x y kk) []).length) + 1))])), (mn, .inl (X.2.1, 2, .inl mf)), (xr, .inl (X.2.1, 6600, .inl xf)), (yr, .inl (X.2.1, 6600, .inl yf)), (vr, .inl (X.2.1, 6600, .inl vf)), (rx, .inl (X.2.1, 150, .inl (upd (shU rx1 0 ((P.take i).foldl (nSt x y kk) []).length) 0 (nI (pK P i / 32768))))), (ry, .inl (X.2.1, 150, .inl (shU ry1 0 ((P.take i).foldl (nSt x y kk) []).length))), (rv, .inl (X.2.1, 150, .inl (shU rv1 0 ((P.take i).foldl (nSt x y kk) []).length))), (fr, .inl (X.2.2, 150, .inr (.inl (vp_updL (shU fr1 0 ((P.take i).foldl (nSt x y kk) []).length) 0 (dst (pK P i) x y)))))] := hD
                                      refine lv_aload_n hx hb dX6_nearest_287 rfl (lv_at hl 0 rfl) ?_
                                      refine va_get (D := X.1) (ci := 6) (v := .ref ry) (C := RX6) (T := TX6) (N := 25) hx hb hts hin6 hown hK hP 0 rfl rfl 21 (by decide) lk42 (fun _ h9 => h9) rfl dX6_nearest_288 ?_
                                      refine lv_iload hx hb dX6_nearest_291 (lv_at hl 8 rfl) ?_
                                      refine lv_aload_n hx hb dX6_nearest_293 rfl (lv_at hl 0 rfl) ?_
                                      refine va_get (D := X.1) (ci := 6) (v := .ref yr) (C := RX6) (T := TX6) (N := 25) hx hb hts hin6 hown hK hP 0 rfl rfl 6 (by decide) lk16 (fun _ h9 => h9) rfl dX6_nearest_294 ?_
                                      refine lv_iload hx hb dX6_nearest_297 (lv_at hl 6 rfl) ?_
                                      have hi_23 : vp_in (nI ((3300 * 0) + i)) 6600 := vp_in_nI (by omega) (by omega)
                                      refine va_iald hx hb hK hP 3 0 rfl rfl hi_23 dX6_nearest_299 ?_
                                      refine lv_topi (fun x_24 ex_24 => ?_)
                                      obtain rfl : x_24 = yf ((3300 * 0) + i) := by
                                        rw [ex_24]
                                        rw [nI_clamp (by omega)]
                                      refine lv_topi (fun x_25 ex_25 => ?_)
                                      obtain rfl : x_25 = nI (pK P i % 32768) := by
                                        rw [ex_25]
                                        exact (h0.X i (by omega)).2
                                      have hi_26 : vp_in (nI 0) 150 := vp_in_nI (by omega) (by omega)
                                      refine va_iast hx hb hK hP hD hS 6 0 rfl rfl hi_26 dX6_nearest_300 (fun H locs hP hD hS => ?_)
                                      rw [nI_clamp (by omega)] at hP hD
                                      have hP : va_P X.1 vwCl [(m, .inr (6, [.int (nI bl), .int (nI bk), .int (nI b), .int (nI sp), .ref mn, .ref xr, .ref yr, .ref vr, .ref cr, .ref wr, .int (nI nc), .int (nI 0), .int f_ar, .ref wl, .ref wc, .int f_wt, .int f_lv, .int f_fi, .int f_en, .long f_cd, .ref rx, .ref ry, .ref rv, .ref fr, .int (nI ((((P.take i).foldl (nSt x y kk) []).length) + 1))])), (mn, .inl (X.2.1, 2, .inl mf)), (xr, .inl (X.2.1, 6600, .inl xf)), (yr, .inl (X.2.1, 6600, .inl yf)), (vr, .inl (X.2.1, 6600, .inl vf)), (rx, .inl (X.2.1, 150, .inl (upd (shU rx1 0 ((P.take i).foldl (nSt x y kk) []).length) 0 (nI (pK P i / 32768))))), (ry, .inl (X.2.1, 150, .inl (upd (shU ry1 0 ((P.take i).foldl (nSt x y kk) []).length) 0 (nI (pK P i % 32768))))), (rv, .inl (X.2.1, 150, .inl (shU rv1 0 ((P.take i).foldl (nSt x y kk) []).length))), (fr, .inl (X.2.2, 150, .inr (.inl (vp_updL (shU fr1 0 ((P.take i).foldl (nSt x y kk) []).length) 0 (dst (pK P i) x y)))))] H := hP
                                      have hD : va_D A_ [(m, .inr (6, [.int (nI bl), .int (nI bk), .int (nI b), .int (nI sp), .ref mn, .ref xr, .ref yr, .ref vr, .ref cr, .ref wr, .int (nI nc), .int (nI 0), .int f_ar, .ref wl, .ref wc, .int f_wt, .int f_lv, .int f_fi, .int f_en, .long f_cd, .ref rx, .ref ry, .ref rv, .ref fr, .int (nI ((((P.take i).foldl (nSt x y kk) []).length) + 1))])), (mn, .inl (X.2.1, 2, .inl mf)), (xr, .inl (X.2.1, 6600, .inl xf)), (yr, .inl (X.2.1, 6600, .inl yf)), (vr, .inl (X.2.1, 6600, .inl vf)), (rx, .inl (X.2.1, 150, .inl (upd (shU rx1 0 ((P.take i).foldl (nSt x y kk) []).length) 0 (nI (pK P i / 32768))))), (ry, .inl (X.2.1, 150, .inl (upd (shU ry1 0 ((P.take i).foldl (nSt x y kk) []).length) 0 (nI (pK P i % 32768))))), (rv, .inl (X.2.1, 150, .inl (shU rv1 0 ((P.take i).foldl (nSt x y kk) []).length))), (fr, .inl (X.2.2, 150, .inr (.inl (vp_updL (shU fr1 0 ((P.take i).foldl (nSt x y kk) []).length) 0 (dst (pK P i) x y)))))] := hD
                                      refine lv_aload_n hx hb dX6_nearest_301 rfl (lv_at hl 0 rfl) ?_
                                      refine va_get (D := X.1) (ci := 6) (v := .ref rv) (C := RX6) (T := TX6) (N := 25) hx hb hts hin6 hown hK hP 0 rfl rfl 22 (by decide) lk45 (fun _ h9 => h9) rfl dX6_nearest_302 ?_
                                      refine lv_iload hx hb dX6_nearest_305 (lv_at hl 8 rfl) ?_
                                      refine lv_aload_n hx hb dX6_nearest_307 rfl (lv_at hl 0 rfl) ?_
                                      refine va_get (D := X.1) (ci := 6) (v := .ref vr) (C := RX6) (T := TX6) (N := 25) hx hb hts hin6 hown hK hP 0 rfl rfl 7 (by decide) lk19 (fun _ h9 => h9) rfl dX6_nearest_308 ?_
                                      refine lv_iload hx hb dX6_nearest_311 (lv_at hl 6 rfl) ?_
                                      have hi_27 : vp_in (nI ((3300 * 0) + i)) 6600 := vp_in_nI (by omega) (by omega)
                                      refine va_iald hx hb hK hP 4 0 rfl rfl hi_27 dX6_nearest_313 ?_
                                      refine lv_topi (fun x_28 ex_28 => ?_)
                                      obtain rfl : x_28 = vf ((3300 * 0) + i) := by
                                        rw [ex_28]
                                        rw [nI_clamp (by omega)]
                                      refine lv_topi (fun x_29 ex_29 => ?_)
                                      obtain rfl : x_29 = nI (pV P i) := by
                                        rw [ex_29]
                                        exact h0.V i (by omega)
                                      have hi_30 : vp_in (nI 0) 150 := vp_in_nI (by omega) (by omega)
                                      refine va_iast hx hb hK hP hD hS 7 0 rfl rfl hi_30 dX6_nearest_314 (fun H locs hP hD hS => ?_)
                                      rw [nI_clamp (by omega)] at hP hD
                                      have hP : va_P X.1 vwCl [(m, .inr (6, [.int (nI bl), .int (nI bk), .int (nI b), .int (nI sp), .ref mn, .ref xr, .ref yr, .ref vr, .ref cr, .ref wr, .int (nI nc), .int (nI 0), .int f_ar, .ref wl, .ref wc, .int f_wt, .int f_lv, .int f_fi, .int f_en, .long f_cd, .ref rx, .ref ry, .ref rv, .ref fr, .int (nI ((((P.take i).foldl (nSt x y kk) []).length) + 1))])), (mn, .inl (X.2.1, 2, .inl mf)), (xr, .inl (X.2.1, 6600, .inl xf)), (yr, .inl (X.2.1, 6600, .inl yf)), (vr, .inl (X.2.1, 6600, .inl vf)), (rx, .inl (X.2.1, 150, .inl (upd (shU rx1 0 ((P.take i).foldl (nSt x y kk) []).length) 0 (nI (pK P i / 32768))))), (ry, .inl (X.2.1, 150, .inl (upd (shU ry1 0 ((P.take i).foldl (nSt x y kk) []).length) 0 (nI (pK P i % 32768))))), (rv, .inl (X.2.1, 150, .inl (upd (shU rv1 0 ((P.take i).foldl (nSt x y kk) []).length) 0 (nI (pV P i))))), (fr, .inl (X.2.2, 150, .inr (.inl (vp_updL (shU fr1 0 ((P.take i).foldl (nSt x y kk) []).length) 0 (dst (pK P i) x y)))))] H := hP
                                      have hD : va_D A_ [(m, .inr (6, [.int (nI bl), .int (nI bk), .int (nI b), .int (nI sp), .ref mn, .ref xr, .ref yr, .ref vr, .ref cr, .ref wr, .int (nI nc), .int (nI 0), .int f_ar, .ref wl, .ref wc, .int f_wt, .int f_lv, .int f_fi, .int f_en, .long f_cd, .ref rx, .ref ry, .ref rv, .ref fr, .int (nI ((((P.take i).foldl (nSt x y kk) []).length) + 1))])), (mn, .inl (X.2.1, 2, .inl mf)), (xr, .inl (X.2.1, 6600, .inl xf)), (yr, .inl (X.2.1, 6600, .inl yf)), (vr, .inl (X.2.1, 6600, .inl vf)), (rx, .inl (X.2.1, 150, .inl (upd (shU rx1 0 ((P.take i).foldl (nSt x y kk) []).length) 0 (nI (pK P i / 32768))))), (ry, .inl (X.2.1, 150, .inl (upd (shU ry1 0 ((P.take i).foldl (nSt x y kk) []).length) 0 (nI (pK P i % 32768))))), (rv, .inl (X.2.1, 150, .inl (upd (shU rv1 0 ((P.take i).foldl (nSt x y kk) []).length) 0 (nI (pV P i))))), (fr, .inl (X.2.2, 150, .inr (.inl (vp_updL (shU fr1 0 ((P.take i).foldl (nSt x y kk) []).length) 0 (dst (pK P i) x y)))))] := hD
                                      refine lv_iinc (v := nI (i + 1)) (lv' := [(5, .int (nI (i + 1))), (0, .ref m), (1, .int (nI 0)), (2, .int x), (3, .int y), (4, .int kq), (6, .int (nI ((3300 * 0) + i))), (11, .long (dst (pK P i) x y)), (13, .int (nI 0))]) hx hb dX6_nearest_315 hl (k := 5) rfl (by rw [show Int32.ofInt 1 = nI 1 from by decide]; exact nI_add _ _) (by decide) rfl (fun ls hl => ?_)
                                      refine lv_goto (tgt := 61) hx hb dX6_nearest_318 (by decide) ?_
                                      have hfin := mN_ins (key := pK P i) (x := nI (pV P i)) (tp := ((P.take i).foldl (nSt x y kk) []).length) hr1 hnl hk2 (by omega) hpos (by omega)
                                      rw [show (((P.take i).foldl (nSt x y kk) []).length) + 1 = ((P.take (i + 1)).foldl (nSt x y kk) []).length from by rw [n_step (by omega), hfin.2]] at hP hD
                                      exact ih61 (i + 1) (upd (shU rx1 0 ((P.take i).foldl (nSt x y kk) []).length) 0 (nI (pK P i / 32768))) (upd (shU ry1 0 ((P.take i).foldl (nSt x y kk) []).length) 0 (nI (pK P i % 32768))) (upd (shU rv1 0 ((P.take i).foldl (nSt x y kk) []).length) 0 (nI (pV P i))) (vp_updL (shU fr1 0 ((P.take i).foldl (nSt x y kk) []).length) 0 (dst (pK P i) x y)) (by omega) (by rw [n_step (by omega)]; exact hfin.1) (by omega) _ _ hP hD hS ls (lv_sub hl [1, 2, 3, 4, 5, 0] rfl)
                                    · exact absurd c_173 (by decide)
                                  · skip
                                    obtain ⟨a, rfl⟩ : ∃ a, at_ = a + 1 := ⟨at_ - 1, by omega⟩
                                    refine lv_iload hx hb dX6_nearest_171 (lv_at hl 8 rfl) ?_
                                    refine lv_if_le (tgt := 264) hx hb dX6_nearest_173 (by decide) (fun c_173 => ?_) (fun c_173 => ?_)
                                    · change nI (a + 1) ≤ nI 0 at c_173
                                      replace c_173 : (a + 1) ≤ 0 := (nI_leI (by omega) (by omega)).mp c_173
                                      omega
                                    · change ¬ (nI (a + 1) ≤ nI 0) at c_173
                                      replace c_173 : ¬ (a + 1) ≤ 0 := fun h9 => c_173 ((nI_leI (by omega) (by omega)).mpr h9)
                                      refine lv_aload_n hx hb dX6_nearest_176 rfl (lv_at hl 0 rfl) ?_
                                      refine va_get (D := X.1) (ci := 6) (v := .ref fr) (C := RX6) (T := TX6) (N := 25) hx hb hts hin6 hown hK hP 0 rfl rfl 23 (by decide) lk48 (fun _ h9 => h9) rfl dX6_nearest_177 ?_
                                      refine lv_iload hx hb dX6_nearest_180 (lv_at hl 8 rfl) ?_
                                      refine lv_iconst (v := nI 1) hx hb dX6_nearest_182 (by decide) ?_
                                      refine lv_isub hx hb dX6_nearest_183 ?_
                                      refine lv_topi (fun x_31 ex_31 => ?_)
                                      obtain rfl : x_31 = nI ((a + 1) - 1) := by
                                        rw [ex_31]
                                        exact pk_sub (by omega)
                                      have hi_32 : vp_in (nI ((a + 1) - 1)) 150 := vp_in_nI (by omega) (by omega)
                                      refine va_lald hx hb hK hP 8 1 rfl rfl hi_32 dX6_nearest_184 ?_
                                      refine lv_topl (fun x_33 ex_33 => ?_)
                                      obtain rfl : x_33 = (shU fr1 (a + 1) ((P.take i).foldl (nSt x y kk) []).length) ((a + 1) - 1) := by
                                        rw [ex_33]
                                        rw [nI_clamp (by omega)]
                                      refine lv_topl (fun x_34 ex_34 => ?_)
                                      obtain rfl : x_34 = (((P.take i).foldl (nSt x y kk) []).getD a nr0).2.2 := by
                                        rw [ex_34]
                                        rw [shU_lo _ (by omega)]
                                        exact (hr1.2 _ (by omega)).2.2.2
                                      refine lv_lload hx hb dX6_nearest_185 (lv_at hl 7 rfl) ?_
                                      refine W.lcmp hx hb dX6_nearest_187 ?_
                                      refine lv_if_le (tgt := 264) hx hb dX6_nearest_188 (by decide) (fun c_188 => ?_) (fun c_188 => ?_)
                                      · skip
                                        have hpos : posD ((P.take i).foldl (nSt x y kk) []) (dst (pK P i) x y) = a + 1 := posD_eq _ _ (a + 1) (by omega) h2 (Or.inr (lg_le c_188))
                                        refine lv_aload_n hx hb dX6_nearest_264 rfl (lv_at hl 0 rfl) ?_
                                        refine va_get (D := X.1) (ci := 6) (v := .ref fr) (C := RX6) (T := TX6) (N := 25) hx hb hts hin6 hown hK hP 0 rfl rfl 23 (by decide) lk48 (fun _ h9 => h9) rfl dX6_nearest_265 ?_
                                        refine lv_iload hx hb dX6_nearest_268 (lv_at hl 8 rfl) ?_
                                        refine lv_lload hx hb dX6_nearest_270 (lv_at hl 7 rfl) ?_
                                        have hi_35 : vp_in (nI (a + 1)) 150 := vp_in_nI (by omega) (by omega)
                                        refine va_last hx hb hK hP hD hS 8 1 rfl rfl hi_35 dX6_nearest_272 (fun H locs hP hD hS => ?_)
                                        rw [nI_clamp (by omega)] at hP hD
                                        have hP : va_P X.1 vwCl [(m, .inr (6, [.int (nI bl), .int (nI bk), .int (nI b), .int (nI sp), .ref mn, .ref xr, .ref yr, .ref vr, .ref cr, .ref wr, .int (nI nc), .int (nI 0), .int f_ar, .ref wl, .ref wc, .int f_wt, .int f_lv, .int f_fi, .int f_en, .long f_cd, .ref rx, .ref ry, .ref rv, .ref fr, .int (nI ((((P.take i).foldl (nSt x y kk) []).length) + 1))])), (mn, .inl (X.2.1, 2, .inl mf)), (xr, .inl (X.2.1, 6600, .inl xf)), (yr, .inl (X.2.1, 6600, .inl yf)), (vr, .inl (X.2.1, 6600, .inl vf)), (rx, .inl (X.2.1, 150, .inl (shU rx1 (a + 1) ((P.take i).foldl (nSt x y kk) []).length))), (ry, .inl (X.2.1, 150, .inl (shU ry1 (a + 1) ((P.take i).foldl (nSt x y kk) []).length))), (rv, .inl (X.2.1, 150, .inl (shU rv1 (a + 1) ((P.take i).foldl (nSt x y kk) []).length))), (fr, .inl (X.2.2, 150, .inr (.inl (vp_updL (shU fr1 (a + 1) ((P.take i).foldl (nSt x y kk) []).length) (a + 1) (dst (pK P i) x y)))))] H := hP
                                        have hD : va_D A_ [(m, .inr (6, [.int (nI bl), .int (nI bk), .int (nI b), .int (nI sp), .ref mn, .ref xr, .ref yr, .ref vr, .ref cr, .ref wr, .int (nI nc), .int (nI 0), .int f_ar, .ref wl, .ref wc, .int f_wt, .int f_lv, .int f_fi, .int f_en, .long f_cd, .ref rx, .ref ry, .ref rv, .ref fr, .int (nI ((((P.take i).foldl (nSt x y kk) []).length) + 1))])), (mn, .inl (X.2.1, 2, .inl mf)), (xr, .inl (X.2.1, 6600, .inl xf)), (yr, .inl (X.2.1, 6600, .inl yf)), (vr, .inl (X.2.1, 6600, .inl vf)), (rx, .inl (X.2.1, 150, .inl (shU rx1 (a + 1) ((P.take i).foldl (nSt x y kk) []).length))), (ry, .inl (X.2.1, 150, .inl (shU ry1 (a + 1) ((P.take i).foldl (nSt x y kk) []).length))), (rv, .inl (X.2.1, 150, .inl (shU rv1 (a + 1) ((P.take i).foldl (nSt x y kk) []).length))), (fr, .inl (X.2.2, 150, .inr (.inl (vp_updL (shU fr1 (a + 1) ((P.take i).foldl (nSt x y kk) []).length) (a + 1) (dst (pK P i) x y)))))] := hD
                                        refine lv_aload_n hx hb dX6_nearest_273 rfl (lv_at hl 0 rfl) ?_
                                        refine va_get (D := X.1) (ci := 6) (v := .ref rx) (C := RX6) (T := TX6) (N := 25) hx hb hts hin6 hown hK hP 0 rfl rfl 20 (by decide) lk39 (fun _ h9 => h9) rfl dX6_nearest_274 ?_
                                        refine lv_iload hx hb dX6_nearest_277 (lv_at hl 8 rfl) ?_
                                        refine lv_aload_n hx hb dX6_nearest_279 rfl (lv_at hl 0 rfl) ?_
                                        refine va_get (D := X.1) (ci := 6) (v := .ref xr) (C := RX6) (T := TX6) (N := 25) hx hb hts hin6 hown hK hP 0 rfl rfl 5 (by decide) lk13 (fun _ h9 => h9) rfl dX6_nearest_280 ?_
                                        refine lv_iload hx hb dX6_nearest_283 (lv_at hl 6 rfl) ?_
                                        have hi_36 : vp_in (nI ((3300 * 0) + i)) 6600 := vp_in_nI (by omega) (by omega)
                                        refine va_iald hx hb hK hP 2 0 rfl rfl hi_36 dX6_nearest_285 ?_
                                        refine lv_topi (fun x_37 ex_37 => ?_)
                                        obtain rfl : x_37 = xf ((3300 * 0) + i) := by
                                          rw [ex_37]
                                          rw [nI_clamp (by omega)]
                                        refine lv_topi (fun x_38 ex_38 => ?_)
                                        obtain rfl : x_38 = nI (pK P i / 32768) := by
                                          rw [ex_38]
                                          exact (h0.X i (by omega)).1
                                        have hi_39 : vp_in (nI (a + 1)) 150 := vp_in_nI (by omega) (by omega)
                                        refine va_iast hx hb hK hP hD hS 5 0 rfl rfl hi_39 dX6_nearest_286 (fun H locs hP hD hS => ?_)
                                        rw [nI_clamp (by omega)] at hP hD
                                        have hP : va_P X.1 vwCl [(m, .inr (6, [.int (nI bl), .int (nI bk), .int (nI b), .int (nI sp), .ref mn, .ref xr, .ref yr, .ref vr, .ref cr, .ref wr, .int (nI nc), .int (nI 0), .int f_ar, .ref wl, .ref wc, .int f_wt, .int f_lv, .int f_fi, .int f_en, .long f_cd, .ref rx, .ref ry, .ref rv, .ref fr, .int (nI ((((P.take i).foldl (nSt x y kk) []).length) + 1))])), (mn, .inl (X.2.1, 2, .inl mf)), (xr, .inl (X.2.1, 6600, .inl xf)), (yr, .inl (X.2.1, 6600, .inl yf)), (vr, .inl (X.2.1, 6600, .inl vf)), (rx, .inl (X.2.1, 150, .inl (upd (shU rx1 (a + 1) ((P.take i).foldl (nSt x y kk) []).length) (a + 1) (nI (pK P i / 32768))))), (ry, .inl (X.2.1, 150, .inl (shU ry1 (a + 1) ((P.take i).foldl (nSt x y kk) []).length))), (rv, .inl (X.2.1, 150, .inl (shU rv1 (a + 1) ((P.take i).foldl (nSt x y kk) []).length))), (fr, .inl (X.2.2, 150, .inr (.inl (vp_updL (shU fr1 (a + 1) ((P.take i).foldl (nSt x y kk) []).length) (a + 1) (dst (pK P i) x y)))))] H := hP
                                        have hD : va_D A_ [(m, .inr (6, [.int (nI bl), .int (nI bk), .int (nI b), .int (nI sp), .ref mn, .ref xr, .ref yr, .ref vr, .ref cr, .ref wr, .int (nI nc), .int (nI 0), .int f_ar, .ref wl, .ref wc, .int f_wt, .int f_lv, .int f_fi, .int f_en, .long f_cd, .ref rx, .ref ry, .ref rv, .ref fr, .int (nI ((((P.take i).foldl (nSt x y kk) []).length) + 1))])), (mn, .inl (X.2.1, 2, .inl mf)), (xr, .inl (X.2.1, 6600, .inl xf)), (yr, .inl (X.2.1, 6600, .inl yf)), (vr, .inl (X.2.1, 6600, .inl vf)), (rx, .inl (X.2.1, 150, .inl (upd (shU rx1 (a + 1) ((P.take i).foldl (nSt x y kk) []).length) (a + 1) (nI (pK P i / 32768))))), (ry, .inl (X.2.1, 150, .inl (shU ry1 (a + 1) ((P.take i).foldl (nSt x y kk) []).length))), (rv, .inl (X.2.1, 150, .inl (shU rv1 (a + 1) ((P.take i).foldl (nSt x y kk) []).length))), (fr, .inl (X.2.2, 150, .inr (.inl (vp_updL (shU fr1 (a + 1) ((P.take i).foldl (nSt x y kk) []).length) (a + 1) (dst (pK P i) x y)))))] := hD
                                        refine lv_aload_n hx hb dX6_nearest_287 rfl (lv_at hl 0 rfl) ?_
                                        refine va_get (D := X.1) (ci := 6) (v := .ref ry) (C := RX6) (T := TX6) (N := 25) hx hb hts hin6 hown hK hP 0 rfl rfl 21 (by decide) lk42 (fun _ h9 => h9) rfl dX6_nearest_288 ?_
                                        refine lv_iload hx hb dX6_nearest_291 (lv_at hl 8 rfl) ?_
                                        refine lv_aload_n hx hb dX6_nearest_293 rfl (lv_at hl 0 rfl) ?_
                                        refine va_get (D := X.1) (ci := 6) (v := .ref yr) (C := RX6) (T := TX6) (N := 25) hx hb hts hin6 hown hK hP 0 rfl rfl 6 (by decide) lk16 (fun _ h9 => h9) rfl dX6_nearest_294 ?_
                                        refine lv_iload hx hb dX6_nearest_297 (lv_at hl 6 rfl) ?_
                                        have hi_40 : vp_in (nI ((3300 * 0) + i)) 6600 := vp_in_nI (by omega) (by omega)
                                        refine va_iald hx hb hK hP 3 0 rfl rfl hi_40 dX6_nearest_299 ?_
                                        refine lv_topi (fun x_41 ex_41 => ?_)
                                        obtain rfl : x_41 = yf ((3300 * 0) + i) := by
                                          rw [ex_41]
                                          rw [nI_clamp (by omega)]
                                        refine lv_topi (fun x_42 ex_42 => ?_)
                                        obtain rfl : x_42 = nI (pK P i % 32768) := by
                                          rw [ex_42]
                                          exact (h0.X i (by omega)).2
                                        have hi_43 : vp_in (nI (a + 1)) 150 := vp_in_nI (by omega) (by omega)
                                        refine va_iast hx hb hK hP hD hS 6 0 rfl rfl hi_43 dX6_nearest_300 (fun H locs hP hD hS => ?_)
                                        rw [nI_clamp (by omega)] at hP hD
                                        have hP : va_P X.1 vwCl [(m, .inr (6, [.int (nI bl), .int (nI bk), .int (nI b), .int (nI sp), .ref mn, .ref xr, .ref yr, .ref vr, .ref cr, .ref wr, .int (nI nc), .int (nI 0), .int f_ar, .ref wl, .ref wc, .int f_wt, .int f_lv, .int f_fi, .int f_en, .long f_cd, .ref rx, .ref ry, .ref rv, .ref fr, .int (nI ((((P.take i).foldl (nSt x y kk) []).length) + 1))])), (mn, .inl (X.2.1, 2, .inl mf)), (xr, .inl (X.2.1, 6600, .inl xf)), (yr, .inl (X.2.1, 6600, .inl yf)), (vr, .inl (X.2.1, 6600, .inl vf)), (rx, .inl (X.2.1, 150, .inl (upd (shU rx1 (a + 1) ((P.take i).foldl (nSt x y kk) []).length) (a + 1) (nI (pK P i / 32768))))), (ry, .inl (X.2.1, 150, .inl (upd (shU ry1 (a + 1) ((P.take i).foldl (nSt x y kk) []).length) (a + 1) (nI (pK P i % 32768))))), (rv, .inl (X.2.1, 150, .inl (shU rv1 (a + 1) ((P.take i).foldl (nSt x y kk) []).length))), (fr, .inl (X.2.2, 150, .inr (.inl (vp_updL (shU fr1 (a + 1) ((P.take i).foldl (nSt x y kk) []).length) (a + 1) (dst (pK P i) x y)))))] H := hP
                                        have hD : va_D A_ [(m, .inr (6, [.int (nI bl), .int (nI bk), .int (nI b), .int (nI sp), .ref mn, .ref xr, .ref yr, .ref vr, .ref cr, .ref wr, .int (nI nc), .int (nI 0), .int f_ar, .ref wl, .ref wc, .int f_wt, .int f_lv, .int f_fi, .int f_en, .long f_cd, .ref rx, .ref ry, .ref rv, .ref fr, .int (nI ((((P.take i).foldl (nSt x y kk) []).length) + 1))])), (mn, .inl (X.2.1, 2, .inl mf)), (xr, .inl (X.2.1, 6600, .inl xf)), (yr, .inl (X.2.1, 6600, .inl yf)), (vr, .inl (X.2.1, 6600, .inl vf)), (rx, .inl (X.2.1, 150, .inl (upd (shU rx1 (a + 1) ((P.take i).foldl (nSt x y kk) []).length) (a + 1) (nI (pK P i / 32768))))), (ry, .inl (X.2.1, 150, .inl (upd (shU ry1 (a + 1) ((P.take i).foldl (nSt x y kk) []).length) (a + 1) (nI (pK P i % 32768))))), (rv, .inl (X.2.1, 150, .inl (shU rv1 (a + 1) ((P.take i).foldl (nSt x y kk) []).length))), (fr, .inl (X.2.2, 150, .inr (.inl (vp_updL (shU fr1 (a + 1) ((P.take i).foldl (nSt x y kk) []).length) (a + 1) (dst (pK P i) x y)))))] := hD
                                        refine lv_aload_n hx hb dX6_nearest_301 rfl (lv_at hl 0 rfl) ?_
                                        refine va_get (D := X.1) (ci := 6) (v := .ref rv) (C := RX6) (T := TX6) (N := 25) hx hb hts hin6 hown hK hP 0 rfl rfl 22 (by decide) lk45 (fun _ h9 => h9) rfl dX6_nearest_302 ?_
                                        refine lv_iload hx hb dX6_nearest_305 (lv_at hl 8 rfl) ?_
                                        refine lv_aload_n hx hb dX6_nearest_307 rfl (lv_at hl 0 rfl) ?_
                                        refine va_get (D := X.1) (ci := 6) (v := .ref vr) (C := RX6) (T := TX6) (N := 25) hx hb hts hin6 hown hK hP 0 rfl rfl 7 (by decide) lk19 (fun _ h9 => h9) rfl dX6_nearest_308 ?_
                                        refine lv_iload hx hb dX6_nearest_311 (lv_at hl 6 rfl) ?_
                                        have hi_44 : vp_in (nI ((3300 * 0) + i)) 6600 := vp_in_nI (by omega) (by omega)
                                        refine va_iald hx hb hK hP 4 0 rfl rfl hi_44 dX6_nearest_313 ?_
                                        refine lv_topi (fun x_45 ex_45 => ?_)
                                        obtain rfl : x_45 = vf ((3300 * 0) + i) := by
                                          rw [ex_45]
                                          rw [nI_clamp (by omega)]
                                        refine lv_topi (fun x_46 ex_46 => ?_)
                                        obtain rfl : x_46 = nI (pV P i) := by
                                          rw [ex_46]
                                          exact h0.V i (by omega)
                                        have hi_47 : vp_in (nI (a + 1)) 150 := vp_in_nI (by omega) (by omega)
                                        refine va_iast hx hb hK hP hD hS 7 0 rfl rfl hi_47 dX6_nearest_314 (fun H locs hP hD hS => ?_)
                                        rw [nI_clamp (by omega)] at hP hD
                                        have hP : va_P X.1 vwCl [(m, .inr (6, [.int (nI bl), .int (nI bk), .int (nI b), .int (nI sp), .ref mn, .ref xr, .ref yr, .ref vr, .ref cr, .ref wr, .int (nI nc), .int (nI 0), .int f_ar, .ref wl, .ref wc, .int f_wt, .int f_lv, .int f_fi, .int f_en, .long f_cd, .ref rx, .ref ry, .ref rv, .ref fr, .int (nI ((((P.take i).foldl (nSt x y kk) []).length) + 1))])), (mn, .inl (X.2.1, 2, .inl mf)), (xr, .inl (X.2.1, 6600, .inl xf)), (yr, .inl (X.2.1, 6600, .inl yf)), (vr, .inl (X.2.1, 6600, .inl vf)), (rx, .inl (X.2.1, 150, .inl (upd (shU rx1 (a + 1) ((P.take i).foldl (nSt x y kk) []).length) (a + 1) (nI (pK P i / 32768))))), (ry, .inl (X.2.1, 150, .inl (upd (shU ry1 (a + 1) ((P.take i).foldl (nSt x y kk) []).length) (a + 1) (nI (pK P i % 32768))))), (rv, .inl (X.2.1, 150, .inl (upd (shU rv1 (a + 1) ((P.take i).foldl (nSt x y kk) []).length) (a + 1) (nI (pV P i))))), (fr, .inl (X.2.2, 150, .inr (.inl (vp_updL (shU fr1 (a + 1) ((P.take i).foldl (nSt x y kk) []).length) (a + 1) (dst (pK P i) x y)))))] H := hP
                                        have hD : va_D A_ [(m, .inr (6, [.int (nI bl), .int (nI bk), .int (nI b), .int (nI sp), .ref mn, .ref xr, .ref yr, .ref vr, .ref cr, .ref wr, .int (nI nc), .int (nI 0), .int f_ar, .ref wl, .ref wc, .int f_wt, .int f_lv, .int f_fi, .int f_en, .long f_cd, .ref rx, .ref ry, .ref rv, .ref fr, .int (nI ((((P.take i).foldl (nSt x y kk) []).length) + 1))])), (mn, .inl (X.2.1, 2, .inl mf)), (xr, .inl (X.2.1, 6600, .inl xf)), (yr, .inl (X.2.1, 6600, .inl yf)), (vr, .inl (X.2.1, 6600, .inl vf)), (rx, .inl (X.2.1, 150, .inl (upd (shU rx1 (a + 1) ((P.take i).foldl (nSt x y kk) []).length) (a + 1) (nI (pK P i / 32768))))), (ry, .inl (X.2.1, 150, .inl (upd (shU ry1 (a + 1) ((P.take i).foldl (nSt x y kk) []).length) (a + 1) (nI (pK P i % 32768))))), (rv, .inl (X.2.1, 150, .inl (upd (shU rv1 (a + 1) ((P.take i).foldl (nSt x y kk) []).length) (a + 1) (nI (pV P i))))), (fr, .inl (X.2.2, 150, .inr (.inl (vp_updL (shU fr1 (a + 1) ((P.take i).foldl (nSt x y kk) []).length) (a + 1) (dst (pK P i) x y)))))] := hD
                                        refine lv_iinc (v := nI (i + 1)) (lv' := [(5, .int (nI (i + 1))), (0, .ref m), (1, .int (nI 0)), (2, .int x), (3, .int y), (4, .int kq), (6, .int (nI ((3300 * 0) + i))), (11, .long (dst (pK P i) x y)), (13, .int (nI (a + 1)))]) hx hb dX6_nearest_315 hl (k := 5) rfl (by rw [show Int32.ofInt 1 = nI 1 from by decide]; exact nI_add _ _) (by decide) rfl (fun ls hl => ?_)
                                        refine lv_goto (tgt := 61) hx hb dX6_nearest_318 (by decide) ?_
                                        have hfin := mN_ins (key := pK P i) (x := nI (pV P i)) (tp := ((P.take i).foldl (nSt x y kk) []).length) hr1 hnl hk2 (by omega) hpos (by omega)
                                        rw [show (((P.take i).foldl (nSt x y kk) []).length) + 1 = ((P.take (i + 1)).foldl (nSt x y kk) []).length from by rw [n_step (by omega), hfin.2]] at hP hD
                                        exact ih61 (i + 1) (upd (shU rx1 (a + 1) ((P.take i).foldl (nSt x y kk) []).length) (a + 1) (nI (pK P i / 32768))) (upd (shU ry1 (a + 1) ((P.take i).foldl (nSt x y kk) []).length) (a + 1) (nI (pK P i % 32768))) (upd (shU rv1 (a + 1) ((P.take i).foldl (nSt x y kk) []).length) (a + 1) (nI (pV P i))) (vp_updL (shU fr1 (a + 1) ((P.take i).foldl (nSt x y kk) []).length) (a + 1) (dst (pK P i) x y)) (by omega) (by rw [n_step (by omega)]; exact hfin.1) (by omega) _ _ hP hD hS ls (lv_sub hl [1, 2, 3, 4, 5, 0] rfl)
                                      · skip
                                        have hgt := lg_gt c_188
                                        refine lv_aload_n hx hb dX6_nearest_191 rfl (lv_at hl 0 rfl) ?_
                                        refine va_get (D := X.1) (ci := 6) (v := .ref fr) (C := RX6) (T := TX6) (N := 25) hx hb hts hin6 hown hK hP 0 rfl rfl 23 (by decide) lk48 (fun _ h9 => h9) rfl dX6_nearest_192 ?_
                                        refine lv_iload hx hb dX6_nearest_195 (lv_at hl 8 rfl) ?_
                                        refine lv_aload_n hx hb dX6_nearest_197 rfl (lv_at hl 0 rfl) ?_
                                        refine va_get (D := X.1) (ci := 6) (v := .ref fr) (C := RX6) (T := TX6) (N := 25) hx hb hts hin6 hown hK hP 0 rfl rfl 23 (by decide) lk48 (fun _ h9 => h9) rfl dX6_nearest_198 ?_
                                        refine lv_iload hx hb dX6_nearest_201 (lv_at hl 8 rfl) ?_
                                        refine lv_iconst (v := nI 1) hx hb dX6_nearest_203 (by decide) ?_
                                        refine lv_isub hx hb dX6_nearest_204 ?_
                                        refine lv_topi (fun x_48 ex_48 => ?_)
                                        obtain rfl : x_48 = nI ((a + 1) - 1) := by
                                          rw [ex_48]
                                          exact pk_sub (by omega)
                                        have hi_49 : vp_in (nI ((a + 1) - 1)) 150 := vp_in_nI (by omega) (by omega)
                                        refine va_lald hx hb hK hP 8 1 rfl rfl hi_49 dX6_nearest_205 ?_
                                        refine lv_topl (fun x_50 ex_50 => ?_)
                                        obtain rfl : x_50 = (shU fr1 (a + 1) ((P.take i).foldl (nSt x y kk) []).length) ((a + 1) - 1) := by
                                          rw [ex_50]
                                          rw [nI_clamp (by omega)]
                                        have hi_51 : vp_in (nI (a + 1)) 150 := vp_in_nI (by omega) (by omega)
                                        refine va_last hx hb hK hP hD hS 8 1 rfl rfl hi_51 dX6_nearest_206 (fun H locs hP hD hS => ?_)
                                        rw [nI_clamp (by omega)] at hP hD
                                        rw [show vp_updL (shU fr1 (a + 1) ((P.take i).foldl (nSt x y kk) []).length) (a + 1) ((shU fr1 (a + 1) ((P.take i).foldl (nSt x y kk) []).length) ((a + 1) - 1)) = shU fr1 a ((P.take i).foldl (nSt x y kk) []).length from (by have e9 := shU_stL (f := fr1) (i := a + 1) (n := ((P.take i).foldl (nSt x y kk) []).length) (by omega) (by omega); rw [Nat.add_sub_cancel] at e9; exact e9)] at hP hD
                                        have hP : va_P X.1 vwCl [(m, .inr (6, [.int (nI bl), .int (nI bk), .int (nI b), .int (nI sp), .ref mn, .ref xr, .ref yr, .ref vr, .ref cr, .ref wr, .int (nI nc), .int (nI 0), .int f_ar, .ref wl, .ref wc, .int f_wt, .int f_lv, .int f_fi, .int f_en, .long f_cd, .ref rx, .ref ry, .ref rv, .ref fr, .int (nI ((((P.take i).foldl (nSt x y kk) []).length) + 1))])), (mn, .inl (X.2.1, 2, .inl mf)), (xr, .inl (X.2.1, 6600, .inl xf)), (yr, .inl (X.2.1, 6600, .inl yf)), (vr, .inl (X.2.1, 6600, .inl vf)), (rx, .inl (X.2.1, 150, .inl (shU rx1 (a + 1) ((P.take i).foldl (nSt x y kk) []).length))), (ry, .inl (X.2.1, 150, .inl (shU ry1 (a + 1) ((P.take i).foldl (nSt x y kk) []).length))), (rv, .inl (X.2.1, 150, .inl (shU rv1 (a + 1) ((P.take i).foldl (nSt x y kk) []).length))), (fr, .inl (X.2.2, 150, .inr (.inl (shU fr1 a ((P.take i).foldl (nSt x y kk) []).length))))] H := hP
                                        have hD : va_D A_ [(m, .inr (6, [.int (nI bl), .int (nI bk), .int (nI b), .int (nI sp), .ref mn, .ref xr, .ref yr, .ref vr, .ref cr, .ref wr, .int (nI nc), .int (nI 0), .int f_ar, .ref wl, .ref wc, .int f_wt, .int f_lv, .int f_fi, .int f_en, .long f_cd, .ref rx, .ref ry, .ref rv, .ref fr, .int (nI ((((P.take i).foldl (nSt x y kk) []).length) + 1))])), (mn, .inl (X.2.1, 2, .inl mf)), (xr, .inl (X.2.1, 6600, .inl xf)), (yr, .inl (X.2.1, 6600, .inl yf)), (vr, .inl (X.2.1, 6600, .inl vf)), (rx, .inl (X.2.1, 150, .inl (shU rx1 (a + 1) ((P.take i).foldl (nSt x y kk) []).length))), (ry, .inl (X.2.1, 150, .inl (shU ry1 (a + 1) ((P.take i).foldl (nSt x y kk) []).length))), (rv, .inl (X.2.1, 150, .inl (shU rv1 (a + 1) ((P.take i).foldl (nSt x y kk) []).length))), (fr, .inl (X.2.2, 150, .inr (.inl (shU fr1 a ((P.take i).foldl (nSt x y kk) []).length))))] := hD
                                        refine lv_aload_n hx hb dX6_nearest_207 rfl (lv_at hl 0 rfl) ?_
                                        refine va_get (D := X.1) (ci := 6) (v := .ref rx) (C := RX6) (T := TX6) (N := 25) hx hb hts hin6 hown hK hP 0 rfl rfl 20 (by decide) lk39 (fun _ h9 => h9) rfl dX6_nearest_208 ?_
                                        refine lv_iload hx hb dX6_nearest_211 (lv_at hl 8 rfl) ?_
                                        refine lv_aload_n hx hb dX6_nearest_213 rfl (lv_at hl 0 rfl) ?_
                                        refine va_get (D := X.1) (ci := 6) (v := .ref rx) (C := RX6) (T := TX6) (N := 25) hx hb hts hin6 hown hK hP 0 rfl rfl 20 (by decide) lk39 (fun _ h9 => h9) rfl dX6_nearest_214 ?_
                                        refine lv_iload hx hb dX6_nearest_217 (lv_at hl 8 rfl) ?_
                                        refine lv_iconst (v := nI 1) hx hb dX6_nearest_219 (by decide) ?_
                                        refine lv_isub hx hb dX6_nearest_220 ?_
                                        refine lv_topi (fun x_52 ex_52 => ?_)
                                        obtain rfl : x_52 = nI ((a + 1) - 1) := by
                                          rw [ex_52]
                                          exact pk_sub (by omega)
                                        have hi_53 : vp_in (nI ((a + 1) - 1)) 150 := vp_in_nI (by omega) (by omega)
                                        refine va_iald hx hb hK hP 5 0 rfl rfl hi_53 dX6_nearest_221 ?_
                                        refine lv_topi (fun x_54 ex_54 => ?_)
                                        obtain rfl : x_54 = (shU rx1 (a + 1) ((P.take i).foldl (nSt x y kk) []).length) ((a + 1) - 1) := by
                                          rw [ex_54]
                                          rw [nI_clamp (by omega)]
                                        have hi_55 : vp_in (nI (a + 1)) 150 := vp_in_nI (by omega) (by omega)
                                        refine va_iast hx hb hK hP hD hS 5 0 rfl rfl hi_55 dX6_nearest_222 (fun H locs hP hD hS => ?_)
                                        rw [nI_clamp (by omega)] at hP hD
                                        rw [show upd (shU rx1 (a + 1) ((P.take i).foldl (nSt x y kk) []).length) (a + 1) ((shU rx1 (a + 1) ((P.take i).foldl (nSt x y kk) []).length) ((a + 1) - 1)) = shU rx1 a ((P.take i).foldl (nSt x y kk) []).length from (by have e9 := shU_st (f := rx1) (i := a + 1) (n := ((P.take i).foldl (nSt x y kk) []).length) (by omega) (by omega); rw [Nat.add_sub_cancel] at e9; exact e9)] at hP hD
                                        have hP : va_P X.1 vwCl [(m, .inr (6, [.int (nI bl), .int (nI bk), .int (nI b), .int (nI sp), .ref mn, .ref xr, .ref yr, .ref vr, .ref cr, .ref wr, .int (nI nc), .int (nI 0), .int f_ar, .ref wl, .ref wc, .int f_wt, .int f_lv, .int f_fi, .int f_en, .long f_cd, .ref rx, .ref ry, .ref rv, .ref fr, .int (nI ((((P.take i).foldl (nSt x y kk) []).length) + 1))])), (mn, .inl (X.2.1, 2, .inl mf)), (xr, .inl (X.2.1, 6600, .inl xf)), (yr, .inl (X.2.1, 6600, .inl yf)), (vr, .inl (X.2.1, 6600, .inl vf)), (rx, .inl (X.2.1, 150, .inl (shU rx1 a ((P.take i).foldl (nSt x y kk) []).length))), (ry, .inl (X.2.1, 150, .inl (shU ry1 (a + 1) ((P.take i).foldl (nSt x y kk) []).length))), (rv, .inl (X.2.1, 150, .inl (shU rv1 (a + 1) ((P.take i).foldl (nSt x y kk) []).length))), (fr, .inl (X.2.2, 150, .inr (.inl (shU fr1 a ((P.take i).foldl (nSt x y kk) []).length))))] H := hP
                                        have hD : va_D A_ [(m, .inr (6, [.int (nI bl), .int (nI bk), .int (nI b), .int (nI sp), .ref mn, .ref xr, .ref yr, .ref vr, .ref cr, .ref wr, .int (nI nc), .int (nI 0), .int f_ar, .ref wl, .ref wc, .int f_wt, .int f_lv, .int f_fi, .int f_en, .long f_cd, .ref rx, .ref ry, .ref rv, .ref fr, .int (nI ((((P.take i).foldl (nSt x y kk) []).length) + 1))])), (mn, .inl (X.2.1, 2, .inl mf)), (xr, .inl (X.2.1, 6600, .inl xf)), (yr, .inl (X.2.1, 6600, .inl yf)), (vr, .inl (X.2.1, 6600, .inl vf)), (rx, .inl (X.2.1, 150, .inl (shU rx1 a ((P.take i).foldl (nSt x y kk) []).length))), (ry, .inl (X.2.1, 150, .inl (shU ry1 (a + 1) ((P.take i).foldl (nSt x y kk) []).length))), (rv, .inl (X.2.1, 150, .inl (shU rv1 (a + 1) ((P.take i).foldl (nSt x y kk) []).length))), (fr, .inl (X.2.2, 150, .inr (.inl (shU fr1 a ((P.take i).foldl (nSt x y kk) []).length))))] := hD
                                        refine lv_aload_n hx hb dX6_nearest_223 rfl (lv_at hl 0 rfl) ?_
                                        refine va_get (D := X.1) (ci := 6) (v := .ref ry) (C := RX6) (T := TX6) (N := 25) hx hb hts hin6 hown hK hP 0 rfl rfl 21 (by decide) lk42 (fun _ h9 => h9) rfl dX6_nearest_224 ?_
                                        refine lv_iload hx hb dX6_nearest_227 (lv_at hl 8 rfl) ?_
                                        refine lv_aload_n hx hb dX6_nearest_229 rfl (lv_at hl 0 rfl) ?_
                                        refine va_get (D := X.1) (ci := 6) (v := .ref ry) (C := RX6) (T := TX6) (N := 25) hx hb hts hin6 hown hK hP 0 rfl rfl 21 (by decide) lk42 (fun _ h9 => h9) rfl dX6_nearest_230 ?_
                                        refine lv_iload hx hb dX6_nearest_233 (lv_at hl 8 rfl) ?_
                                        refine lv_iconst (v := nI 1) hx hb dX6_nearest_235 (by decide) ?_
                                        refine lv_isub hx hb dX6_nearest_236 ?_
                                        refine lv_topi (fun x_56 ex_56 => ?_)
                                        obtain rfl : x_56 = nI ((a + 1) - 1) := by
                                          rw [ex_56]
                                          exact pk_sub (by omega)
                                        have hi_57 : vp_in (nI ((a + 1) - 1)) 150 := vp_in_nI (by omega) (by omega)
                                        refine va_iald hx hb hK hP 6 0 rfl rfl hi_57 dX6_nearest_237 ?_
                                        refine lv_topi (fun x_58 ex_58 => ?_)
                                        obtain rfl : x_58 = (shU ry1 (a + 1) ((P.take i).foldl (nSt x y kk) []).length) ((a + 1) - 1) := by
                                          rw [ex_58]
                                          rw [nI_clamp (by omega)]
                                        have hi_59 : vp_in (nI (a + 1)) 150 := vp_in_nI (by omega) (by omega)
                                        refine va_iast hx hb hK hP hD hS 6 0 rfl rfl hi_59 dX6_nearest_238 (fun H locs hP hD hS => ?_)
                                        rw [nI_clamp (by omega)] at hP hD
                                        rw [show upd (shU ry1 (a + 1) ((P.take i).foldl (nSt x y kk) []).length) (a + 1) ((shU ry1 (a + 1) ((P.take i).foldl (nSt x y kk) []).length) ((a + 1) - 1)) = shU ry1 a ((P.take i).foldl (nSt x y kk) []).length from (by have e9 := shU_st (f := ry1) (i := a + 1) (n := ((P.take i).foldl (nSt x y kk) []).length) (by omega) (by omega); rw [Nat.add_sub_cancel] at e9; exact e9)] at hP hD
                                        have hP : va_P X.1 vwCl [(m, .inr (6, [.int (nI bl), .int (nI bk), .int (nI b), .int (nI sp), .ref mn, .ref xr, .ref yr, .ref vr, .ref cr, .ref wr, .int (nI nc), .int (nI 0), .int f_ar, .ref wl, .ref wc, .int f_wt, .int f_lv, .int f_fi, .int f_en, .long f_cd, .ref rx, .ref ry, .ref rv, .ref fr, .int (nI ((((P.take i).foldl (nSt x y kk) []).length) + 1))])), (mn, .inl (X.2.1, 2, .inl mf)), (xr, .inl (X.2.1, 6600, .inl xf)), (yr, .inl (X.2.1, 6600, .inl yf)), (vr, .inl (X.2.1, 6600, .inl vf)), (rx, .inl (X.2.1, 150, .inl (shU rx1 a ((P.take i).foldl (nSt x y kk) []).length))), (ry, .inl (X.2.1, 150, .inl (shU ry1 a ((P.take i).foldl (nSt x y kk) []).length))), (rv, .inl (X.2.1, 150, .inl (shU rv1 (a + 1) ((P.take i).foldl (nSt x y kk) []).length))), (fr, .inl (X.2.2, 150, .inr (.inl (shU fr1 a ((P.take i).foldl (nSt x y kk) []).length))))] H := hP
                                        have hD : va_D A_ [(m, .inr (6, [.int (nI bl), .int (nI bk), .int (nI b), .int (nI sp), .ref mn, .ref xr, .ref yr, .ref vr, .ref cr, .ref wr, .int (nI nc), .int (nI 0), .int f_ar, .ref wl, .ref wc, .int f_wt, .int f_lv, .int f_fi, .int f_en, .long f_cd, .ref rx, .ref ry, .ref rv, .ref fr, .int (nI ((((P.take i).foldl (nSt x y kk) []).length) + 1))])), (mn, .inl (X.2.1, 2, .inl mf)), (xr, .inl (X.2.1, 6600, .inl xf)), (yr, .inl (X.2.1, 6600, .inl yf)), (vr, .inl (X.2.1, 6600, .inl vf)), (rx, .inl (X.2.1, 150, .inl (shU rx1 a ((P.take i).foldl (nSt x y kk) []).length))), (ry, .inl (X.2.1, 150, .inl (shU ry1 a ((P.take i).foldl (nSt x y kk) []).length))), (rv, .inl (X.2.1, 150, .inl (shU rv1 (a + 1) ((P.take i).foldl (nSt x y kk) []).length))), (fr, .inl (X.2.2, 150, .inr (.inl (shU fr1 a ((P.take i).foldl (nSt x y kk) []).length))))] := hD
                                        refine lv_aload_n hx hb dX6_nearest_239 rfl (lv_at hl 0 rfl) ?_
                                        refine va_get (D := X.1) (ci := 6) (v := .ref rv) (C := RX6) (T := TX6) (N := 25) hx hb hts hin6 hown hK hP 0 rfl rfl 22 (by decide) lk45 (fun _ h9 => h9) rfl dX6_nearest_240 ?_
                                        refine lv_iload hx hb dX6_nearest_243 (lv_at hl 8 rfl) ?_
                                        refine lv_aload_n hx hb dX6_nearest_245 rfl (lv_at hl 0 rfl) ?_
                                        refine va_get (D := X.1) (ci := 6) (v := .ref rv) (C := RX6) (T := TX6) (N := 25) hx hb hts hin6 hown hK hP 0 rfl rfl 22 (by decide) lk45 (fun _ h9 => h9) rfl dX6_nearest_246 ?_
                                        refine lv_iload hx hb dX6_nearest_249 (lv_at hl 8 rfl) ?_
                                        refine lv_iconst (v := nI 1) hx hb dX6_nearest_251 (by decide) ?_
                                        refine lv_isub hx hb dX6_nearest_252 ?_
                                        refine lv_topi (fun x_60 ex_60 => ?_)
                                        obtain rfl : x_60 = nI ((a + 1) - 1) := by
                                          rw [ex_60]
                                          exact pk_sub (by omega)
                                        have hi_61 : vp_in (nI ((a + 1) - 1)) 150 := vp_in_nI (by omega) (by omega)
                                        refine va_iald hx hb hK hP 7 0 rfl rfl hi_61 dX6_nearest_253 ?_
                                        refine lv_topi (fun x_62 ex_62 => ?_)
                                        obtain rfl : x_62 = (shU rv1 (a + 1) ((P.take i).foldl (nSt x y kk) []).length) ((a + 1) - 1) := by
                                          rw [ex_62]
                                          rw [nI_clamp (by omega)]
                                        have hi_63 : vp_in (nI (a + 1)) 150 := vp_in_nI (by omega) (by omega)
                                        refine va_iast hx hb hK hP hD hS 7 0 rfl rfl hi_63 dX6_nearest_254 (fun H locs hP hD hS => ?_)
                                        rw [nI_clamp (by omega)] at hP hD
                                        rw [show upd (shU rv1 (a + 1) ((P.take i).foldl (nSt x y kk) []).length) (a + 1) ((shU rv1 (a + 1) ((P.take i).foldl (nSt x y kk) []).length) ((a + 1) - 1)) = shU rv1 a ((P.take i).foldl (nSt x y kk) []).length from (by have e9 := shU_st (f := rv1) (i := a + 1) (n := ((P.take i).foldl (nSt x y kk) []).length) (by omega) (by omega); rw [Nat.add_sub_cancel] at e9; exact e9)] at hP hD
                                        have hP : va_P X.1 vwCl [(m, .inr (6, [.int (nI bl), .int (nI bk), .int (nI b), .int (nI sp), .ref mn, .ref xr, .ref yr, .ref vr, .ref cr, .ref wr, .int (nI nc), .int (nI 0), .int f_ar, .ref wl, .ref wc, .int f_wt, .int f_lv, .int f_fi, .int f_en, .long f_cd, .ref rx, .ref ry, .ref rv, .ref fr, .int (nI ((((P.take i).foldl (nSt x y kk) []).length) + 1))])), (mn, .inl (X.2.1, 2, .inl mf)), (xr, .inl (X.2.1, 6600, .inl xf)), (yr, .inl (X.2.1, 6600, .inl yf)), (vr, .inl (X.2.1, 6600, .inl vf)), (rx, .inl (X.2.1, 150, .inl (shU rx1 a ((P.take i).foldl (nSt x y kk) []).length))), (ry, .inl (X.2.1, 150, .inl (shU ry1 a ((P.take i).foldl (nSt x y kk) []).length))), (rv, .inl (X.2.1, 150, .inl (shU rv1 a ((P.take i).foldl (nSt x y kk) []).length))), (fr, .inl (X.2.2, 150, .inr (.inl (shU fr1 a ((P.take i).foldl (nSt x y kk) []).length))))] H := hP
                                        have hD : va_D A_ [(m, .inr (6, [.int (nI bl), .int (nI bk), .int (nI b), .int (nI sp), .ref mn, .ref xr, .ref yr, .ref vr, .ref cr, .ref wr, .int (nI nc), .int (nI 0), .int f_ar, .ref wl, .ref wc, .int f_wt, .int f_lv, .int f_fi, .int f_en, .long f_cd, .ref rx, .ref ry, .ref rv, .ref fr, .int (nI ((((P.take i).foldl (nSt x y kk) []).length) + 1))])), (mn, .inl (X.2.1, 2, .inl mf)), (xr, .inl (X.2.1, 6600, .inl xf)), (yr, .inl (X.2.1, 6600, .inl yf)), (vr, .inl (X.2.1, 6600, .inl vf)), (rx, .inl (X.2.1, 150, .inl (shU rx1 a ((P.take i).foldl (nSt x y kk) []).length))), (ry, .inl (X.2.1, 150, .inl (shU ry1 a ((P.take i).foldl (nSt x y kk) []).length))), (rv, .inl (X.2.1, 150, .inl (shU rv1 a ((P.take i).foldl (nSt x y kk) []).length))), (fr, .inl (X.2.2, 150, .inr (.inl (shU fr1 a ((P.take i).foldl (nSt x y kk) []).length))))] := hD
                                        refine lv_iload hx hb dX6_nearest_255 (lv_at hl 8 rfl) ?_
                                        refine lv_iconst (v := nI 1) hx hb dX6_nearest_257 (by decide) ?_
                                        refine lv_isub hx hb dX6_nearest_258 ?_
                                        refine lv_topi (fun x_64 ex_64 => ?_)
                                        obtain rfl : x_64 = nI ((a + 1) - 1) := by
                                          rw [ex_64]
                                          exact pk_sub (by omega)
                                        refine lv_istore (lv' := [(13, .int (nI ((a + 1) - 1))), (0, .ref m), (1, .int (nI 0)), (2, .int x), (3, .int y), (4, .int kq), (5, .int (nI i)), (6, .int (nI ((3300 * 0) + i))), (11, .long (dst (pK P i) x y))]) hx hb dX6_nearest_259 hl (by decide) rfl (fun ls hl => ?_)
                                        refine lv_goto (tgt := 171) hx hb dX6_nearest_261 (by decide) ?_
                                        have hstep : ∀ j, a ≤ j → j < ((P.take i).foldl (nSt x y kk) []).length → (dst (pK P i) x y) < (((P.take i).foldl (nSt x y kk) []).getD j nr0).2.2 := fun j h8 h9 => by
                                          rcases Nat.eq_or_lt_of_le h8 with z | z
                                          · rw [← z]; exact hgt
                                          · exact h2 j z h9
                                        exact ih171 a (by omega) (by exact hstep) (by omega) _ _ hP hD hS ls (lv_sub hl [1, 2, 3, 4, 5, 6, 7, 8, 0] rfl)
                              have h2i : ∀ j, ((P.take i).foldl (nSt x y kk) []).length ≤ j → j < ((P.take i).foldl (nSt x y kk) []).length → (dst (pK P i) x y) < (((P.take i).foldl (nSt x y kk) []).getD j nr0).2.2 := fun j h8 h9 => absurd h9 (by omega)
                              rw [← shU_0 rx1 ((P.take i).foldl (nSt x y kk) []).length, ← shU_0 ry1 ((P.take i).foldl (nSt x y kk) []).length, ← shU_0 rv1 ((P.take i).foldl (nSt x y kk) []).length, ← shU_0 fr1 ((P.take i).foldl (nSt x y kk) []).length] at hP hD
                              exact loop_171 _ (((P.take i).foldl (nSt x y kk) []).length) (by omega) (by exact h2i) (Nat.lt_succ_self _) _ _ hP hD hS ls (lv_sub hl [5, 6, 7, 8, 9, 10, 4, 1, 0] rfl)
                            · replace c_131 : (((P.take i).foldl (nSt x y kk) []).length) = kk := (nI_eq (by omega) (by omega)).mp c_131
                              refine lv_aload_n hx hb dX6_nearest_134 rfl (lv_at hl 5 rfl) ?_
                              refine va_get (D := X.1) (ci := 6) (v := .ref fr) (C := RX6) (T := TX6) (N := 25) hx hb hts hin6 hown hK hP 0 rfl rfl 23 (by decide) lk48 (fun _ h9 => h9) rfl dX6_nearest_135 ?_
                              refine lv_iload hx hb dX6_nearest_138 (lv_at hl 9 rfl) ?_
                              refine lv_topi (fun x_65 ex_65 => ?_)
                              obtain rfl : x_65 = nI kk := by
                                rw [ex_65]
                                exact hkk
                              refine lv_iconst (v := nI 1) hx hb dX6_nearest_140 (by decide) ?_
                              refine lv_isub hx hb dX6_nearest_141 ?_
                              refine lv_topi (fun x_66 ex_66 => ?_)
                              obtain rfl : x_66 = nI (kk - 1) := by
                                rw [ex_66]
                                exact pk_sub (by omega)
                              have hi_67 : vp_in (nI (kk - 1)) 150 := vp_in_nI (by omega) (by omega)
                              refine va_lald hx hb hK hP 8 1 rfl rfl hi_67 dX6_nearest_142 ?_
                              refine lv_topl (fun x_68 ex_68 => ?_)
                              obtain rfl : x_68 = fr1 (kk - 1) := by
                                rw [ex_68]
                                rw [nI_clamp (by omega)]
                              refine lv_topl (fun x_69 ex_69 => ?_)
                              obtain rfl : x_69 = (((P.take i).foldl (nSt x y kk) []).getD (kk - 1) nr0).2.2 := by
                                rw [ex_69]
                                exact (hr1.2 _ (by omega)).2.2.2
                              refine lv_lload hx hb dX6_nearest_143 (lv_at hl 1 rfl) ?_
                              refine W.lcmp hx hb dX6_nearest_145 ?_
                              refine lv_if_gt (tgt := 152) hx hb dX6_nearest_146 (by decide) (fun c_146 => ?_) (fun c_146 => ?_)
                              · skip
                                refine lv_iload hx hb dX6_nearest_152 (lv_at hl 9 rfl) ?_
                                refine lv_topi (fun x_70 ex_70 => ?_)
                                obtain rfl : x_70 = nI kk := by
                                  rw [ex_70]
                                  exact hkk
                                refine lv_iconst (v := nI 1) hx hb dX6_nearest_154 (by decide) ?_
                                refine lv_isub hx hb dX6_nearest_155 ?_
                                refine lv_topi (fun x_71 ex_71 => ?_)
                                obtain rfl : x_71 = nI (kk - 1) := by
                                  rw [ex_71]
                                  exact pk_sub (by omega)
                                refine lv_istore (lv' := [(13, .int (nI (kk - 1))), (11, .long (dst (pK P i) x y)), (9, .long (((nI (pK P i % 32768)) - y).toInt64)), (7, .long (((nI (pK P i / 32768)) - x).toInt64)), (6, .int (nI ((3300 * 0) + i))), (0, .ref m), (1, .int (nI 0)), (2, .int x), (3, .int y), (4, .int kq), (5, .int (nI i))]) hx hb dX6_nearest_156 hl (by decide) rfl (fun ls hl => ?_)
                                refine lv_goto (tgt := 171) hx hb dX6_nearest_158 (by decide) ?_
                                have loop_171 : ∀ (fu : Nat) (at_ : Nat), (at_ ≤ (kk - 1)) → (∀ j, at_ ≤ j → j < ((P.take i).foldl (nSt x y kk) []).length → (dst (pK P i) x y) < (((P.take i).foldl (nSt x y kk) []).getD j nr0).2.2) → at_ < fu → ∀ (H : Heap) (locs : List Loc), va_P X.1 vwCl [(m, .inr (6, [.int (nI bl), .int (nI bk), .int (nI b), .int (nI sp), .ref mn, .ref xr, .ref yr, .ref vr, .ref cr, .ref wr, .int (nI nc), .int (nI 0), .int f_ar, .ref wl, .ref wc, .int f_wt, .int f_lv, .int f_fi, .int f_en, .long f_cd, .ref rx, .ref ry, .ref rv, .ref fr, .int (nI (((P.take i).foldl (nSt x y kk) []).length))])), (mn, .inl (X.2.1, 2, .inl mf)), (xr, .inl (X.2.1, 6600, .inl xf)), (yr, .inl (X.2.1, 6600, .inl yf)), (vr, .inl (X.2.1, 6600, .inl vf)), (rx, .inl (X.2.1, 150, .inl (shU rx1 at_ (kk - 1)))), (ry, .inl (X.2.1, 150, .inl (shU ry1 at_ (kk - 1)))), (rv, .inl (X.2.1, 150, .inl (shU rv1 at_ (kk - 1)))), (fr, .inl (X.2.2, 150, .inr (.inl (shU fr1 at_ (kk - 1)))))] H → va_D A_ [(m, .inr (6, [.int (nI bl), .int (nI bk), .int (nI b), .int (nI sp), .ref mn, .ref xr, .ref yr, .ref vr, .ref cr, .ref wr, .int (nI nc), .int (nI 0), .int f_ar, .ref wl, .ref wc, .int f_wt, .int f_lv, .int f_fi, .int f_en, .long f_cd, .ref rx, .ref ry, .ref rv, .ref fr, .int (nI (((P.take i).foldl (nSt x y kk) []).length))])), (mn, .inl (X.2.1, 2, .inl mf)), (xr, .inl (X.2.1, 6600, .inl xf)), (yr, .inl (X.2.1, 6600, .inl yf)), (vr, .inl (X.2.1, 6600, .inl vf)), (rx, .inl (X.2.1, 150, .inl (shU rx1 at_ (kk - 1)))), (ry, .inl (X.2.1, 150, .inl (shU ry1 at_ (kk - 1)))), (rv, .inl (X.2.1, 150, .inl (shU rv1 at_ (kk - 1)))), (fr, .inl (X.2.2, 150, .inr (.inl (shU fr1 at_ (kk - 1)))))] → va_S A_ sz.heap H locs → ∀ (ls : Array Slot), lv_has ls 14 [(0, .ref m), (1, .int (nI 0)), (2, .int x), (3, .int y), (4, .int kq), (5, .int (nI i)), (6, .int (nI ((3300 * 0) + i))), (11, .long (dst (pK P i) x y)), (13, .int (nI at_))] → W pz l ez (headSpec wsX6_nearest (rmk 1)).room sz mz ([.ref m, .int (nI 0), .int x, .int y, .int kq].toArray) below meth cz H locs 0 0 Q (F0 mz 171 ls []) := by
                                  intro fu
                                  induction fu with
                                  | zero => intro at_ h1a h2 hfu; exact absurd hfu (Nat.not_lt_zero _)
                                  | succ fu ih171 =>
                                    intro at_ h1a h2 hfu H locs hP hD hS ls hl
                                    rcases Nat.eq_zero_or_pos at_ with hz | hz
                                    · skip
                                      subst hz
                                      have hpos : posD ((P.take i).foldl (nSt x y kk) []) (dst (pK P i) x y) = 0 := posD_eq _ _ 0 (Nat.zero_le _) h2 (Or.inl rfl)
                                      refine lv_iload hx hb dX6_nearest_171 (lv_at hl 8 rfl) ?_
                                      refine lv_if_le (tgt := 264) hx hb dX6_nearest_173 (by decide) (fun c_173 => ?_) (fun c_173 => ?_)
                                      · skip
                                        refine lv_aload_n hx hb dX6_nearest_264 rfl (lv_at hl 0 rfl) ?_
                                        refine va_get (D := X.1) (ci := 6) (v := .ref fr) (C := RX6) (T := TX6) (N := 25) hx hb hts hin6 hown hK hP 0 rfl rfl 23 (by decide) lk48 (fun _ h9 => h9) rfl dX6_nearest_265 ?_
                                        refine lv_iload hx hb dX6_nearest_268 (lv_at hl 8 rfl) ?_
                                        refine lv_lload hx hb dX6_nearest_270 (lv_at hl 7 rfl) ?_
                                        have hi_72 : vp_in (nI 0) 150 := vp_in_nI (by omega) (by omega)
                                        refine va_last hx hb hK hP hD hS 8 1 rfl rfl hi_72 dX6_nearest_272 (fun H locs hP hD hS => ?_)
                                        rw [nI_clamp (by omega)] at hP hD
                                        have hP : va_P X.1 vwCl [(m, .inr (6, [.int (nI bl), .int (nI bk), .int (nI b), .int (nI sp), .ref mn, .ref xr, .ref yr, .ref vr, .ref cr, .ref wr, .int (nI nc), .int (nI 0), .int f_ar, .ref wl, .ref wc, .int f_wt, .int f_lv, .int f_fi, .int f_en, .long f_cd, .ref rx, .ref ry, .ref rv, .ref fr, .int (nI (((P.take i).foldl (nSt x y kk) []).length))])), (mn, .inl (X.2.1, 2, .inl mf)), (xr, .inl (X.2.1, 6600, .inl xf)), (yr, .inl (X.2.1, 6600, .inl yf)), (vr, .inl (X.2.1, 6600, .inl vf)), (rx, .inl (X.2.1, 150, .inl (shU rx1 0 (kk - 1)))), (ry, .inl (X.2.1, 150, .inl (shU ry1 0 (kk - 1)))), (rv, .inl (X.2.1, 150, .inl (shU rv1 0 (kk - 1)))), (fr, .inl (X.2.2, 150, .inr (.inl (vp_updL (shU fr1 0 (kk - 1)) 0 (dst (pK P i) x y)))))] H := hP
                                        have hD : va_D A_ [(m, .inr (6, [.int (nI bl), .int (nI bk), .int (nI b), .int (nI sp), .ref mn, .ref xr, .ref yr, .ref vr, .ref cr, .ref wr, .int (nI nc), .int (nI 0), .int f_ar, .ref wl, .ref wc, .int f_wt, .int f_lv, .int f_fi, .int f_en, .long f_cd, .ref rx, .ref ry, .ref rv, .ref fr, .int (nI (((P.take i).foldl (nSt x y kk) []).length))])), (mn, .inl (X.2.1, 2, .inl mf)), (xr, .inl (X.2.1, 6600, .inl xf)), (yr, .inl (X.2.1, 6600, .inl yf)), (vr, .inl (X.2.1, 6600, .inl vf)), (rx, .inl (X.2.1, 150, .inl (shU rx1 0 (kk - 1)))), (ry, .inl (X.2.1, 150, .inl (shU ry1 0 (kk - 1)))), (rv, .inl (X.2.1, 150, .inl (shU rv1 0 (kk - 1)))), (fr, .inl (X.2.2, 150, .inr (.inl (vp_updL (shU fr1 0 (kk - 1)) 0 (dst (pK P i) x y)))))] := hD
                                        refine lv_aload_n hx hb dX6_nearest_273 rfl (lv_at hl 0 rfl) ?_
                                        refine va_get (D := X.1) (ci := 6) (v := .ref rx) (C := RX6) (T := TX6) (N := 25) hx hb hts hin6 hown hK hP 0 rfl rfl 20 (by decide) lk39 (fun _ h9 => h9) rfl dX6_nearest_274 ?_
                                        refine lv_iload hx hb dX6_nearest_277 (lv_at hl 8 rfl) ?_
                                        refine lv_aload_n hx hb dX6_nearest_279 rfl (lv_at hl 0 rfl) ?_
                                        refine va_get (D := X.1) (ci := 6) (v := .ref xr) (C := RX6) (T := TX6) (N := 25) hx hb hts hin6 hown hK hP 0 rfl rfl 5 (by decide) lk13 (fun _ h9 => h9) rfl dX6_nearest_280 ?_
                                        refine lv_iload hx hb dX6_nearest_283 (lv_at hl 6 rfl) ?_
                                        have hi_73 : vp_in (nI ((3300 * 0) + i)) 6600 := vp_in_nI (by omega) (by omega)
                                        refine va_iald hx hb hK hP 2 0 rfl rfl hi_73 dX6_nearest_285 ?_
                                        refine lv_topi (fun x_74 ex_74 => ?_)
                                        obtain rfl : x_74 = xf ((3300 * 0) + i) := by
                                          rw [ex_74]
                                          rw [nI_clamp (by omega)]
                                        refine lv_topi (fun x_75 ex_75 => ?_)
                                        obtain rfl : x_75 = nI (pK P i / 32768) := by
                                          rw [ex_75]
                                          exact (h0.X i (by omega)).1
                                        have hi_76 : vp_in (nI 0) 150 := vp_in_nI (by omega) (by omega)
                                        refine va_iast hx hb hK hP hD hS 5 0 rfl rfl hi_76 dX6_nearest_286 (fun H locs hP hD hS => ?_)
                                        rw [nI_clamp (by omega)] at hP hD
                                        have hP : va_P X.1 vwCl [(m, .inr (6, [.int (nI bl), .int (nI bk), .int (nI b), .int (nI sp), .ref mn, .ref xr, .ref yr, .ref vr, .ref cr, .ref wr, .int (nI nc), .int (nI 0), .int f_ar, .ref wl, .ref wc, .int f_wt, .int f_lv, .int f_fi, .int f_en, .long f_cd, .ref rx, .ref ry, .ref rv, .ref fr, .int (nI (((P.take i).foldl (nSt x y kk) []).length))])), (mn, .inl (X.2.1, 2, .inl mf)), (xr, .inl (X.2.1, 6600, .inl xf)), (yr, .inl (X.2.1, 6600, .inl yf)), (vr, .inl (X.2.1, 6600, .inl vf)), (rx, .inl (X.2.1, 150, .inl (upd (shU rx1 0 (kk - 1)) 0 (nI (pK P i / 32768))))), (ry, .inl (X.2.1, 150, .inl (shU ry1 0 (kk - 1)))), (rv, .inl (X.2.1, 150, .inl (shU rv1 0 (kk - 1)))), (fr, .inl (X.2.2, 150, .inr (.inl (vp_updL (shU fr1 0 (kk - 1)) 0 (dst (pK P i) x y)))))] H := hP
                                        have hD : va_D A_ [(m, .inr (6, [.int (nI bl), .int (nI bk), .int (nI b), .int (nI sp), .ref mn, .ref xr, .ref yr, .ref vr, .ref cr, .ref wr, .int (nI nc), .int (nI 0), .int f_ar, .ref wl, .ref wc, .int f_wt, .int f_lv, .int f_fi, .int f_en, .long f_cd, .ref rx, .ref ry, .ref rv, .ref fr, .int (nI (((P.take i).foldl (nSt x y kk) []).length))])), (mn, .inl (X.2.1, 2, .inl mf)), (xr, .inl (X.2.1, 6600, .inl xf)), (yr, .inl (X.2.1, 6600, .inl yf)), (vr, .inl (X.2.1, 6600, .inl vf)), (rx, .inl (X.2.1, 150, .inl (upd (shU rx1 0 (kk - 1)) 0 (nI (pK P i / 32768))))), (ry, .inl (X.2.1, 150, .inl (shU ry1 0 (kk - 1)))), (rv, .inl (X.2.1, 150, .inl (shU rv1 0 (kk - 1)))), (fr, .inl (X.2.2, 150, .inr (.inl (vp_updL (shU fr1 0 (kk - 1)) 0 (dst (pK P i) x y)))))] := hD
                                        refine lv_aload_n hx hb dX6_nearest_287 rfl (lv_at hl 0 rfl) ?_
                                        refine va_get (D := X.1) (ci := 6) (v := .ref ry) (C := RX6) (T := TX6) (N := 25) hx hb hts hin6 hown hK hP 0 rfl rfl 21 (by decide) lk42 (fun _ h9 => h9) rfl dX6_nearest_288 ?_
                                        refine lv_iload hx hb dX6_nearest_291 (lv_at hl 8 rfl) ?_
                                        refine lv_aload_n hx hb dX6_nearest_293 rfl (lv_at hl 0 rfl) ?_
                                        refine va_get (D := X.1) (ci := 6) (v := .ref yr) (C := RX6) (T := TX6) (N := 25) hx hb hts hin6 hown hK hP 0 rfl rfl 6 (by decide) lk16 (fun _ h9 => h9) rfl dX6_nearest_294 ?_
                                        refine lv_iload hx hb dX6_nearest_297 (lv_at hl 6 rfl) ?_
                                        have hi_77 : vp_in (nI ((3300 * 0) + i)) 6600 := vp_in_nI (by omega) (by omega)
                                        refine va_iald hx hb hK hP 3 0 rfl rfl hi_77 dX6_nearest_299 ?_
                                        refine lv_topi (fun x_78 ex_78 => ?_)
                                        obtain rfl : x_78 = yf ((3300 * 0) + i) := by
                                          rw [ex_78]
                                          rw [nI_clamp (by omega)]
                                        refine lv_topi (fun x_79 ex_79 => ?_)
                                        obtain rfl : x_79 = nI (pK P i % 32768) := by
                                          rw [ex_79]
                                          exact (h0.X i (by omega)).2
                                        have hi_80 : vp_in (nI 0) 150 := vp_in_nI (by omega) (by omega)
                                        refine va_iast hx hb hK hP hD hS 6 0 rfl rfl hi_80 dX6_nearest_300 (fun H locs hP hD hS => ?_)
                                        rw [nI_clamp (by omega)] at hP hD
                                        have hP : va_P X.1 vwCl [(m, .inr (6, [.int (nI bl), .int (nI bk), .int (nI b), .int (nI sp), .ref mn, .ref xr, .ref yr, .ref vr, .ref cr, .ref wr, .int (nI nc), .int (nI 0), .int f_ar, .ref wl, .ref wc, .int f_wt, .int f_lv, .int f_fi, .int f_en, .long f_cd, .ref rx, .ref ry, .ref rv, .ref fr, .int (nI (((P.take i).foldl (nSt x y kk) []).length))])), (mn, .inl (X.2.1, 2, .inl mf)), (xr, .inl (X.2.1, 6600, .inl xf)), (yr, .inl (X.2.1, 6600, .inl yf)), (vr, .inl (X.2.1, 6600, .inl vf)), (rx, .inl (X.2.1, 150, .inl (upd (shU rx1 0 (kk - 1)) 0 (nI (pK P i / 32768))))), (ry, .inl (X.2.1, 150, .inl (upd (shU ry1 0 (kk - 1)) 0 (nI (pK P i % 32768))))), (rv, .inl (X.2.1, 150, .inl (shU rv1 0 (kk - 1)))), (fr, .inl (X.2.2, 150, .inr (.inl (vp_updL (shU fr1 0 (kk - 1)) 0 (dst (pK P i) x y)))))] H := hP
                                        have hD : va_D A_ [(m, .inr (6, [.int (nI bl), .int (nI bk), .int (nI b), .int (nI sp), .ref mn, .ref xr, .ref yr, .ref vr, .ref cr, .ref wr, .int (nI nc), .int (nI 0), .int f_ar, .ref wl, .ref wc, .int f_wt, .int f_lv, .int f_fi, .int f_en, .long f_cd, .ref rx, .ref ry, .ref rv, .ref fr, .int (nI (((P.take i).foldl (nSt x y kk) []).length))])), (mn, .inl (X.2.1, 2, .inl mf)), (xr, .inl (X.2.1, 6600, .inl xf)), (yr, .inl (X.2.1, 6600, .inl yf)), (vr, .inl (X.2.1, 6600, .inl vf)), (rx, .inl (X.2.1, 150, .inl (upd (shU rx1 0 (kk - 1)) 0 (nI (pK P i / 32768))))), (ry, .inl (X.2.1, 150, .inl (upd (shU ry1 0 (kk - 1)) 0 (nI (pK P i % 32768))))), (rv, .inl (X.2.1, 150, .inl (shU rv1 0 (kk - 1)))), (fr, .inl (X.2.2, 150, .inr (.inl (vp_updL (shU fr1 0 (kk - 1)) 0 (dst (pK P i) x y)))))] := hD
                                        refine lv_aload_n hx hb dX6_nearest_301 rfl (lv_at hl 0 rfl) ?_
                                        refine va_get (D := X.1) (ci := 6) (v := .ref rv) (C := RX6) (T := TX6) (N := 25) hx hb hts hin6 hown hK hP 0 rfl rfl 22 (by decide) lk45 (fun _ h9 => h9) rfl dX6_nearest_302 ?_
                                        refine lv_iload hx hb dX6_nearest_305 (lv_at hl 8 rfl) ?_
                                        refine lv_aload_n hx hb dX6_nearest_307 rfl (lv_at hl 0 rfl) ?_
                                        refine va_get (D := X.1) (ci := 6) (v := .ref vr) (C := RX6) (T := TX6) (N := 25) hx hb hts hin6 hown hK hP 0 rfl rfl 7 (by decide) lk19 (fun _ h9 => h9) rfl dX6_nearest_308 ?_
                                        refine lv_iload hx hb dX6_nearest_311 (lv_at hl 6 rfl) ?_
                                        have hi_81 : vp_in (nI ((3300 * 0) + i)) 6600 := vp_in_nI (by omega) (by omega)
                                        refine va_iald hx hb hK hP 4 0 rfl rfl hi_81 dX6_nearest_313 ?_
                                        refine lv_topi (fun x_82 ex_82 => ?_)
                                        obtain rfl : x_82 = vf ((3300 * 0) + i) := by
                                          rw [ex_82]
                                          rw [nI_clamp (by omega)]
                                        refine lv_topi (fun x_83 ex_83 => ?_)
                                        obtain rfl : x_83 = nI (pV P i) := by
                                          rw [ex_83]
                                          exact h0.V i (by omega)
                                        have hi_84 : vp_in (nI 0) 150 := vp_in_nI (by omega) (by omega)
                                        refine va_iast hx hb hK hP hD hS 7 0 rfl rfl hi_84 dX6_nearest_314 (fun H locs hP hD hS => ?_)
                                        rw [nI_clamp (by omega)] at hP hD
                                        have hP : va_P X.1 vwCl [(m, .inr (6, [.int (nI bl), .int (nI bk), .int (nI b), .int (nI sp), .ref mn, .ref xr, .ref yr, .ref vr, .ref cr, .ref wr, .int (nI nc), .int (nI 0), .int f_ar, .ref wl, .ref wc, .int f_wt, .int f_lv, .int f_fi, .int f_en, .long f_cd, .ref rx, .ref ry, .ref rv, .ref fr, .int (nI (((P.take i).foldl (nSt x y kk) []).length))])), (mn, .inl (X.2.1, 2, .inl mf)), (xr, .inl (X.2.1, 6600, .inl xf)), (yr, .inl (X.2.1, 6600, .inl yf)), (vr, .inl (X.2.1, 6600, .inl vf)), (rx, .inl (X.2.1, 150, .inl (upd (shU rx1 0 (kk - 1)) 0 (nI (pK P i / 32768))))), (ry, .inl (X.2.1, 150, .inl (upd (shU ry1 0 (kk - 1)) 0 (nI (pK P i % 32768))))), (rv, .inl (X.2.1, 150, .inl (upd (shU rv1 0 (kk - 1)) 0 (nI (pV P i))))), (fr, .inl (X.2.2, 150, .inr (.inl (vp_updL (shU fr1 0 (kk - 1)) 0 (dst (pK P i) x y)))))] H := hP
                                        have hD : va_D A_ [(m, .inr (6, [.int (nI bl), .int (nI bk), .int (nI b), .int (nI sp), .ref mn, .ref xr, .ref yr, .ref vr, .ref cr, .ref wr, .int (nI nc), .int (nI 0), .int f_ar, .ref wl, .ref wc, .int f_wt, .int f_lv, .int f_fi, .int f_en, .long f_cd, .ref rx, .ref ry, .ref rv, .ref fr, .int (nI (((P.take i).foldl (nSt x y kk) []).length))])), (mn, .inl (X.2.1, 2, .inl mf)), (xr, .inl (X.2.1, 6600, .inl xf)), (yr, .inl (X.2.1, 6600, .inl yf)), (vr, .inl (X.2.1, 6600, .inl vf)), (rx, .inl (X.2.1, 150, .inl (upd (shU rx1 0 (kk - 1)) 0 (nI (pK P i / 32768))))), (ry, .inl (X.2.1, 150, .inl (upd (shU ry1 0 (kk - 1)) 0 (nI (pK P i % 32768))))), (rv, .inl (X.2.1, 150, .inl (upd (shU rv1 0 (kk - 1)) 0 (nI (pV P i))))), (fr, .inl (X.2.2, 150, .inr (.inl (vp_updL (shU fr1 0 (kk - 1)) 0 (dst (pK P i) x y)))))] := hD
                                        refine lv_iinc (v := nI (i + 1)) (lv' := [(5, .int (nI (i + 1))), (0, .ref m), (1, .int (nI 0)), (2, .int x), (3, .int y), (4, .int kq), (6, .int (nI ((3300 * 0) + i))), (11, .long (dst (pK P i) x y)), (13, .int (nI 0))]) hx hb dX6_nearest_315 hl (k := 5) rfl (by rw [show Int32.ofInt 1 = nI 1 from by decide]; exact nI_add _ _) (by decide) rfl (fun ls hl => ?_)
                                        refine lv_goto (tgt := 61) hx hb dX6_nearest_318 (by decide) ?_
                                        have hfin := mN_ins (key := pK P i) (x := nI (pV P i)) (tp := kk - 1) hr1 hnl hk2 (by omega) hpos (by omega)
                                        rw [show ((P.take i).foldl (nSt x y kk) []).length = ((P.take (i + 1)).foldl (nSt x y kk) []).length from by rw [n_step (by omega), hfin.2]; omega] at hP hD
                                        exact ih61 (i + 1) (upd (shU rx1 0 (kk - 1)) 0 (nI (pK P i / 32768))) (upd (shU ry1 0 (kk - 1)) 0 (nI (pK P i % 32768))) (upd (shU rv1 0 (kk - 1)) 0 (nI (pV P i))) (vp_updL (shU fr1 0 (kk - 1)) 0 (dst (pK P i) x y)) (by omega) (by rw [n_step (by omega)]; exact hfin.1) (by omega) _ _ hP hD hS ls (lv_sub hl [1, 2, 3, 4, 5, 0] rfl)
                                      · exact absurd c_173 (by decide)
                                    · skip
                                      obtain ⟨a, rfl⟩ : ∃ a, at_ = a + 1 := ⟨at_ - 1, by omega⟩
                                      refine lv_iload hx hb dX6_nearest_171 (lv_at hl 8 rfl) ?_
                                      refine lv_if_le (tgt := 264) hx hb dX6_nearest_173 (by decide) (fun c_173 => ?_) (fun c_173 => ?_)
                                      · change nI (a + 1) ≤ nI 0 at c_173
                                        replace c_173 : (a + 1) ≤ 0 := (nI_leI (by omega) (by omega)).mp c_173
                                        omega
                                      · change ¬ (nI (a + 1) ≤ nI 0) at c_173
                                        replace c_173 : ¬ (a + 1) ≤ 0 := fun h9 => c_173 ((nI_leI (by omega) (by omega)).mpr h9)
                                        refine lv_aload_n hx hb dX6_nearest_176 rfl (lv_at hl 0 rfl) ?_
                                        refine va_get (D := X.1) (ci := 6) (v := .ref fr) (C := RX6) (T := TX6) (N := 25) hx hb hts hin6 hown hK hP 0 rfl rfl 23 (by decide) lk48 (fun _ h9 => h9) rfl dX6_nearest_177 ?_
                                        refine lv_iload hx hb dX6_nearest_180 (lv_at hl 8 rfl) ?_
                                        refine lv_iconst (v := nI 1) hx hb dX6_nearest_182 (by decide) ?_
                                        refine lv_isub hx hb dX6_nearest_183 ?_
                                        refine lv_topi (fun x_85 ex_85 => ?_)
                                        obtain rfl : x_85 = nI ((a + 1) - 1) := by
                                          rw [ex_85]
                                          exact pk_sub (by omega)
                                        have hi_86 : vp_in (nI ((a + 1) - 1)) 150 := vp_in_nI (by omega) (by omega)
                                        refine va_lald hx hb hK hP 8 1 rfl rfl hi_86 dX6_nearest_184 ?_
                                        refine lv_topl (fun x_87 ex_87 => ?_)
                                        obtain rfl : x_87 = (shU fr1 (a + 1) (kk - 1)) ((a + 1) - 1) := by
                                          rw [ex_87]
                                          rw [nI_clamp (by omega)]
                                        refine lv_topl (fun x_88 ex_88 => ?_)
                                        obtain rfl : x_88 = (((P.take i).foldl (nSt x y kk) []).getD a nr0).2.2 := by
                                          rw [ex_88]
                                          rw [shU_lo _ (by omega)]
                                          exact (hr1.2 _ (by omega)).2.2.2
                                        refine lv_lload hx hb dX6_nearest_185 (lv_at hl 7 rfl) ?_
                                        refine W.lcmp hx hb dX6_nearest_187 ?_
                                        refine lv_if_le (tgt := 264) hx hb dX6_nearest_188 (by decide) (fun c_188 => ?_) (fun c_188 => ?_)
                                        · skip
                                          have hpos : posD ((P.take i).foldl (nSt x y kk) []) (dst (pK P i) x y) = a + 1 := posD_eq _ _ (a + 1) (by omega) h2 (Or.inr (lg_le c_188))
                                          refine lv_aload_n hx hb dX6_nearest_264 rfl (lv_at hl 0 rfl) ?_
                                          refine va_get (D := X.1) (ci := 6) (v := .ref fr) (C := RX6) (T := TX6) (N := 25) hx hb hts hin6 hown hK hP 0 rfl rfl 23 (by decide) lk48 (fun _ h9 => h9) rfl dX6_nearest_265 ?_
                                          refine lv_iload hx hb dX6_nearest_268 (lv_at hl 8 rfl) ?_
                                          refine lv_lload hx hb dX6_nearest_270 (lv_at hl 7 rfl) ?_
                                          have hi_89 : vp_in (nI (a + 1)) 150 := vp_in_nI (by omega) (by omega)
                                          refine va_last hx hb hK hP hD hS 8 1 rfl rfl hi_89 dX6_nearest_272 (fun H locs hP hD hS => ?_)
                                          rw [nI_clamp (by omega)] at hP hD
                                          have hP : va_P X.1 vwCl [(m, .inr (6, [.int (nI bl), .int (nI bk), .int (nI b), .int (nI sp), .ref mn, .ref xr, .ref yr, .ref vr, .ref cr, .ref wr, .int (nI nc), .int (nI 0), .int f_ar, .ref wl, .ref wc, .int f_wt, .int f_lv, .int f_fi, .int f_en, .long f_cd, .ref rx, .ref ry, .ref rv, .ref fr, .int (nI (((P.take i).foldl (nSt x y kk) []).length))])), (mn, .inl (X.2.1, 2, .inl mf)), (xr, .inl (X.2.1, 6600, .inl xf)), (yr, .inl (X.2.1, 6600, .inl yf)), (vr, .inl (X.2.1, 6600, .inl vf)), (rx, .inl (X.2.1, 150, .inl (shU rx1 (a + 1) (kk - 1)))), (ry, .inl (X.2.1, 150, .inl (shU ry1 (a + 1) (kk - 1)))), (rv, .inl (X.2.1, 150, .inl (shU rv1 (a + 1) (kk - 1)))), (fr, .inl (X.2.2, 150, .inr (.inl (vp_updL (shU fr1 (a + 1) (kk - 1)) (a + 1) (dst (pK P i) x y)))))] H := hP
                                          have hD : va_D A_ [(m, .inr (6, [.int (nI bl), .int (nI bk), .int (nI b), .int (nI sp), .ref mn, .ref xr, .ref yr, .ref vr, .ref cr, .ref wr, .int (nI nc), .int (nI 0), .int f_ar, .ref wl, .ref wc, .int f_wt, .int f_lv, .int f_fi, .int f_en, .long f_cd, .ref rx, .ref ry, .ref rv, .ref fr, .int (nI (((P.take i).foldl (nSt x y kk) []).length))])), (mn, .inl (X.2.1, 2, .inl mf)), (xr, .inl (X.2.1, 6600, .inl xf)), (yr, .inl (X.2.1, 6600, .inl yf)), (vr, .inl (X.2.1, 6600, .inl vf)), (rx, .inl (X.2.1, 150, .inl (shU rx1 (a + 1) (kk - 1)))), (ry, .inl (X.2.1, 150, .inl (shU ry1 (a + 1) (kk - 1)))), (rv, .inl (X.2.1, 150, .inl (shU rv1 (a + 1) (kk - 1)))), (fr, .inl (X.2.2, 150, .inr (.inl (vp_updL (shU fr1 (a + 1) (kk - 1)) (a + 1) (dst (pK P i) x y)))))] := hD
                                          refine lv_aload_n hx hb dX6_nearest_273 rfl (lv_at hl 0 rfl) ?_
                                          refine va_get (D := X.1) (ci := 6) (v := .ref rx) (C := RX6) (T := TX6) (N := 25) hx hb hts hin6 hown hK hP 0 rfl rfl 20 (by decide) lk39 (fun _ h9 => h9) rfl dX6_nearest_274 ?_
                                          refine lv_iload hx hb dX6_nearest_277 (lv_at hl 8 rfl) ?_
                                          refine lv_aload_n hx hb dX6_nearest_279 rfl (lv_at hl 0 rfl) ?_
                                          refine va_get (D := X.1) (ci := 6) (v := .ref xr) (C := RX6) (T := TX6) (N := 25) hx hb hts hin6 hown hK hP 0 rfl rfl 5 (by decide) lk13 (fun _ h9 => h9) rfl dX6_nearest_280 ?_
                                          refine lv_iload hx hb dX6_nearest_283 (lv_at hl 6 rfl) ?_
                                          have hi_90 : vp_in (nI ((3300 * 0) + i)) 6600 := vp_in_nI (by omega) (by omega)
                                          refine va_iald hx hb hK hP 2 0 rfl rfl hi_90 dX6_nearest_285 ?_
                                          refine lv_topi (fun x_91 ex_91 => ?_)
                                          obtain rfl : x_91 = xf ((3300 * 0) + i) := by
                                            rw [ex_91]
                                            rw [nI_clamp (by omega)]
                                          refine lv_topi (fun x_92 ex_92 => ?_)
                                          obtain rfl : x_92 = nI (pK P i / 32768) := by
                                            rw [ex_92]
                                            exact (h0.X i (by omega)).1
                                          have hi_93 : vp_in (nI (a + 1)) 150 := vp_in_nI (by omega) (by omega)
                                          refine va_iast hx hb hK hP hD hS 5 0 rfl rfl hi_93 dX6_nearest_286 (fun H locs hP hD hS => ?_)
                                          rw [nI_clamp (by omega)] at hP hD
                                          have hP : va_P X.1 vwCl [(m, .inr (6, [.int (nI bl), .int (nI bk), .int (nI b), .int (nI sp), .ref mn, .ref xr, .ref yr, .ref vr, .ref cr, .ref wr, .int (nI nc), .int (nI 0), .int f_ar, .ref wl, .ref wc, .int f_wt, .int f_lv, .int f_fi, .int f_en, .long f_cd, .ref rx, .ref ry, .ref rv, .ref fr, .int (nI (((P.take i).foldl (nSt x y kk) []).length))])), (mn, .inl (X.2.1, 2, .inl mf)), (xr, .inl (X.2.1, 6600, .inl xf)), (yr, .inl (X.2.1, 6600, .inl yf)), (vr, .inl (X.2.1, 6600, .inl vf)), (rx, .inl (X.2.1, 150, .inl (upd (shU rx1 (a + 1) (kk - 1)) (a + 1) (nI (pK P i / 32768))))), (ry, .inl (X.2.1, 150, .inl (shU ry1 (a + 1) (kk - 1)))), (rv, .inl (X.2.1, 150, .inl (shU rv1 (a + 1) (kk - 1)))), (fr, .inl (X.2.2, 150, .inr (.inl (vp_updL (shU fr1 (a + 1) (kk - 1)) (a + 1) (dst (pK P i) x y)))))] H := hP
                                          have hD : va_D A_ [(m, .inr (6, [.int (nI bl), .int (nI bk), .int (nI b), .int (nI sp), .ref mn, .ref xr, .ref yr, .ref vr, .ref cr, .ref wr, .int (nI nc), .int (nI 0), .int f_ar, .ref wl, .ref wc, .int f_wt, .int f_lv, .int f_fi, .int f_en, .long f_cd, .ref rx, .ref ry, .ref rv, .ref fr, .int (nI (((P.take i).foldl (nSt x y kk) []).length))])), (mn, .inl (X.2.1, 2, .inl mf)), (xr, .inl (X.2.1, 6600, .inl xf)), (yr, .inl (X.2.1, 6600, .inl yf)), (vr, .inl (X.2.1, 6600, .inl vf)), (rx, .inl (X.2.1, 150, .inl (upd (shU rx1 (a + 1) (kk - 1)) (a + 1) (nI (pK P i / 32768))))), (ry, .inl (X.2.1, 150, .inl (shU ry1 (a + 1) (kk - 1)))), (rv, .inl (X.2.1, 150, .inl (shU rv1 (a + 1) (kk - 1)))), (fr, .inl (X.2.2, 150, .inr (.inl (vp_updL (shU fr1 (a + 1) (kk - 1)) (a + 1) (dst (pK P i) x y)))))] := hD
                                          refine lv_aload_n hx hb dX6_nearest_287 rfl (lv_at hl 0 rfl) ?_
                                          refine va_get (D := X.1) (ci := 6) (v := .ref ry) (C := RX6) (T := TX6) (N := 25) hx hb hts hin6 hown hK hP 0 rfl rfl 21 (by decide) lk42 (fun _ h9 => h9) rfl dX6_nearest_288 ?_
                                          refine lv_iload hx hb dX6_nearest_291 (lv_at hl 8 rfl) ?_
                                          refine lv_aload_n hx hb dX6_nearest_293 rfl (lv_at hl 0 rfl) ?_
                                          refine va_get (D := X.1) (ci := 6) (v := .ref yr) (C := RX6) (T := TX6) (N := 25) hx hb hts hin6 hown hK hP 0 rfl rfl 6 (by decide) lk16 (fun _ h9 => h9) rfl dX6_nearest_294 ?_
                                          refine lv_iload hx hb dX6_nearest_297 (lv_at hl 6 rfl) ?_
                                          have hi_94 : vp_in (nI ((3300 * 0) + i)) 6600 := vp_in_nI (by omega) (by omega)
                                          refine va_iald hx hb hK hP 3 0 rfl rfl hi_94 dX6_nearest_299 ?_
                                          refine lv_topi (fun x_95 ex_95 => ?_)
                                          obtain rfl : x_95 = yf ((3300 * 0) + i) := by
                                            rw [ex_95]
                                            rw [nI_clamp (by omega)]
                                          refine lv_topi (fun x_96 ex_96 => ?_)
                                          obtain rfl : x_96 = nI (pK P i % 32768) := by
                                            rw [ex_96]
                                            exact (h0.X i (by omega)).2
                                          have hi_97 : vp_in (nI (a + 1)) 150 := vp_in_nI (by omega) (by omega)
                                          refine va_iast hx hb hK hP hD hS 6 0 rfl rfl hi_97 dX6_nearest_300 (fun H locs hP hD hS => ?_)
                                          rw [nI_clamp (by omega)] at hP hD
                                          have hP : va_P X.1 vwCl [(m, .inr (6, [.int (nI bl), .int (nI bk), .int (nI b), .int (nI sp), .ref mn, .ref xr, .ref yr, .ref vr, .ref cr, .ref wr, .int (nI nc), .int (nI 0), .int f_ar, .ref wl, .ref wc, .int f_wt, .int f_lv, .int f_fi, .int f_en, .long f_cd, .ref rx, .ref ry, .ref rv, .ref fr, .int (nI (((P.take i).foldl (nSt x y kk) []).length))])), (mn, .inl (X.2.1, 2, .inl mf)), (xr, .inl (X.2.1, 6600, .inl xf)), (yr, .inl (X.2.1, 6600, .inl yf)), (vr, .inl (X.2.1, 6600, .inl vf)), (rx, .inl (X.2.1, 150, .inl (upd (shU rx1 (a + 1) (kk - 1)) (a + 1) (nI (pK P i / 32768))))), (ry, .inl (X.2.1, 150, .inl (upd (shU ry1 (a + 1) (kk - 1)) (a + 1) (nI (pK P i % 32768))))), (rv, .inl (X.2.1, 150, .inl (shU rv1 (a + 1) (kk - 1)))), (fr, .inl (X.2.2, 150, .inr (.inl (vp_updL (shU fr1 (a + 1) (kk - 1)) (a + 1) (dst (pK P i) x y)))))] H := hP
                                          have hD : va_D A_ [(m, .inr (6, [.int (nI bl), .int (nI bk), .int (nI b), .int (nI sp), .ref mn, .ref xr, .ref yr, .ref vr, .ref cr, .ref wr, .int (nI nc), .int (nI 0), .int f_ar, .ref wl, .ref wc, .int f_wt, .int f_lv, .int f_fi, .int f_en, .long f_cd, .ref rx, .ref ry, .ref rv, .ref fr, .int (nI (((P.take i).foldl (nSt x y kk) []).length))])), (mn, .inl (X.2.1, 2, .inl mf)), (xr, .inl (X.2.1, 6600, .inl xf)), (yr, .inl (X.2.1, 6600, .inl yf)), (vr, .inl (X.2.1, 6600, .inl vf)), (rx, .inl (X.2.1, 150, .inl (upd (shU rx1 (a + 1) (kk - 1)) (a + 1) (nI (pK P i / 32768))))), (ry, .inl (X.2.1, 150, .inl (upd (shU ry1 (a + 1) (kk - 1)) (a + 1) (nI (pK P i % 32768))))), (rv, .inl (X.2.1, 150, .inl (shU rv1 (a + 1) (kk - 1)))), (fr, .inl (X.2.2, 150, .inr (.inl (vp_updL (shU fr1 (a + 1) (kk - 1)) (a + 1) (dst (pK P i) x y)))))] := hD
                                          refine lv_aload_n hx hb dX6_nearest_301 rfl (lv_at hl 0 rfl) ?_
                                          refine va_get (D := X.1) (ci := 6) (v := .ref rv) (C := RX6) (T := TX6) (N := 25) hx hb hts hin6 hown hK hP 0 rfl rfl 22 (by decide) lk45 (fun _ h9 => h9) rfl dX6_nearest_302 ?_
                                          refine lv_iload hx hb dX6_nearest_305 (lv_at hl 8 rfl) ?_
                                          refine lv_aload_n hx hb dX6_nearest_307 rfl (lv_at hl 0 rfl) ?_
                                          refine va_get (D := X.1) (ci := 6) (v := .ref vr) (C := RX6) (T := TX6) (N := 25) hx hb hts hin6 hown hK hP 0 rfl rfl 7 (by decide) lk19 (fun _ h9 => h9) rfl dX6_nearest_308 ?_
                                          refine lv_iload hx hb dX6_nearest_311 (lv_at hl 6 rfl) ?_
                                          have hi_98 : vp_in (nI ((3300 * 0) + i)) 6600 := vp_in_nI (by omega) (by omega)
                                          refine va_iald hx hb hK hP 4 0 rfl rfl hi_98 dX6_nearest_313 ?_
                                          refine lv_topi (fun x_99 ex_99 => ?_)
                                          obtain rfl : x_99 = vf ((3300 * 0) + i) := by
                                            rw [ex_99]
                                            rw [nI_clamp (by omega)]
                                          refine lv_topi (fun x_100 ex_100 => ?_)
                                          obtain rfl : x_100 = nI (pV P i) := by
                                            rw [ex_100]
                                            exact h0.V i (by omega)
                                          have hi_101 : vp_in (nI (a + 1)) 150 := vp_in_nI (by omega) (by omega)
                                          refine va_iast hx hb hK hP hD hS 7 0 rfl rfl hi_101 dX6_nearest_314 (fun H locs hP hD hS => ?_)
                                          rw [nI_clamp (by omega)] at hP hD
                                          have hP : va_P X.1 vwCl [(m, .inr (6, [.int (nI bl), .int (nI bk), .int (nI b), .int (nI sp), .ref mn, .ref xr, .ref yr, .ref vr, .ref cr, .ref wr, .int (nI nc), .int (nI 0), .int f_ar, .ref wl, .ref wc, .int f_wt, .int f_lv, .int f_fi, .int f_en, .long f_cd, .ref rx, .ref ry, .ref rv, .ref fr, .int (nI (((P.take i).foldl (nSt x y kk) []).length))])), (mn, .inl (X.2.1, 2, .inl mf)), (xr, .inl (X.2.1, 6600, .inl xf)), (yr, .inl (X.2.1, 6600, .inl yf)), (vr, .inl (X.2.1, 6600, .inl vf)), (rx, .inl (X.2.1, 150, .inl (upd (shU rx1 (a + 1) (kk - 1)) (a + 1) (nI (pK P i / 32768))))), (ry, .inl (X.2.1, 150, .inl (upd (shU ry1 (a + 1) (kk - 1)) (a + 1) (nI (pK P i % 32768))))), (rv, .inl (X.2.1, 150, .inl (upd (shU rv1 (a + 1) (kk - 1)) (a + 1) (nI (pV P i))))), (fr, .inl (X.2.2, 150, .inr (.inl (vp_updL (shU fr1 (a + 1) (kk - 1)) (a + 1) (dst (pK P i) x y)))))] H := hP
                                          have hD : va_D A_ [(m, .inr (6, [.int (nI bl), .int (nI bk), .int (nI b), .int (nI sp), .ref mn, .ref xr, .ref yr, .ref vr, .ref cr, .ref wr, .int (nI nc), .int (nI 0), .int f_ar, .ref wl, .ref wc, .int f_wt, .int f_lv, .int f_fi, .int f_en, .long f_cd, .ref rx, .ref ry, .ref rv, .ref fr, .int (nI (((P.take i).foldl (nSt x y kk) []).length))])), (mn, .inl (X.2.1, 2, .inl mf)), (xr, .inl (X.2.1, 6600, .inl xf)), (yr, .inl (X.2.1, 6600, .inl yf)), (vr, .inl (X.2.1, 6600, .inl vf)), (rx, .inl (X.2.1, 150, .inl (upd (shU rx1 (a + 1) (kk - 1)) (a + 1) (nI (pK P i / 32768))))), (ry, .inl (X.2.1, 150, .inl (upd (shU ry1 (a + 1) (kk - 1)) (a + 1) (nI (pK P i % 32768))))), (rv, .inl (X.2.1, 150, .inl (upd (shU rv1 (a + 1) (kk - 1)) (a + 1) (nI (pV P i))))), (fr, .inl (X.2.2, 150, .inr (.inl (vp_updL (shU fr1 (a + 1) (kk - 1)) (a + 1) (dst (pK P i) x y)))))] := hD
                                          refine lv_iinc (v := nI (i + 1)) (lv' := [(5, .int (nI (i + 1))), (0, .ref m), (1, .int (nI 0)), (2, .int x), (3, .int y), (4, .int kq), (6, .int (nI ((3300 * 0) + i))), (11, .long (dst (pK P i) x y)), (13, .int (nI (a + 1)))]) hx hb dX6_nearest_315 hl (k := 5) rfl (by rw [show Int32.ofInt 1 = nI 1 from by decide]; exact nI_add _ _) (by decide) rfl (fun ls hl => ?_)
                                          refine lv_goto (tgt := 61) hx hb dX6_nearest_318 (by decide) ?_
                                          have hfin := mN_ins (key := pK P i) (x := nI (pV P i)) (tp := kk - 1) hr1 hnl hk2 (by omega) hpos (by omega)
                                          rw [show ((P.take i).foldl (nSt x y kk) []).length = ((P.take (i + 1)).foldl (nSt x y kk) []).length from by rw [n_step (by omega), hfin.2]; omega] at hP hD
                                          exact ih61 (i + 1) (upd (shU rx1 (a + 1) (kk - 1)) (a + 1) (nI (pK P i / 32768))) (upd (shU ry1 (a + 1) (kk - 1)) (a + 1) (nI (pK P i % 32768))) (upd (shU rv1 (a + 1) (kk - 1)) (a + 1) (nI (pV P i))) (vp_updL (shU fr1 (a + 1) (kk - 1)) (a + 1) (dst (pK P i) x y)) (by omega) (by rw [n_step (by omega)]; exact hfin.1) (by omega) _ _ hP hD hS ls (lv_sub hl [1, 2, 3, 4, 5, 0] rfl)
                                        · skip
                                          have hgt := lg_gt c_188
                                          refine lv_aload_n hx hb dX6_nearest_191 rfl (lv_at hl 0 rfl) ?_
                                          refine va_get (D := X.1) (ci := 6) (v := .ref fr) (C := RX6) (T := TX6) (N := 25) hx hb hts hin6 hown hK hP 0 rfl rfl 23 (by decide) lk48 (fun _ h9 => h9) rfl dX6_nearest_192 ?_
                                          refine lv_iload hx hb dX6_nearest_195 (lv_at hl 8 rfl) ?_
                                          refine lv_aload_n hx hb dX6_nearest_197 rfl (lv_at hl 0 rfl) ?_
                                          refine va_get (D := X.1) (ci := 6) (v := .ref fr) (C := RX6) (T := TX6) (N := 25) hx hb hts hin6 hown hK hP 0 rfl rfl 23 (by decide) lk48 (fun _ h9 => h9) rfl dX6_nearest_198 ?_
                                          refine lv_iload hx hb dX6_nearest_201 (lv_at hl 8 rfl) ?_
                                          refine lv_iconst (v := nI 1) hx hb dX6_nearest_203 (by decide) ?_
                                          refine lv_isub hx hb dX6_nearest_204 ?_
                                          refine lv_topi (fun x_102 ex_102 => ?_)
                                          obtain rfl : x_102 = nI ((a + 1) - 1) := by
                                            rw [ex_102]
                                            exact pk_sub (by omega)
                                          have hi_103 : vp_in (nI ((a + 1) - 1)) 150 := vp_in_nI (by omega) (by omega)
                                          refine va_lald hx hb hK hP 8 1 rfl rfl hi_103 dX6_nearest_205 ?_
                                          refine lv_topl (fun x_104 ex_104 => ?_)
                                          obtain rfl : x_104 = (shU fr1 (a + 1) (kk - 1)) ((a + 1) - 1) := by
                                            rw [ex_104]
                                            rw [nI_clamp (by omega)]
                                          have hi_105 : vp_in (nI (a + 1)) 150 := vp_in_nI (by omega) (by omega)
                                          refine va_last hx hb hK hP hD hS 8 1 rfl rfl hi_105 dX6_nearest_206 (fun H locs hP hD hS => ?_)
                                          rw [nI_clamp (by omega)] at hP hD
                                          rw [show vp_updL (shU fr1 (a + 1) (kk - 1)) (a + 1) ((shU fr1 (a + 1) (kk - 1)) ((a + 1) - 1)) = shU fr1 a (kk - 1) from (by have e9 := shU_stL (f := fr1) (i := a + 1) (n := (kk - 1)) (by omega) (by omega); rw [Nat.add_sub_cancel] at e9; exact e9)] at hP hD
                                          have hP : va_P X.1 vwCl [(m, .inr (6, [.int (nI bl), .int (nI bk), .int (nI b), .int (nI sp), .ref mn, .ref xr, .ref yr, .ref vr, .ref cr, .ref wr, .int (nI nc), .int (nI 0), .int f_ar, .ref wl, .ref wc, .int f_wt, .int f_lv, .int f_fi, .int f_en, .long f_cd, .ref rx, .ref ry, .ref rv, .ref fr, .int (nI (((P.take i).foldl (nSt x y kk) []).length))])), (mn, .inl (X.2.1, 2, .inl mf)), (xr, .inl (X.2.1, 6600, .inl xf)), (yr, .inl (X.2.1, 6600, .inl yf)), (vr, .inl (X.2.1, 6600, .inl vf)), (rx, .inl (X.2.1, 150, .inl (shU rx1 (a + 1) (kk - 1)))), (ry, .inl (X.2.1, 150, .inl (shU ry1 (a + 1) (kk - 1)))), (rv, .inl (X.2.1, 150, .inl (shU rv1 (a + 1) (kk - 1)))), (fr, .inl (X.2.2, 150, .inr (.inl (shU fr1 a (kk - 1)))))] H := hP
                                          have hD : va_D A_ [(m, .inr (6, [.int (nI bl), .int (nI bk), .int (nI b), .int (nI sp), .ref mn, .ref xr, .ref yr, .ref vr, .ref cr, .ref wr, .int (nI nc), .int (nI 0), .int f_ar, .ref wl, .ref wc, .int f_wt, .int f_lv, .int f_fi, .int f_en, .long f_cd, .ref rx, .ref ry, .ref rv, .ref fr, .int (nI (((P.take i).foldl (nSt x y kk) []).length))])), (mn, .inl (X.2.1, 2, .inl mf)), (xr, .inl (X.2.1, 6600, .inl xf)), (yr, .inl (X.2.1, 6600, .inl yf)), (vr, .inl (X.2.1, 6600, .inl vf)), (rx, .inl (X.2.1, 150, .inl (shU rx1 (a + 1) (kk - 1)))), (ry, .inl (X.2.1, 150, .inl (shU ry1 (a + 1) (kk - 1)))), (rv, .inl (X.2.1, 150, .inl (shU rv1 (a + 1) (kk - 1)))), (fr, .inl (X.2.2, 150, .inr (.inl (shU fr1 a (kk - 1)))))] := hD
                                          refine lv_aload_n hx hb dX6_nearest_207 rfl (lv_at hl 0 rfl) ?_
                                          refine va_get (D := X.1) (ci := 6) (v := .ref rx) (C := RX6) (T := TX6) (N := 25) hx hb hts hin6 hown hK hP 0 rfl rfl 20 (by decide) lk39 (fun _ h9 => h9) rfl dX6_nearest_208 ?_
                                          refine lv_iload hx hb dX6_nearest_211 (lv_at hl 8 rfl) ?_
                                          refine lv_aload_n hx hb dX6_nearest_213 rfl (lv_at hl 0 rfl) ?_
                                          refine va_get (D := X.1) (ci := 6) (v := .ref rx) (C := RX6) (T := TX6) (N := 25) hx hb hts hin6 hown hK hP 0 rfl rfl 20 (by decide) lk39 (fun _ h9 => h9) rfl dX6_nearest_214 ?_
                                          refine lv_iload hx hb dX6_nearest_217 (lv_at hl 8 rfl) ?_
                                          refine lv_iconst (v := nI 1) hx hb dX6_nearest_219 (by decide) ?_
                                          refine lv_isub hx hb dX6_nearest_220 ?_
                                          refine lv_topi (fun x_106 ex_106 => ?_)
                                          obtain rfl : x_106 = nI ((a + 1) - 1) := by
                                            rw [ex_106]
                                            exact pk_sub (by omega)
                                          have hi_107 : vp_in (nI ((a + 1) - 1)) 150 := vp_in_nI (by omega) (by omega)
                                          refine va_iald hx hb hK hP 5 0 rfl rfl hi_107 dX6_nearest_221 ?_
                                          refine lv_topi (fun x_108 ex_108 => ?_)
                                          obtain rfl : x_108 = (shU rx1 (a + 1) (kk - 1)) ((a + 1) - 1) := by
                                            rw [ex_108]
                                            rw [nI_clamp (by omega)]
                                          have hi_109 : vp_in (nI (a + 1)) 150 := vp_in_nI (by omega) (by omega)
                                          refine va_iast hx hb hK hP hD hS 5 0 rfl rfl hi_109 dX6_nearest_222 (fun H locs hP hD hS => ?_)
                                          rw [nI_clamp (by omega)] at hP hD
                                          rw [show upd (shU rx1 (a + 1) (kk - 1)) (a + 1) ((shU rx1 (a + 1) (kk - 1)) ((a + 1) - 1)) = shU rx1 a (kk - 1) from (by have e9 := shU_st (f := rx1) (i := a + 1) (n := (kk - 1)) (by omega) (by omega); rw [Nat.add_sub_cancel] at e9; exact e9)] at hP hD
                                          have hP : va_P X.1 vwCl [(m, .inr (6, [.int (nI bl), .int (nI bk), .int (nI b), .int (nI sp), .ref mn, .ref xr, .ref yr, .ref vr, .ref cr, .ref wr, .int (nI nc), .int (nI 0), .int f_ar, .ref wl, .ref wc, .int f_wt, .int f_lv, .int f_fi, .int f_en, .long f_cd, .ref rx, .ref ry, .ref rv, .ref fr, .int (nI (((P.take i).foldl (nSt x y kk) []).length))])), (mn, .inl (X.2.1, 2, .inl mf)), (xr, .inl (X.2.1, 6600, .inl xf)), (yr, .inl (X.2.1, 6600, .inl yf)), (vr, .inl (X.2.1, 6600, .inl vf)), (rx, .inl (X.2.1, 150, .inl (shU rx1 a (kk - 1)))), (ry, .inl (X.2.1, 150, .inl (shU ry1 (a + 1) (kk - 1)))), (rv, .inl (X.2.1, 150, .inl (shU rv1 (a + 1) (kk - 1)))), (fr, .inl (X.2.2, 150, .inr (.inl (shU fr1 a (kk - 1)))))] H := hP
                                          have hD : va_D A_ [(m, .inr (6, [.int (nI bl), .int (nI bk), .int (nI b), .int (nI sp), .ref mn, .ref xr, .ref yr, .ref vr, .ref cr, .ref wr, .int (nI nc), .int (nI 0), .int f_ar, .ref wl, .ref wc, .int f_wt, .int f_lv, .int f_fi, .int f_en, .long f_cd, .ref rx, .ref ry, .ref rv, .ref fr, .int (nI (((P.take i).foldl (nSt x y kk) []).length))])), (mn, .inl (X.2.1, 2, .inl mf)), (xr, .inl (X.2.1, 6600, .inl xf)), (yr, .inl (X.2.1, 6600, .inl yf)), (vr, .inl (X.2.1, 6600, .inl vf)), (rx, .inl (X.2.1, 150, .inl (shU rx1 a (kk - 1)))), (ry, .inl (X.2.1, 150, .inl (shU ry1 (a + 1) (kk - 1)))), (rv, .inl (X.2.1, 150, .inl (shU rv1 (a + 1) (kk - 1)))), (fr, .inl (X.2.2, 150, .inr (.inl (shU fr1 a (kk - 1)))))] := hD
                                          refine lv_aload_n hx hb dX6_nearest_223 rfl (lv_at hl 0 rfl) ?_
                                          refine va_get (D := X.1) (ci := 6) (v := .ref ry) (C := RX6) (T := TX6) (N := 25) hx hb hts hin6 hown hK hP 0 rfl rfl 21 (by decide) lk42 (fun _ h9 => h9) rfl dX6_nearest_224 ?_
                                          refine lv_iload hx hb dX6_nearest_227 (lv_at hl 8 rfl) ?_
                                          refine lv_aload_n hx hb dX6_nearest_229 rfl (lv_at hl 0 rfl) ?_
                                          refine va_get (D := X.1) (ci := 6) (v := .ref ry) (C := RX6) (T := TX6) (N := 25) hx hb hts hin6 hown hK hP 0 rfl rfl 21 (by decide) lk42 (fun _ h9 => h9) rfl dX6_nearest_230 ?_
                                          refine lv_iload hx hb dX6_nearest_233 (lv_at hl 8 rfl) ?_
                                          refine lv_iconst (v := nI 1) hx hb dX6_nearest_235 (by decide) ?_
                                          refine lv_isub hx hb dX6_nearest_236 ?_
                                          refine lv_topi (fun x_110 ex_110 => ?_)
                                          obtain rfl : x_110 = nI ((a + 1) - 1) := by
                                            rw [ex_110]
                                            exact pk_sub (by omega)
                                          have hi_111 : vp_in (nI ((a + 1) - 1)) 150 := vp_in_nI (by omega) (by omega)
                                          refine va_iald hx hb hK hP 6 0 rfl rfl hi_111 dX6_nearest_237 ?_
                                          refine lv_topi (fun x_112 ex_112 => ?_)
                                          obtain rfl : x_112 = (shU ry1 (a + 1) (kk - 1)) ((a + 1) - 1) := by
                                            rw [ex_112]
                                            rw [nI_clamp (by omega)]
                                          have hi_113 : vp_in (nI (a + 1)) 150 := vp_in_nI (by omega) (by omega)
                                          refine va_iast hx hb hK hP hD hS 6 0 rfl rfl hi_113 dX6_nearest_238 (fun H locs hP hD hS => ?_)
                                          rw [nI_clamp (by omega)] at hP hD
                                          rw [show upd (shU ry1 (a + 1) (kk - 1)) (a + 1) ((shU ry1 (a + 1) (kk - 1)) ((a + 1) - 1)) = shU ry1 a (kk - 1) from (by have e9 := shU_st (f := ry1) (i := a + 1) (n := (kk - 1)) (by omega) (by omega); rw [Nat.add_sub_cancel] at e9; exact e9)] at hP hD
                                          have hP : va_P X.1 vwCl [(m, .inr (6, [.int (nI bl), .int (nI bk), .int (nI b), .int (nI sp), .ref mn, .ref xr, .ref yr, .ref vr, .ref cr, .ref wr, .int (nI nc), .int (nI 0), .int f_ar, .ref wl, .ref wc, .int f_wt, .int f_lv, .int f_fi, .int f_en, .long f_cd, .ref rx, .ref ry, .ref rv, .ref fr, .int (nI (((P.take i).foldl (nSt x y kk) []).length))])), (mn, .inl (X.2.1, 2, .inl mf)), (xr, .inl (X.2.1, 6600, .inl xf)), (yr, .inl (X.2.1, 6600, .inl yf)), (vr, .inl (X.2.1, 6600, .inl vf)), (rx, .inl (X.2.1, 150, .inl (shU rx1 a (kk - 1)))), (ry, .inl (X.2.1, 150, .inl (shU ry1 a (kk - 1)))), (rv, .inl (X.2.1, 150, .inl (shU rv1 (a + 1) (kk - 1)))), (fr, .inl (X.2.2, 150, .inr (.inl (shU fr1 a (kk - 1)))))] H := hP
                                          have hD : va_D A_ [(m, .inr (6, [.int (nI bl), .int (nI bk), .int (nI b), .int (nI sp), .ref mn, .ref xr, .ref yr, .ref vr, .ref cr, .ref wr, .int (nI nc), .int (nI 0), .int f_ar, .ref wl, .ref wc, .int f_wt, .int f_lv, .int f_fi, .int f_en, .long f_cd, .ref rx, .ref ry, .ref rv, .ref fr, .int (nI (((P.take i).foldl (nSt x y kk) []).length))])), (mn, .inl (X.2.1, 2, .inl mf)), (xr, .inl (X.2.1, 6600, .inl xf)), (yr, .inl (X.2.1, 6600, .inl yf)), (vr, .inl (X.2.1, 6600, .inl vf)), (rx, .inl (X.2.1, 150, .inl (shU rx1 a (kk - 1)))), (ry, .inl (X.2.1, 150, .inl (shU ry1 a (kk - 1)))), (rv, .inl (X.2.1, 150, .inl (shU rv1 (a + 1) (kk - 1)))), (fr, .inl (X.2.2, 150, .inr (.inl (shU fr1 a (kk - 1)))))] := hD
                                          refine lv_aload_n hx hb dX6_nearest_239 rfl (lv_at hl 0 rfl) ?_
                                          refine va_get (D := X.1) (ci := 6) (v := .ref rv) (C := RX6) (T := TX6) (N := 25) hx hb hts hin6 hown hK hP 0 rfl rfl 22 (by decide) lk45 (fun _ h9 => h9) rfl dX6_nearest_240 ?_
                                          refine lv_iload hx hb dX6_nearest_243 (lv_at hl 8 rfl) ?_
                                          refine lv_aload_n hx hb dX6_nearest_245 rfl (lv_at hl 0 rfl) ?_
                                          refine va_get (D := X.1) (ci := 6) (v := .ref rv) (C := RX6) (T := TX6) (N := 25) hx hb hts hin6 hown hK hP 0 rfl rfl 22 (by decide) lk45 (fun _ h9 => h9) rfl dX6_nearest_246 ?_
                                          refine lv_iload hx hb dX6_nearest_249 (lv_at hl 8 rfl) ?_
                                          refine lv_iconst (v := nI 1) hx hb dX6_nearest_251 (by decide) ?_
                                          refine lv_isub hx hb dX6_nearest_252 ?_
                                          refine lv_topi (fun x_114 ex_114 => ?_)
                                          obtain rfl : x_114 = nI ((a + 1) - 1) := by
                                            rw [ex_114]
                                            exact pk_sub (by omega)
                                          have hi_115 : vp_in (nI ((a + 1) - 1)) 150 := vp_in_nI (by omega) (by omega)
                                          refine va_iald hx hb hK hP 7 0 rfl rfl hi_115 dX6_nearest_253 ?_
                                          refine lv_topi (fun x_116 ex_116 => ?_)
                                          obtain rfl : x_116 = (shU rv1 (a + 1) (kk - 1)) ((a + 1) - 1) := by
                                            rw [ex_116]
                                            rw [nI_clamp (by omega)]
                                          have hi_117 : vp_in (nI (a + 1)) 150 := vp_in_nI (by omega) (by omega)
                                          refine va_iast hx hb hK hP hD hS 7 0 rfl rfl hi_117 dX6_nearest_254 (fun H locs hP hD hS => ?_)
                                          rw [nI_clamp (by omega)] at hP hD
                                          rw [show upd (shU rv1 (a + 1) (kk - 1)) (a + 1) ((shU rv1 (a + 1) (kk - 1)) ((a + 1) - 1)) = shU rv1 a (kk - 1) from (by have e9 := shU_st (f := rv1) (i := a + 1) (n := (kk - 1)) (by omega) (by omega); rw [Nat.add_sub_cancel] at e9; exact e9)] at hP hD
                                          have hP : va_P X.1 vwCl [(m, .inr (6, [.int (nI bl), .int (nI bk), .int (nI b), .int (nI sp), .ref mn, .ref xr, .ref yr, .ref vr, .ref cr, .ref wr, .int (nI nc), .int (nI 0), .int f_ar, .ref wl, .ref wc, .int f_wt, .int f_lv, .int f_fi, .int f_en, .long f_cd, .ref rx, .ref ry, .ref rv, .ref fr, .int (nI (((P.take i).foldl (nSt x y kk) []).length))])), (mn, .inl (X.2.1, 2, .inl mf)), (xr, .inl (X.2.1, 6600, .inl xf)), (yr, .inl (X.2.1, 6600, .inl yf)), (vr, .inl (X.2.1, 6600, .inl vf)), (rx, .inl (X.2.1, 150, .inl (shU rx1 a (kk - 1)))), (ry, .inl (X.2.1, 150, .inl (shU ry1 a (kk - 1)))), (rv, .inl (X.2.1, 150, .inl (shU rv1 a (kk - 1)))), (fr, .inl (X.2.2, 150, .inr (.inl (shU fr1 a (kk - 1)))))] H := hP
                                          have hD : va_D A_ [(m, .inr (6, [.int (nI bl), .int (nI bk), .int (nI b), .int (nI sp), .ref mn, .ref xr, .ref yr, .ref vr, .ref cr, .ref wr, .int (nI nc), .int (nI 0), .int f_ar, .ref wl, .ref wc, .int f_wt, .int f_lv, .int f_fi, .int f_en, .long f_cd, .ref rx, .ref ry, .ref rv, .ref fr, .int (nI (((P.take i).foldl (nSt x y kk) []).length))])), (mn, .inl (X.2.1, 2, .inl mf)), (xr, .inl (X.2.1, 6600, .inl xf)), (yr, .inl (X.2.1, 6600, .inl yf)), (vr, .inl (X.2.1, 6600, .inl vf)), (rx, .inl (X.2.1, 150, .inl (shU rx1 a (kk - 1)))), (ry, .inl (X.2.1, 150, .inl (shU ry1 a (kk - 1)))), (rv, .inl (X.2.1, 150, .inl (shU rv1 a (kk - 1)))), (fr, .inl (X.2.2, 150, .inr (.inl (shU fr1 a (kk - 1)))))] := hD
                                          refine lv_iload hx hb dX6_nearest_255 (lv_at hl 8 rfl) ?_
                                          refine lv_iconst (v := nI 1) hx hb dX6_nearest_257 (by decide) ?_
                                          refine lv_isub hx hb dX6_nearest_258 ?_
                                          refine lv_topi (fun x_118 ex_118 => ?_)
                                          obtain rfl : x_118 = nI ((a + 1) - 1) := by
                                            rw [ex_118]
                                            exact pk_sub (by omega)
                                          refine lv_istore (lv' := [(13, .int (nI ((a + 1) - 1))), (0, .ref m), (1, .int (nI 0)), (2, .int x), (3, .int y), (4, .int kq), (5, .int (nI i)), (6, .int (nI ((3300 * 0) + i))), (11, .long (dst (pK P i) x y))]) hx hb dX6_nearest_259 hl (by decide) rfl (fun ls hl => ?_)
                                          refine lv_goto (tgt := 171) hx hb dX6_nearest_261 (by decide) ?_
                                          have hstep : ∀ j, a ≤ j → j < ((P.take i).foldl (nSt x y kk) []).length → (dst (pK P i) x y) < (((P.take i).foldl (nSt x y kk) []).getD j nr0).2.2 := fun j h8 h9 => by
                                            rcases Nat.eq_or_lt_of_le h8 with z | z
                                            · rw [← z]; exact hgt
                                            · exact h2 j z h9
                                          exact ih171 a (by omega) (by exact hstep) (by omega) _ _ hP hD hS ls (lv_sub hl [1, 2, 3, 4, 5, 6, 7, 8, 0] rfl)
                                have h2i : ∀ j, (kk - 1) ≤ j → j < ((P.take i).foldl (nSt x y kk) []).length → (dst (pK P i) x y) < (((P.take i).foldl (nSt x y kk) []).getD j nr0).2.2 := fun j h8 h9 => by
                                  obtain rfl : j = kk - 1 := by omega
                                  exact lg_gt0 c_146
                                rw [← shU_0 rx1 (kk - 1), ← shU_0 ry1 (kk - 1), ← shU_0 rv1 (kk - 1), ← shU_0 fr1 (kk - 1)] at hP hD
                                exact loop_171 _ (kk - 1) (by omega) (by exact h2i) (Nat.lt_succ_self _) _ _ hP hD hS ls (lv_sub hl [5, 6, 7, 8, 9, 10, 4, 1, 0] rfl)
                              · skip
                                refine lv_goto (tgt := 315) hx hb dX6_nearest_149 (by decide) ?_
                                refine lv_iinc (v := nI (i + 1)) (lv' := [(5, .int (nI (i + 1))), (13, .int (nI (((P.take i).foldl (nSt x y kk) []).length))), (11, .long (dst (pK P i) x y)), (9, .long (((nI (pK P i % 32768)) - y).toInt64)), (7, .long (((nI (pK P i / 32768)) - x).toInt64)), (6, .int (nI ((3300 * 0) + i))), (0, .ref m), (1, .int (nI 0)), (2, .int x), (3, .int y), (4, .int kq)]) hx hb dX6_nearest_315 hl (k := 10) rfl (by rw [show Int32.ofInt 1 = nI 1 from by decide]; exact nI_add _ _) (by decide) rfl (fun ls hl => ?_)
                                refine lv_goto (tgt := 61) hx hb dX6_nearest_318 (by decide) ?_
                                have hnx : ((P.take (i + 1)).foldl (nSt x y kk) []) = ((P.take i).foldl (nSt x y kk) []) := by
                                  rw [n_step (by omega)]
                                  exact nr_same hnl (by show kk ≤ posD ((P.take i).foldl (nSt x y kk) []) (dst (pK P i) x y); rw [posD_len (by rw [c_131]; exact lg_ngt0 c_146)]; omega)
                                rw [← hnx] at hP hD
                                exact ih61 (i + 1) rx1 ry1 rv1 fr1 (by omega) (by rw [hnx]; exact hr1) (by omega) _ _ hP hD hS ls (lv_sub hl [6, 7, 8, 9, 10, 0] rfl)
                      exact loop_61 _ 0 rxf ryf rvf frf (by omega) (by exact mN_nil) (Nat.lt_succ_self _) _ _ hP hD hS ls (lv_sub hl [1, 2, 3, 4, 5, 0] rfl)
                    · skip
                      refine lv_iconst (v := (-1)) hx hb dX6_nearest_51 (by decide) ?_
                      refine wM hQ ?_
                      exact rtI (rxf, ryf, rvf, frf, R) hx hb hr hlocks hP hS (⟨h3, by show (-1, R) = _; rw [sel_0 (show nI 0 = 0 from rfl)]; exact (cif_neg (fun z => by first | exact z.1.1 c_18 | exact z.1.2 c_24 | exact z.2.1.1 c_28 | exact z.2.1.2 c_34 | exact z.2.2.1 c_40 | exact c_48 (Int32.not_lt.mp z.2.2.2))).symm⟩) dX6_nearest_52
      · skip
        exact absurd (Or.inl rfl) hc_11
    · skip
      subst hs
      refine lv_iload_n hx hb dX6_nearest_10 rfl (lv_at hl 1 rfl) ?_
      refine ckSRi (As := [.int (nI 1)]) (rest := []) [] (c_X6_isState l X (nI 1)) ⟨hx, hb, hml, hown, hts⟩ (va_cwS 1 hts gX6_nearest_X6_isState rfl rfl rfl (by decide +kernel) ⟨Nat.le_of_ble_eq_true rfl, Nat.le_of_ble_eq_true rfl⟩) hK hN hP hD (by decide) rfl rfl hl.1 rfl (Nat.le_of_ble_eq_true rfl) dX6_nearest_11 ⟨Nat.zero_le _, Nat.zero_le _⟩ (fun r_119 hc_11 => ?_)
      rcases hc_11 with ⟨hc_11, rfl⟩ | ⟨hc_11, rfl⟩
      · skip
        refine lv_if_eq (tgt := 51) hx hb dX6_nearest_14 (by decide) (fun c_14 => ?_) (fun c_14 => ?_)
        · exact absurd c_14 (by decide)
        · skip
          refine lv_iload_n hx hb dX6_nearest_17 rfl (lv_at hl 2 rfl) ?_
          refine lv_if_lt (tgt := 51) hx hb dX6_nearest_18 (by decide) (fun c_18 => ?_) (fun c_18 => ?_)
          · skip
            refine lv_iconst (v := (-1)) hx hb dX6_nearest_51 (by decide) ?_
            refine wM hQ ?_
            exact rtI (rxf, ryf, rvf, frf, R) hx hb hr hlocks hP hS (⟨h3, by show (-1, R) = _; rw [sel_1 rfl]; exact (cif_neg (fun z => by first | exact z.1.1 c_18 | exact z.1.2 c_24 | exact z.2.1.1 c_28 | exact z.2.1.2 c_34 | exact z.2.2.1 c_40 | exact c_48 (Int32.not_lt.mp z.2.2.2))).symm⟩) dX6_nearest_52
          · skip
            refine lv_iload_n hx hb dX6_nearest_21 rfl (lv_at hl 2 rfl) ?_
            refine lv_ldc (v := 65535) hx hb hown (hts (.constant RX6 112 (65535)) (by decide +kernel)) dX6_nearest_22 ?_
            refine lv_topi (fun x_120 ex_120 => ?_)
            obtain rfl : x_120 = nI 65535 := by
              rw [ex_120]
              rfl
            refine lv_icmp_gt (tgt := 51) hx hb dX6_nearest_24 (by decide) (fun c_24 => ?_) (fun c_24 => ?_)
            · skip
              refine lv_iconst (v := (-1)) hx hb dX6_nearest_51 (by decide) ?_
              refine wM hQ ?_
              exact rtI (rxf, ryf, rvf, frf, R) hx hb hr hlocks hP hS (⟨h3, by show (-1, R) = _; rw [sel_1 rfl]; exact (cif_neg (fun z => by first | exact z.1.1 c_18 | exact z.1.2 c_24 | exact z.2.1.1 c_28 | exact z.2.1.2 c_34 | exact z.2.2.1 c_40 | exact c_48 (Int32.not_lt.mp z.2.2.2))).symm⟩) dX6_nearest_52
            · skip
              refine lv_iload_n hx hb dX6_nearest_27 rfl (lv_at hl 3 rfl) ?_
              refine lv_if_lt (tgt := 51) hx hb dX6_nearest_28 (by decide) (fun c_28 => ?_) (fun c_28 => ?_)
              · skip
                refine lv_iconst (v := (-1)) hx hb dX6_nearest_51 (by decide) ?_
                refine wM hQ ?_
                exact rtI (rxf, ryf, rvf, frf, R) hx hb hr hlocks hP hS (⟨h3, by show (-1, R) = _; rw [sel_1 rfl]; exact (cif_neg (fun z => by first | exact z.1.1 c_18 | exact z.1.2 c_24 | exact z.2.1.1 c_28 | exact z.2.1.2 c_34 | exact z.2.2.1 c_40 | exact c_48 (Int32.not_lt.mp z.2.2.2))).symm⟩) dX6_nearest_52
              · skip
                refine lv_iload_n hx hb dX6_nearest_31 rfl (lv_at hl 3 rfl) ?_
                refine lv_ldc (v := 65535) hx hb hown (hts (.constant RX6 112 (65535)) (by decide +kernel)) dX6_nearest_32 ?_
                refine lv_topi (fun x_121 ex_121 => ?_)
                obtain rfl : x_121 = nI 65535 := by
                  rw [ex_121]
                  rfl
                refine lv_icmp_gt (tgt := 51) hx hb dX6_nearest_34 (by decide) (fun c_34 => ?_) (fun c_34 => ?_)
                · skip
                  refine lv_iconst (v := (-1)) hx hb dX6_nearest_51 (by decide) ?_
                  refine wM hQ ?_
                  exact rtI (rxf, ryf, rvf, frf, R) hx hb hr hlocks hP hS (⟨h3, by show (-1, R) = _; rw [sel_1 rfl]; exact (cif_neg (fun z => by first | exact z.1.1 c_18 | exact z.1.2 c_24 | exact z.2.1.1 c_28 | exact z.2.1.2 c_34 | exact z.2.2.1 c_40 | exact c_48 (Int32.not_lt.mp z.2.2.2))).symm⟩) dX6_nearest_52
                · skip
                  refine lv_iload hx hb dX6_nearest_37 (lv_at hl 4 rfl) ?_
                  refine lv_iconst (v := nI 1) hx hb dX6_nearest_39 (by decide) ?_
                  refine lv_icmp_lt (tgt := 51) hx hb dX6_nearest_40 (by decide) (fun c_40 => ?_) (fun c_40 => ?_)
                  · skip
                    refine lv_iconst (v := (-1)) hx hb dX6_nearest_51 (by decide) ?_
                    refine wM hQ ?_
                    exact rtI (rxf, ryf, rvf, frf, R) hx hb hr hlocks hP hS (⟨h3, by show (-1, R) = _; rw [sel_1 rfl]; exact (cif_neg (fun z => by first | exact z.1.1 c_18 | exact z.1.2 c_24 | exact z.2.1.1 c_28 | exact z.2.1.2 c_34 | exact z.2.2.1 c_40 | exact c_48 (Int32.not_lt.mp z.2.2.2))).symm⟩) dX6_nearest_52
                  · skip
                    refine lv_iload hx hb dX6_nearest_43 (lv_at hl 4 rfl) ?_
                    refine lv_sipush (v := nI 150) hx hb dX6_nearest_45 (by decide) ?_
                    refine lv_icmp_le (tgt := 53) hx hb dX6_nearest_48 (by decide) (fun c_48 => ?_) (fun c_48 => ?_)
                    · skip
                      obtain ⟨kk, hk1, hk2, hkk⟩ := ct_le c_40 (le_nlt c_48)
                      refine lv_aload_n hx hb dX6_nearest_53 rfl (lv_at hl 0 rfl) ?_
                      refine lv_iconst (v := nI 0) hx hb dX6_nearest_54 (by decide) ?_
                      refine va_put (D := X.1) (ci := 6) (v := .int (nI 0)) (ty := .int) (C := RX6) (T := TX6) (N := 25) hx hb hts hin6 tyX6 tyX6_ok nmX6 hown hK hP hD hS 0 rfl rfl 24 (by decide) lk137 (fun _ h9 => h9) rfl (by decide +kernel) rfl rfl (Nat.le_of_ble_eq_true rfl) dX6_nearest_55 (fun H locs hP hD hS => ?_)
                      have hP : va_P X.1 vwCl [(m, .inr (6, [.int (nI bl), .int (nI bk), .int (nI b), .int (nI sp), .ref mn, .ref xr, .ref yr, .ref vr, .ref cr, .ref wr, .int (nI nc), .int (nI 0), .int f_ar, .ref wl, .ref wc, .int f_wt, .int f_lv, .int f_fi, .int f_en, .long f_cd, .ref rx, .ref ry, .ref rv, .ref fr, .int (nI 0)])), (mn, .inl (X.2.1, 2, .inl mf)), (xr, .inl (X.2.1, 6600, .inl xf)), (yr, .inl (X.2.1, 6600, .inl yf)), (vr, .inl (X.2.1, 6600, .inl vf)), (rx, .inl (X.2.1, 150, .inl rxf)), (ry, .inl (X.2.1, 150, .inl ryf)), (rv, .inl (X.2.1, 150, .inl rvf)), (fr, .inl (X.2.2, 150, .inr (.inl frf)))] H := hP
                      have hD : va_D A_ [(m, .inr (6, [.int (nI bl), .int (nI bk), .int (nI b), .int (nI sp), .ref mn, .ref xr, .ref yr, .ref vr, .ref cr, .ref wr, .int (nI nc), .int (nI 0), .int f_ar, .ref wl, .ref wc, .int f_wt, .int f_lv, .int f_fi, .int f_en, .long f_cd, .ref rx, .ref ry, .ref rv, .ref fr, .int (nI 0)])), (mn, .inl (X.2.1, 2, .inl mf)), (xr, .inl (X.2.1, 6600, .inl xf)), (yr, .inl (X.2.1, 6600, .inl yf)), (vr, .inl (X.2.1, 6600, .inl vf)), (rx, .inl (X.2.1, 150, .inl rxf)), (ry, .inl (X.2.1, 150, .inl ryf)), (rv, .inl (X.2.1, 150, .inl rvf)), (fr, .inl (X.2.2, 150, .inr (.inl frf)))] := hD
                      refine lv_iconst (v := nI 0) hx hb dX6_nearest_58 (by decide) ?_
                      refine lv_istore (lv' := [(5, .int (nI 0)), (0, .ref m), (1, .int (nI 1)), (2, .int x), (3, .int y), (4, .int kq)]) hx hb dX6_nearest_59 hl (by decide) rfl (fun ls hl => ?_)
                      have loop_61 : ∀ (fu : Nat) (i : Nat) (rx1 : Nat → Int32) (ry1 : Nat → Int32) (rv1 : Nat → Int32) (fr1 : Nat → Int64), (i ≤ Qm.length) → (mN rx1 ry1 rv1 fr1 ((Qm.take i).foldl (nSt x y kk) [])) → Qm.length - i < fu → ∀ (H : Heap) (locs : List Loc), va_P X.1 vwCl [(m, .inr (6, [.int (nI bl), .int (nI bk), .int (nI b), .int (nI sp), .ref mn, .ref xr, .ref yr, .ref vr, .ref cr, .ref wr, .int (nI nc), .int (nI 0), .int f_ar, .ref wl, .ref wc, .int f_wt, .int f_lv, .int f_fi, .int f_en, .long f_cd, .ref rx, .ref ry, .ref rv, .ref fr, .int (nI (((Qm.take i).foldl (nSt x y kk) []).length))])), (mn, .inl (X.2.1, 2, .inl mf)), (xr, .inl (X.2.1, 6600, .inl xf)), (yr, .inl (X.2.1, 6600, .inl yf)), (vr, .inl (X.2.1, 6600, .inl vf)), (rx, .inl (X.2.1, 150, .inl rx1)), (ry, .inl (X.2.1, 150, .inl ry1)), (rv, .inl (X.2.1, 150, .inl rv1)), (fr, .inl (X.2.2, 150, .inr (.inl fr1)))] H → va_D A_ [(m, .inr (6, [.int (nI bl), .int (nI bk), .int (nI b), .int (nI sp), .ref mn, .ref xr, .ref yr, .ref vr, .ref cr, .ref wr, .int (nI nc), .int (nI 0), .int f_ar, .ref wl, .ref wc, .int f_wt, .int f_lv, .int f_fi, .int f_en, .long f_cd, .ref rx, .ref ry, .ref rv, .ref fr, .int (nI (((Qm.take i).foldl (nSt x y kk) []).length))])), (mn, .inl (X.2.1, 2, .inl mf)), (xr, .inl (X.2.1, 6600, .inl xf)), (yr, .inl (X.2.1, 6600, .inl yf)), (vr, .inl (X.2.1, 6600, .inl vf)), (rx, .inl (X.2.1, 150, .inl rx1)), (ry, .inl (X.2.1, 150, .inl ry1)), (rv, .inl (X.2.1, 150, .inl rv1)), (fr, .inl (X.2.2, 150, .inr (.inl fr1)))] → va_S A_ sz.heap H locs → ∀ (ls : Array Slot), lv_has ls 14 [(0, .ref m), (1, .int (nI 1)), (2, .int x), (3, .int y), (4, .int kq), (5, .int (nI i))] → W pz l ez (headSpec wsX6_nearest (rmk 1)).room sz mz ([.ref m, .int (nI 1), .int x, .int y, .int kq].toArray) below meth cz H locs 0 0 Q (F0 mz 61 ls []) := by
                        intro fu
                        induction fu with
                        | zero => intro i rx1 ry1 rv1 fr1 hi hr1 hfu; exact absurd hfu (Nat.not_lt_zero _)
                        | succ fu ih61 =>
                          intro i rx1 ry1 rv1 fr1 hi hr1 hfu H locs hP hD hS ls hl
                          have hnl : ((Qm.take i).foldl (nSt x y kk) []).length ≤ kk := n_len hi
                          have hrl := hr1.1
                          refine lv_iload hx hb dX6_nearest_61 (lv_at hl 5 rfl) ?_
                          refine lv_aload_n hx hb dX6_nearest_63 rfl (lv_at hl 0 rfl) ?_
                          refine va_get (D := X.1) (ci := 6) (v := .ref mn) (C := RX6) (T := TX6) (N := 25) hx hb hts hin6 hown hK hP 0 rfl rfl 4 (by decide) lk7 (fun _ h9 => h9) rfl dX6_nearest_64 ?_
                          refine lv_iload_n hx hb dX6_nearest_67 rfl (lv_at hl 1 rfl) ?_
                          have hi_122 : vp_in (nI 1) 2 := vp_in_nI (by omega) (by omega)
                          refine va_iald hx hb hK hP 1 0 rfl rfl hi_122 dX6_nearest_68 ?_
                          refine lv_topi (fun x_123 ex_123 => ?_)
                          obtain rfl : x_123 = mf 1 := by
                            rw [ex_123]
                            rw [nI_clamp (by omega)]
                          refine lv_topi (fun x_124 ex_124 => ?_)
                          obtain rfl : x_124 = nI Qm.length := by
                            rw [ex_124]
                            exact h1.m
                          refine lv_icmp_ge (tgt := 321) hx hb dX6_nearest_69 (by decide) (fun c_69 => ?_) (fun c_69 => ?_)
                          · replace c_69 : Qm.length ≤ i := (nI_leI (by omega) (by omega)).mp c_69
                            refine lv_aload_n hx hb dX6_nearest_321 rfl (lv_at hl 0 rfl) ?_
                            refine va_get (D := X.1) (ci := 6) (v := .int (nI (((Qm.take i).foldl (nSt x y kk) []).length))) (C := RX6) (T := TX6) (N := 25) hx hb hts hin6 hown hK hP 0 rfl rfl 24 (by decide) lk137 (fun _ h9 => h9) rfl dX6_nearest_322 ?_
                            rw [← rOf_len] at hP
                            refine wM hQ ?_
                            exact rtI (rx1, ry1, rv1, fr1, rOf ((Qm.take i).foldl (nSt x y kk) [])) hx hb hr hlocks hP hS (⟨mN_R hr1, by show (nI ((Qm.take i).foldl (nSt x y kk) []).length, rOf ((Qm.take i).foldl (nSt x y kk) [])) = _; rw [sel_1 rfl]; rw [nearF_in ⟨⟨c_18, c_24⟩, ⟨c_28, c_34⟩, c_40, le_nlt c_48⟩, hkk, nI_clamp (by omega), show i = Qm.length from by omega, List.take_length]; rfl⟩) dX6_nearest_325
                          · replace c_69 : ¬ Qm.length ≤ i := fun h9 => c_69 ((nI_leI (by omega) (by omega)).mpr h9)
                            refine lv_sipush (v := nI 3300) hx hb dX6_nearest_72 (by decide) ?_
                            refine lv_iload_n hx hb dX6_nearest_75 rfl (lv_at hl 1 rfl) ?_
                            refine lv_imul hx hb dX6_nearest_76 ?_
                            refine lv_topi (fun x_125 ex_125 => ?_)
                            obtain rfl : x_125 = nI (3300 * 1) := by
                              rw [ex_125]
                              exact pk_mul _ _
                            refine lv_iload hx hb dX6_nearest_77 (lv_at hl 5 rfl) ?_
                            refine lv_iadd hx hb dX6_nearest_79 ?_
                            refine lv_topi (fun x_126 ex_126 => ?_)
                            obtain rfl : x_126 = nI ((3300 * 1) + i) := by
                              rw [ex_126]
                              exact nI_add _ _
                            refine lv_istore (lv' := [(6, .int (nI ((3300 * 1) + i))), (0, .ref m), (1, .int (nI 1)), (2, .int x), (3, .int y), (4, .int kq), (5, .int (nI i))]) hx hb dX6_nearest_80 hl (by decide) rfl (fun ls hl => ?_)
                            refine lv_aload_n hx hb dX6_nearest_82 rfl (lv_at hl 1 rfl) ?_
                            refine va_get (D := X.1) (ci := 6) (v := .ref xr) (C := RX6) (T := TX6) (N := 25) hx hb hts hin6 hown hK hP 0 rfl rfl 5 (by decide) lk13 (fun _ h9 => h9) rfl dX6_nearest_83 ?_
                            refine lv_iload hx hb dX6_nearest_86 (lv_at hl 0 rfl) ?_
                            have hi_127 : vp_in (nI ((3300 * 1) + i)) 6600 := vp_in_nI (by omega) (by omega)
                            refine va_iald hx hb hK hP 2 0 rfl rfl hi_127 dX6_nearest_88 ?_
                            refine lv_topi (fun x_128 ex_128 => ?_)
                            obtain rfl : x_128 = xf ((3300 * 1) + i) := by
                              rw [ex_128]
                              rw [nI_clamp (by omega)]
                            refine lv_topi (fun x_129 ex_129 => ?_)
                            obtain rfl : x_129 = nI (pK Qm i / 32768) := by
                              rw [ex_129]
                              exact (h1.X i (by omega)).1
                            refine lv_iload_n hx hb dX6_nearest_89 rfl (lv_at hl 3 rfl) ?_
                            refine lv_isub hx hb dX6_nearest_90 ?_
                            refine lv_i2l (v := ((nI (pK Qm i / 32768)) - x).toInt64) hx hb dX6_nearest_91 rfl ?_
                            refine lv_lstore (lv' := [(7, .long (((nI (pK Qm i / 32768)) - x).toInt64)), (6, .int (nI ((3300 * 1) + i))), (0, .ref m), (1, .int (nI 1)), (2, .int x), (3, .int y), (4, .int kq), (5, .int (nI i))]) hx hb dX6_nearest_92 hl (by decide) rfl (fun ls hl => ?_)
                            refine lv_aload_n hx hb dX6_nearest_94 rfl (lv_at hl 2 rfl) ?_
                            refine va_get (D := X.1) (ci := 6) (v := .ref yr) (C := RX6) (T := TX6) (N := 25) hx hb hts hin6 hown hK hP 0 rfl rfl 6 (by decide) lk16 (fun _ h9 => h9) rfl dX6_nearest_95 ?_
                            refine lv_iload hx hb dX6_nearest_98 (lv_at hl 1 rfl) ?_
                            have hi_130 : vp_in (nI ((3300 * 1) + i)) 6600 := vp_in_nI (by omega) (by omega)
                            refine va_iald hx hb hK hP 3 0 rfl rfl hi_130 dX6_nearest_100 ?_
                            refine lv_topi (fun x_131 ex_131 => ?_)
                            obtain rfl : x_131 = yf ((3300 * 1) + i) := by
                              rw [ex_131]
                              rw [nI_clamp (by omega)]
                            refine lv_topi (fun x_132 ex_132 => ?_)
                            obtain rfl : x_132 = nI (pK Qm i % 32768) := by
                              rw [ex_132]
                              exact (h1.X i (by omega)).2
                            refine lv_iload_n hx hb dX6_nearest_101 rfl (lv_at hl 5 rfl) ?_
                            refine lv_isub hx hb dX6_nearest_102 ?_
                            refine lv_i2l (v := ((nI (pK Qm i % 32768)) - y).toInt64) hx hb dX6_nearest_103 rfl ?_
                            refine lv_lstore (lv' := [(9, .long (((nI (pK Qm i % 32768)) - y).toInt64)), (7, .long (((nI (pK Qm i / 32768)) - x).toInt64)), (6, .int (nI ((3300 * 1) + i))), (0, .ref m), (1, .int (nI 1)), (2, .int x), (3, .int y), (4, .int kq), (5, .int (nI i))]) hx hb dX6_nearest_104 hl (by decide) rfl (fun ls hl => ?_)
                            refine lv_lload hx hb dX6_nearest_106 (lv_at hl 1 rfl) ?_
                            refine lv_lload hx hb dX6_nearest_108 (lv_at hl 1 rfl) ?_
                            refine lv_lmul hx hb dX6_nearest_110 ?_
                            refine lv_lload hx hb dX6_nearest_111 (lv_at hl 0 rfl) ?_
                            refine lv_lload hx hb dX6_nearest_113 (lv_at hl 0 rfl) ?_
                            refine lv_lmul hx hb dX6_nearest_115 ?_
                            refine lv_ladd hx hb dX6_nearest_116 ?_
                            refine lv_topl (fun x_133 ex_133 => ?_)
                            obtain rfl : x_133 = (dst (pK Qm i) x y) := by
                              rw [ex_133]
                              rfl
                            refine lv_lstore (lv' := [(11, .long (dst (pK Qm i) x y)), (9, .long (((nI (pK Qm i % 32768)) - y).toInt64)), (7, .long (((nI (pK Qm i / 32768)) - x).toInt64)), (6, .int (nI ((3300 * 1) + i))), (0, .ref m), (1, .int (nI 1)), (2, .int x), (3, .int y), (4, .int kq), (5, .int (nI i))]) hx hb dX6_nearest_117 hl (by decide) rfl (fun ls hl => ?_)
                            refine lv_aload_n hx hb dX6_nearest_119 rfl (lv_at hl 4 rfl) ?_
                            refine va_get (D := X.1) (ci := 6) (v := .int (nI (((Qm.take i).foldl (nSt x y kk) []).length))) (C := RX6) (T := TX6) (N := 25) hx hb hts hin6 hown hK hP 0 rfl rfl 24 (by decide) lk137 (fun _ h9 => h9) rfl dX6_nearest_120 ?_
                            refine lv_istore (lv' := [(13, .int (nI (((Qm.take i).foldl (nSt x y kk) []).length))), (11, .long (dst (pK Qm i) x y)), (9, .long (((nI (pK Qm i % 32768)) - y).toInt64)), (7, .long (((nI (pK Qm i / 32768)) - x).toInt64)), (6, .int (nI ((3300 * 1) + i))), (0, .ref m), (1, .int (nI 1)), (2, .int x), (3, .int y), (4, .int kq), (5, .int (nI i))]) hx hb dX6_nearest_123 hl (by decide) rfl (fun ls hl => ?_)
                            refine lv_aload_n hx hb dX6_nearest_125 rfl (lv_at hl 5 rfl) ?_
                            refine va_get (D := X.1) (ci := 6) (v := .int (nI (((Qm.take i).foldl (nSt x y kk) []).length))) (C := RX6) (T := TX6) (N := 25) hx hb hts hin6 hown hK hP 0 rfl rfl 24 (by decide) lk137 (fun _ h9 => h9) rfl dX6_nearest_126 ?_
                            refine lv_iload hx hb dX6_nearest_129 (lv_at hl 9 rfl) ?_
                            refine lv_topi (fun x_134 ex_134 => ?_)
                            obtain rfl : x_134 = nI kk := by
                              rw [ex_134]
                              exact hkk
                            refine lv_icmp_ne (tgt := 161) hx hb dX6_nearest_131 (by decide) (fun c_131 => ?_) (fun c_131 => ?_)
                            · replace c_131 : ¬ (((Qm.take i).foldl (nSt x y kk) []).length) = kk := fun h9 => c_131 ((nI_eq (by omega) (by omega)).mpr h9)
                              refine lv_aload_n hx hb dX6_nearest_161 rfl (lv_at hl 5 rfl) ?_
                              refine lv_aload_n hx hb dX6_nearest_162 rfl (lv_at hl 5 rfl) ?_
                              refine va_get (D := X.1) (ci := 6) (v := .int (nI (((Qm.take i).foldl (nSt x y kk) []).length))) (C := RX6) (T := TX6) (N := 25) hx hb hts hin6 hown hK hP 0 rfl rfl 24 (by decide) lk137 (fun _ h9 => h9) rfl dX6_nearest_163 ?_
                              refine lv_iconst (v := nI 1) hx hb dX6_nearest_166 (by decide) ?_
                              refine lv_iadd hx hb dX6_nearest_167 ?_
                              refine lv_topi (fun x_135 ex_135 => ?_)
                              obtain rfl : x_135 = nI ((((Qm.take i).foldl (nSt x y kk) []).length) + 1) := by
                                rw [ex_135]
                                exact nI_add _ _
                              refine va_put (D := X.1) (ci := 6) (v := .int (nI ((((Qm.take i).foldl (nSt x y kk) []).length) + 1))) (ty := .int) (C := RX6) (T := TX6) (N := 25) hx hb hts hin6 tyX6 tyX6_ok nmX6 hown hK hP hD hS 0 rfl rfl 24 (by decide) lk137 (fun _ h9 => h9) rfl (by decide +kernel) rfl rfl (Nat.le_of_ble_eq_true rfl) dX6_nearest_168 (fun H locs hP hD hS => ?_)
                              have hP : va_P X.1 vwCl [(m, .inr (6, [.int (nI bl), .int (nI bk), .int (nI b), .int (nI sp), .ref mn, .ref xr, .ref yr, .ref vr, .ref cr, .ref wr, .int (nI nc), .int (nI 0), .int f_ar, .ref wl, .ref wc, .int f_wt, .int f_lv, .int f_fi, .int f_en, .long f_cd, .ref rx, .ref ry, .ref rv, .ref fr, .int (nI ((((Qm.take i).foldl (nSt x y kk) []).length) + 1))])), (mn, .inl (X.2.1, 2, .inl mf)), (xr, .inl (X.2.1, 6600, .inl xf)), (yr, .inl (X.2.1, 6600, .inl yf)), (vr, .inl (X.2.1, 6600, .inl vf)), (rx, .inl (X.2.1, 150, .inl rx1)), (ry, .inl (X.2.1, 150, .inl ry1)), (rv, .inl (X.2.1, 150, .inl rv1)), (fr, .inl (X.2.2, 150, .inr (.inl fr1)))] H := hP
                              have hD : va_D A_ [(m, .inr (6, [.int (nI bl), .int (nI bk), .int (nI b), .int (nI sp), .ref mn, .ref xr, .ref yr, .ref vr, .ref cr, .ref wr, .int (nI nc), .int (nI 0), .int f_ar, .ref wl, .ref wc, .int f_wt, .int f_lv, .int f_fi, .int f_en, .long f_cd, .ref rx, .ref ry, .ref rv, .ref fr, .int (nI ((((Qm.take i).foldl (nSt x y kk) []).length) + 1))])), (mn, .inl (X.2.1, 2, .inl mf)), (xr, .inl (X.2.1, 6600, .inl xf)), (yr, .inl (X.2.1, 6600, .inl yf)), (vr, .inl (X.2.1, 6600, .inl vf)), (rx, .inl (X.2.1, 150, .inl rx1)), (ry, .inl (X.2.1, 150, .inl ry1)), (rv, .inl (X.2.1, 150, .inl rv1)), (fr, .inl (X.2.2, 150, .inr (.inl fr1)))] := hD
                              have loop_171 : ∀ (fu : Nat) (at_ : Nat), (at_ ≤ ((Qm.take i).foldl (nSt x y kk) []).length) → (∀ j, at_ ≤ j → j < ((Qm.take i).foldl (nSt x y kk) []).length → (dst (pK Qm i) x y) < (((Qm.take i).foldl (nSt x y kk) []).getD j nr0).2.2) → at_ < fu → ∀ (H : Heap) (locs : List Loc), va_P X.1 vwCl [(m, .inr (6, [.int (nI bl), .int (nI bk), .int (nI b), .int (nI sp), .ref mn, .ref xr, .ref yr, .ref vr, .ref cr, .ref wr, .int (nI nc), .int (nI 0), .int f_ar, .ref wl, .ref wc, .int f_wt, .int f_lv, .int f_fi, .int f_en, .long f_cd, .ref rx, .ref ry, .ref rv, .ref fr, .int (nI ((((Qm.take i).foldl (nSt x y kk) []).length) + 1))])), (mn, .inl (X.2.1, 2, .inl mf)), (xr, .inl (X.2.1, 6600, .inl xf)), (yr, .inl (X.2.1, 6600, .inl yf)), (vr, .inl (X.2.1, 6600, .inl vf)), (rx, .inl (X.2.1, 150, .inl (shU rx1 at_ ((Qm.take i).foldl (nSt x y kk) []).length))), (ry, .inl (X.2.1, 150, .inl (shU ry1 at_ ((Qm.take i).foldl (nSt x y kk) []).length))), (rv, .inl (X.2.1, 150, .inl (shU rv1 at_ ((Qm.take i).foldl (nSt x y kk) []).length))), (fr, .inl (X.2.2, 150, .inr (.inl (shU fr1 at_ ((Qm.take i).foldl (nSt x y kk) []).length))))] H → va_D A_ [(m, .inr (6, [.int (nI bl), .int (nI bk), .int (nI b), .int (nI sp), .ref mn, .ref xr, .ref yr, .ref vr, .ref cr, .ref wr, .int (nI nc), .int (nI 0), .int f_ar, .ref wl, .ref wc, .int f_wt, .int f_lv, .int f_fi, .int f_en, .long f_cd, .ref rx, .ref ry, .ref rv, .ref fr, .int (nI ((((Qm.take i).foldl (nSt x y kk) []).length) + 1))])), (mn, .inl (X.2.1, 2, .inl mf)), (xr, .inl (X.2.1, 6600, .inl xf)), (yr, .inl (X.2.1, 6600, .inl yf)), (vr, .inl (X.2.1, 6600, .inl vf)), (rx, .inl (X.2.1, 150, .inl (shU rx1 at_ ((Qm.take i).foldl (nSt x y kk) []).length))), (ry, .inl (X.2.1, 150, .inl (shU ry1 at_ ((Qm.take i).foldl (nSt x y kk) []).length))), (rv, .inl (X.2.1, 150, .inl (shU rv1 at_ ((Qm.take i).foldl (nSt x y kk) []).length))), (fr, .inl (X.2.2, 150, .inr (.inl (shU fr1 at_ ((Qm.take i).foldl (nSt x y kk) []).length))))] → va_S A_ sz.heap H locs → ∀ (ls : Array Slot), lv_has ls 14 [(0, .ref m), (1, .int (nI 1)), (2, .int x), (3, .int y), (4, .int kq), (5, .int (nI i)), (6, .int (nI ((3300 * 1) + i))), (11, .long (dst (pK Qm i) x y)), (13, .int (nI at_))] → W pz l ez (headSpec wsX6_nearest (rmk 1)).room sz mz ([.ref m, .int (nI 1), .int x, .int y, .int kq].toArray) below meth cz H locs 0 0 Q (F0 mz 171 ls []) := by
                                intro fu
                                induction fu with
                                | zero => intro at_ h1a h2 hfu; exact absurd hfu (Nat.not_lt_zero _)
                                | succ fu ih171 =>
                                  intro at_ h1a h2 hfu H locs hP hD hS ls hl
                                  rcases Nat.eq_zero_or_pos at_ with hz | hz
                                  · skip
                                    subst hz
                                    have hpos : posD ((Qm.take i).foldl (nSt x y kk) []) (dst (pK Qm i) x y) = 0 := posD_eq _ _ 0 (Nat.zero_le _) h2 (Or.inl rfl)
                                    refine lv_iload hx hb dX6_nearest_171 (lv_at hl 8 rfl) ?_
                                    refine lv_if_le (tgt := 264) hx hb dX6_nearest_173 (by decide) (fun c_173 => ?_) (fun c_173 => ?_)
                                    · skip
                                      refine lv_aload_n hx hb dX6_nearest_264 rfl (lv_at hl 0 rfl) ?_
                                      refine va_get (D := X.1) (ci := 6) (v := .ref fr) (C := RX6) (T := TX6) (N := 25) hx hb hts hin6 hown hK hP 0 rfl rfl 23 (by decide) lk48 (fun _ h9 => h9) rfl dX6_nearest_265 ?_
                                      refine lv_iload hx hb dX6_nearest_268 (lv_at hl 8 rfl) ?_
                                      refine lv_lload hx hb dX6_nearest_270 (lv_at hl 7 rfl) ?_
                                      have hi_136 : vp_in (nI 0) 150 := vp_in_nI (by omega) (by omega)
                                      refine va_last hx hb hK hP hD hS 8 1 rfl rfl hi_136 dX6_nearest_272 (fun H locs hP hD hS => ?_)
                                      rw [nI_clamp (by omega)] at hP hD
                                      have hP : va_P X.1 vwCl [(m, .inr (6, [.int (nI bl), .int (nI bk), .int (nI b), .int (nI sp), .ref mn, .ref xr, .ref yr, .ref vr, .ref cr, .ref wr, .int (nI nc), .int (nI 0), .int f_ar, .ref wl, .ref wc, .int f_wt, .int f_lv, .int f_fi, .int f_en, .long f_cd, .ref rx, .ref ry, .ref rv, .ref fr, .int (nI ((((Qm.take i).foldl (nSt x y kk) []).length) + 1))])), (mn, .inl (X.2.1, 2, .inl mf)), (xr, .inl (X.2.1, 6600, .inl xf)), (yr, .inl (X.2.1, 6600, .inl yf)), (vr, .inl (X.2.1, 6600, .inl vf)), (rx, .inl (X.2.1, 150, .inl (shU rx1 0 ((Qm.take i).foldl (nSt x y kk) []).length))), (ry, .inl (X.2.1, 150, .inl (shU ry1 0 ((Qm.take i).foldl (nSt x y kk) []).length))), (rv, .inl (X.2.1, 150, .inl (shU rv1 0 ((Qm.take i).foldl (nSt x y kk) []).length))), (fr, .inl (X.2.2, 150, .inr (.inl (vp_updL (shU fr1 0 ((Qm.take i).foldl (nSt x y kk) []).length) 0 (dst (pK Qm i) x y)))))] H := hP
                                      have hD : va_D A_ [(m, .inr (6, [.int (nI bl), .int (nI bk), .int (nI b), .int (nI sp), .ref mn, .ref xr, .ref yr, .ref vr, .ref cr, .ref wr, .int (nI nc), .int (nI 0), .int f_ar, .ref wl, .ref wc, .int f_wt, .int f_lv, .int f_fi, .int f_en, .long f_cd, .ref rx, .ref ry, .ref rv, .ref fr, .int (nI ((((Qm.take i).foldl (nSt x y kk) []).length) + 1))])), (mn, .inl (X.2.1, 2, .inl mf)), (xr, .inl (X.2.1, 6600, .inl xf)), (yr, .inl (X.2.1, 6600, .inl yf)), (vr, .inl (X.2.1, 6600, .inl vf)), (rx, .inl (X.2.1, 150, .inl (shU rx1 0 ((Qm.take i).foldl (nSt x y kk) []).length))), (ry, .inl (X.2.1, 150, .inl (shU ry1 0 ((Qm.take i).foldl (nSt x y kk) []).length))), (rv, .inl (X.2.1, 150, .inl (shU rv1 0 ((Qm.take i).foldl (nSt x y kk) []).length))), (fr, .inl (X.2.2, 150, .inr (.inl (vp_updL (shU fr1 0 ((Qm.take i).foldl (nSt x y kk) []).length) 0 (dst (pK Qm i) x y)))))] := hD
                                      refine lv_aload_n hx hb dX6_nearest_273 rfl (lv_at hl 0 rfl) ?_
                                      refine va_get (D := X.1) (ci := 6) (v := .ref rx) (C := RX6) (T := TX6) (N := 25) hx hb hts hin6 hown hK hP 0 rfl rfl 20 (by decide) lk39 (fun _ h9 => h9) rfl dX6_nearest_274 ?_
                                      refine lv_iload hx hb dX6_nearest_277 (lv_at hl 8 rfl) ?_
                                      refine lv_aload_n hx hb dX6_nearest_279 rfl (lv_at hl 0 rfl) ?_
                                      refine va_get (D := X.1) (ci := 6) (v := .ref xr) (C := RX6) (T := TX6) (N := 25) hx hb hts hin6 hown hK hP 0 rfl rfl 5 (by decide) lk13 (fun _ h9 => h9) rfl dX6_nearest_280 ?_
                                      refine lv_iload hx hb dX6_nearest_283 (lv_at hl 6 rfl) ?_
                                      have hi_137 : vp_in (nI ((3300 * 1) + i)) 6600 := vp_in_nI (by omega) (by omega)
                                      refine va_iald hx hb hK hP 2 0 rfl rfl hi_137 dX6_nearest_285 ?_
                                      refine lv_topi (fun x_138 ex_138 => ?_)
                                      obtain rfl : x_138 = xf ((3300 * 1) + i) := by
                                        rw [ex_138]
                                        rw [nI_clamp (by omega)]
                                      refine lv_topi (fun x_139 ex_139 => ?_)
                                      obtain rfl : x_139 = nI (pK Qm i / 32768) := by
                                        rw [ex_139]
                                        exact (h1.X i (by omega)).1
                                      have hi_140 : vp_in (nI 0) 150 := vp_in_nI (by omega) (by omega)
                                      refine va_iast hx hb hK hP hD hS 5 0 rfl rfl hi_140 dX6_nearest_286 (fun H locs hP hD hS => ?_)
                                      rw [nI_clamp (by omega)] at hP hD
                                      have hP : va_P X.1 vwCl [(m, .inr (6, [.int (nI bl), .int (nI bk), .int (nI b), .int (nI sp), .ref mn, .ref xr, .ref yr, .ref vr, .ref cr, .ref wr, .int (nI nc), .int (nI 0), .int f_ar, .ref wl, .ref wc, .int f_wt, .int f_lv, .int f_fi, .int f_en, .long f_cd, .ref rx, .ref ry, .ref rv, .ref fr, .int (nI ((((Qm.take i).foldl (nSt x y kk) []).length) + 1))])), (mn, .inl (X.2.1, 2, .inl mf)), (xr, .inl (X.2.1, 6600, .inl xf)), (yr, .inl (X.2.1, 6600, .inl yf)), (vr, .inl (X.2.1, 6600, .inl vf)), (rx, .inl (X.2.1, 150, .inl (upd (shU rx1 0 ((Qm.take i).foldl (nSt x y kk) []).length) 0 (nI (pK Qm i / 32768))))), (ry, .inl (X.2.1, 150, .inl (shU ry1 0 ((Qm.take i).foldl (nSt x y kk) []).length))), (rv, .inl (X.2.1, 150, .inl (shU rv1 0 ((Qm.take i).foldl (nSt x y kk) []).length))), (fr, .inl (X.2.2, 150, .inr (.inl (vp_updL (shU fr1 0 ((Qm.take i).foldl (nSt x y kk) []).length) 0 (dst (pK Qm i) x y)))))] H := hP
                                      have hD : va_D A_ [(m, .inr (6, [.int (nI bl), .int (nI bk), .int (nI b), .int (nI sp), .ref mn, .ref xr, .ref yr, .ref vr, .ref cr, .ref wr, .int (nI nc), .int (nI 0), .int f_ar, .ref wl, .ref wc, .int f_wt, .int f_lv, .int f_fi, .int f_en, .long f_cd, .ref rx, .ref ry, .ref rv, .ref fr, .int (nI ((((Qm.take i).foldl (nSt x y kk) []).length) + 1))])), (mn, .inl (X.2.1, 2, .inl mf)), (xr, .inl (X.2.1, 6600, .inl xf)), (yr, .inl (X.2.1, 6600, .inl yf)), (vr, .inl (X.2.1, 6600, .inl vf)), (rx, .inl (X.2.1, 150, .inl (upd (shU rx1 0 ((Qm.take i).foldl (nSt x y kk) []).length) 0 (nI (pK Qm i / 32768))))), (ry, .inl (X.2.1, 150, .inl (shU ry1 0 ((Qm.take i).foldl (nSt x y kk) []).length))), (rv, .inl (X.2.1, 150, .inl (shU rv1 0 ((Qm.take i).foldl (nSt x y kk) []).length))), (fr, .inl (X.2.2, 150, .inr (.inl (vp_updL (shU fr1 0 ((Qm.take i).foldl (nSt x y kk) []).length) 0 (dst (pK Qm i) x y)))))] := hD
                                      refine lv_aload_n hx hb dX6_nearest_287 rfl (lv_at hl 0 rfl) ?_
                                      refine va_get (D := X.1) (ci := 6) (v := .ref ry) (C := RX6) (T := TX6) (N := 25) hx hb hts hin6 hown hK hP 0 rfl rfl 21 (by decide) lk42 (fun _ h9 => h9) rfl dX6_nearest_288 ?_
                                      refine lv_iload hx hb dX6_nearest_291 (lv_at hl 8 rfl) ?_
                                      refine lv_aload_n hx hb dX6_nearest_293 rfl (lv_at hl 0 rfl) ?_
                                      refine va_get (D := X.1) (ci := 6) (v := .ref yr) (C := RX6) (T := TX6) (N := 25) hx hb hts hin6 hown hK hP 0 rfl rfl 6 (by decide) lk16 (fun _ h9 => h9) rfl dX6_nearest_294 ?_
                                      refine lv_iload hx hb dX6_nearest_297 (lv_at hl 6 rfl) ?_
                                      have hi_141 : vp_in (nI ((3300 * 1) + i)) 6600 := vp_in_nI (by omega) (by omega)
                                      refine va_iald hx hb hK hP 3 0 rfl rfl hi_141 dX6_nearest_299 ?_
                                      refine lv_topi (fun x_142 ex_142 => ?_)
                                      obtain rfl : x_142 = yf ((3300 * 1) + i) := by
                                        rw [ex_142]
                                        rw [nI_clamp (by omega)]
                                      refine lv_topi (fun x_143 ex_143 => ?_)
                                      obtain rfl : x_143 = nI (pK Qm i % 32768) := by
                                        rw [ex_143]
                                        exact (h1.X i (by omega)).2
                                      have hi_144 : vp_in (nI 0) 150 := vp_in_nI (by omega) (by omega)
                                      refine va_iast hx hb hK hP hD hS 6 0 rfl rfl hi_144 dX6_nearest_300 (fun H locs hP hD hS => ?_)
                                      rw [nI_clamp (by omega)] at hP hD
                                      have hP : va_P X.1 vwCl [(m, .inr (6, [.int (nI bl), .int (nI bk), .int (nI b), .int (nI sp), .ref mn, .ref xr, .ref yr, .ref vr, .ref cr, .ref wr, .int (nI nc), .int (nI 0), .int f_ar, .ref wl, .ref wc, .int f_wt, .int f_lv, .int f_fi, .int f_en, .long f_cd, .ref rx, .ref ry, .ref rv, .ref fr, .int (nI ((((Qm.take i).foldl (nSt x y kk) []).length) + 1))])), (mn, .inl (X.2.1, 2, .inl mf)), (xr, .inl (X.2.1, 6600, .inl xf)), (yr, .inl (X.2.1, 6600, .inl yf)), (vr, .inl (X.2.1, 6600, .inl vf)), (rx, .inl (X.2.1, 150, .inl (upd (shU rx1 0 ((Qm.take i).foldl (nSt x y kk) []).length) 0 (nI (pK Qm i / 32768))))), (ry, .inl (X.2.1, 150, .inl (upd (shU ry1 0 ((Qm.take i).foldl (nSt x y kk) []).length) 0 (nI (pK Qm i % 32768))))), (rv, .inl (X.2.1, 150, .inl (shU rv1 0 ((Qm.take i).foldl (nSt x y kk) []).length))), (fr, .inl (X.2.2, 150, .inr (.inl (vp_updL (shU fr1 0 ((Qm.take i).foldl (nSt x y kk) []).length) 0 (dst (pK Qm i) x y)))))] H := hP
                                      have hD : va_D A_ [(m, .inr (6, [.int (nI bl), .int (nI bk), .int (nI b), .int (nI sp), .ref mn, .ref xr, .ref yr, .ref vr, .ref cr, .ref wr, .int (nI nc), .int (nI 0), .int f_ar, .ref wl, .ref wc, .int f_wt, .int f_lv, .int f_fi, .int f_en, .long f_cd, .ref rx, .ref ry, .ref rv, .ref fr, .int (nI ((((Qm.take i).foldl (nSt x y kk) []).length) + 1))])), (mn, .inl (X.2.1, 2, .inl mf)), (xr, .inl (X.2.1, 6600, .inl xf)), (yr, .inl (X.2.1, 6600, .inl yf)), (vr, .inl (X.2.1, 6600, .inl vf)), (rx, .inl (X.2.1, 150, .inl (upd (shU rx1 0 ((Qm.take i).foldl (nSt x y kk) []).length) 0 (nI (pK Qm i / 32768))))), (ry, .inl (X.2.1, 150, .inl (upd (shU ry1 0 ((Qm.take i).foldl (nSt x y kk) []).length) 0 (nI (pK Qm i % 32768))))), (rv, .inl (X.2.1, 150, .inl (shU rv1 0 ((Qm.take i).foldl (nSt x y kk) []).length))), (fr, .inl (X.2.2, 150, .inr (.inl (vp_updL (shU fr1 0 ((Qm.take i).foldl (nSt x y kk) []).length) 0 (dst (pK Qm i) x y)))))] := hD
                                      refine lv_aload_n hx hb dX6_nearest_301 rfl (lv_at hl 0 rfl) ?_
                                      refine va_get (D := X.1) (ci := 6) (v := .ref rv) (C := RX6) (T := TX6) (N := 25) hx hb hts hin6 hown hK hP 0 rfl rfl 22 (by decide) lk45 (fun _ h9 => h9) rfl dX6_nearest_302 ?_
                                      refine lv_iload hx hb dX6_nearest_305 (lv_at hl 8 rfl) ?_
                                      refine lv_aload_n hx hb dX6_nearest_307 rfl (lv_at hl 0 rfl) ?_
                                      refine va_get (D := X.1) (ci := 6) (v := .ref vr) (C := RX6) (T := TX6) (N := 25) hx hb hts hin6 hown hK hP 0 rfl rfl 7 (by decide) lk19 (fun _ h9 => h9) rfl dX6_nearest_308 ?_
                                      refine lv_iload hx hb dX6_nearest_311 (lv_at hl 6 rfl) ?_
                                      have hi_145 : vp_in (nI ((3300 * 1) + i)) 6600 := vp_in_nI (by omega) (by omega)
                                      refine va_iald hx hb hK hP 4 0 rfl rfl hi_145 dX6_nearest_313 ?_
                                      refine lv_topi (fun x_146 ex_146 => ?_)
                                      obtain rfl : x_146 = vf ((3300 * 1) + i) := by
                                        rw [ex_146]
                                        rw [nI_clamp (by omega)]
                                      refine lv_topi (fun x_147 ex_147 => ?_)
                                      obtain rfl : x_147 = nI (pV Qm i) := by
                                        rw [ex_147]
                                        exact h1.V i (by omega)
                                      have hi_148 : vp_in (nI 0) 150 := vp_in_nI (by omega) (by omega)
                                      refine va_iast hx hb hK hP hD hS 7 0 rfl rfl hi_148 dX6_nearest_314 (fun H locs hP hD hS => ?_)
                                      rw [nI_clamp (by omega)] at hP hD
                                      have hP : va_P X.1 vwCl [(m, .inr (6, [.int (nI bl), .int (nI bk), .int (nI b), .int (nI sp), .ref mn, .ref xr, .ref yr, .ref vr, .ref cr, .ref wr, .int (nI nc), .int (nI 0), .int f_ar, .ref wl, .ref wc, .int f_wt, .int f_lv, .int f_fi, .int f_en, .long f_cd, .ref rx, .ref ry, .ref rv, .ref fr, .int (nI ((((Qm.take i).foldl (nSt x y kk) []).length) + 1))])), (mn, .inl (X.2.1, 2, .inl mf)), (xr, .inl (X.2.1, 6600, .inl xf)), (yr, .inl (X.2.1, 6600, .inl yf)), (vr, .inl (X.2.1, 6600, .inl vf)), (rx, .inl (X.2.1, 150, .inl (upd (shU rx1 0 ((Qm.take i).foldl (nSt x y kk) []).length) 0 (nI (pK Qm i / 32768))))), (ry, .inl (X.2.1, 150, .inl (upd (shU ry1 0 ((Qm.take i).foldl (nSt x y kk) []).length) 0 (nI (pK Qm i % 32768))))), (rv, .inl (X.2.1, 150, .inl (upd (shU rv1 0 ((Qm.take i).foldl (nSt x y kk) []).length) 0 (nI (pV Qm i))))), (fr, .inl (X.2.2, 150, .inr (.inl (vp_updL (shU fr1 0 ((Qm.take i).foldl (nSt x y kk) []).length) 0 (dst (pK Qm i) x y)))))] H := hP
                                      have hD : va_D A_ [(m, .inr (6, [.int (nI bl), .int (nI bk), .int (nI b), .int (nI sp), .ref mn, .ref xr, .ref yr, .ref vr, .ref cr, .ref wr, .int (nI nc), .int (nI 0), .int f_ar, .ref wl, .ref wc, .int f_wt, .int f_lv, .int f_fi, .int f_en, .long f_cd, .ref rx, .ref ry, .ref rv, .ref fr, .int (nI ((((Qm.take i).foldl (nSt x y kk) []).length) + 1))])), (mn, .inl (X.2.1, 2, .inl mf)), (xr, .inl (X.2.1, 6600, .inl xf)), (yr, .inl (X.2.1, 6600, .inl yf)), (vr, .inl (X.2.1, 6600, .inl vf)), (rx, .inl (X.2.1, 150, .inl (upd (shU rx1 0 ((Qm.take i).foldl (nSt x y kk) []).length) 0 (nI (pK Qm i / 32768))))), (ry, .inl (X.2.1, 150, .inl (upd (shU ry1 0 ((Qm.take i).foldl (nSt x y kk) []).length) 0 (nI (pK Qm i % 32768))))), (rv, .inl (X.2.1, 150, .inl (upd (shU rv1 0 ((Qm.take i).foldl (nSt x y kk) []).length) 0 (nI (pV Qm i))))), (fr, .inl (X.2.2, 150, .inr (.inl (vp_updL (shU fr1 0 ((Qm.take i).foldl (nSt x y kk) []).length) 0 (dst (pK Qm i) x y)))))] := hD
                                      refine lv_iinc (v := nI (i + 1)) (lv' := [(5, .int (nI (i + 1))), (0, .ref m), (1, .int (nI 1)), (2, .int x), (3, .int y), (4, .int kq), (6, .int (nI ((3300 * 1) + i))), (11, .long (dst (pK Qm i) x y)), (13, .int (nI 0))]) hx hb dX6_nearest_315 hl (k := 5) rfl (by rw [show Int32.ofInt 1 = nI 1 from by decide]; exact nI_add _ _) (by decide) rfl (fun ls hl => ?_)
                                      refine lv_goto (tgt := 61) hx hb dX6_nearest_318 (by decide) ?_
                                      have hfin := mN_ins (key := pK Qm i) (x := nI (pV Qm i)) (tp := ((Qm.take i).foldl (nSt x y kk) []).length) hr1 hnl hk2 (by omega) hpos (by omega)
                                      rw [show (((Qm.take i).foldl (nSt x y kk) []).length) + 1 = ((Qm.take (i + 1)).foldl (nSt x y kk) []).length from by rw [n_step (by omega), hfin.2]] at hP hD
                                      exact ih61 (i + 1) (upd (shU rx1 0 ((Qm.take i).foldl (nSt x y kk) []).length) 0 (nI (pK Qm i / 32768))) (upd (shU ry1 0 ((Qm.take i).foldl (nSt x y kk) []).length) 0 (nI (pK Qm i % 32768))) (upd (shU rv1 0 ((Qm.take i).foldl (nSt x y kk) []).length) 0 (nI (pV Qm i))) (vp_updL (shU fr1 0 ((Qm.take i).foldl (nSt x y kk) []).length) 0 (dst (pK Qm i) x y)) (by omega) (by rw [n_step (by omega)]; exact hfin.1) (by omega) _ _ hP hD hS ls (lv_sub hl [1, 2, 3, 4, 5, 0] rfl)
                                    · exact absurd c_173 (by decide)
                                  · skip
                                    obtain ⟨a, rfl⟩ : ∃ a, at_ = a + 1 := ⟨at_ - 1, by omega⟩
                                    refine lv_iload hx hb dX6_nearest_171 (lv_at hl 8 rfl) ?_
                                    refine lv_if_le (tgt := 264) hx hb dX6_nearest_173 (by decide) (fun c_173 => ?_) (fun c_173 => ?_)
                                    · change nI (a + 1) ≤ nI 0 at c_173
                                      replace c_173 : (a + 1) ≤ 0 := (nI_leI (by omega) (by omega)).mp c_173
                                      omega
                                    · change ¬ (nI (a + 1) ≤ nI 0) at c_173
                                      replace c_173 : ¬ (a + 1) ≤ 0 := fun h9 => c_173 ((nI_leI (by omega) (by omega)).mpr h9)
                                      refine lv_aload_n hx hb dX6_nearest_176 rfl (lv_at hl 0 rfl) ?_
                                      refine va_get (D := X.1) (ci := 6) (v := .ref fr) (C := RX6) (T := TX6) (N := 25) hx hb hts hin6 hown hK hP 0 rfl rfl 23 (by decide) lk48 (fun _ h9 => h9) rfl dX6_nearest_177 ?_
                                      refine lv_iload hx hb dX6_nearest_180 (lv_at hl 8 rfl) ?_
                                      refine lv_iconst (v := nI 1) hx hb dX6_nearest_182 (by decide) ?_
                                      refine lv_isub hx hb dX6_nearest_183 ?_
                                      refine lv_topi (fun x_149 ex_149 => ?_)
                                      obtain rfl : x_149 = nI ((a + 1) - 1) := by
                                        rw [ex_149]
                                        exact pk_sub (by omega)
                                      have hi_150 : vp_in (nI ((a + 1) - 1)) 150 := vp_in_nI (by omega) (by omega)
                                      refine va_lald hx hb hK hP 8 1 rfl rfl hi_150 dX6_nearest_184 ?_
                                      refine lv_topl (fun x_151 ex_151 => ?_)
                                      obtain rfl : x_151 = (shU fr1 (a + 1) ((Qm.take i).foldl (nSt x y kk) []).length) ((a + 1) - 1) := by
                                        rw [ex_151]
                                        rw [nI_clamp (by omega)]
                                      refine lv_topl (fun x_152 ex_152 => ?_)
                                      obtain rfl : x_152 = (((Qm.take i).foldl (nSt x y kk) []).getD a nr0).2.2 := by
                                        rw [ex_152]
                                        rw [shU_lo _ (by omega)]
                                        exact (hr1.2 _ (by omega)).2.2.2
                                      refine lv_lload hx hb dX6_nearest_185 (lv_at hl 7 rfl) ?_
                                      refine W.lcmp hx hb dX6_nearest_187 ?_
                                      refine lv_if_le (tgt := 264) hx hb dX6_nearest_188 (by decide) (fun c_188 => ?_) (fun c_188 => ?_)
                                      · skip
                                        have hpos : posD ((Qm.take i).foldl (nSt x y kk) []) (dst (pK Qm i) x y) = a + 1 := posD_eq _ _ (a + 1) (by omega) h2 (Or.inr (lg_le c_188))
                                        refine lv_aload_n hx hb dX6_nearest_264 rfl (lv_at hl 0 rfl) ?_
                                        refine va_get (D := X.1) (ci := 6) (v := .ref fr) (C := RX6) (T := TX6) (N := 25) hx hb hts hin6 hown hK hP 0 rfl rfl 23 (by decide) lk48 (fun _ h9 => h9) rfl dX6_nearest_265 ?_
                                        refine lv_iload hx hb dX6_nearest_268 (lv_at hl 8 rfl) ?_
                                        refine lv_lload hx hb dX6_nearest_270 (lv_at hl 7 rfl) ?_
                                        have hi_153 : vp_in (nI (a + 1)) 150 := vp_in_nI (by omega) (by omega)
                                        refine va_last hx hb hK hP hD hS 8 1 rfl rfl hi_153 dX6_nearest_272 (fun H locs hP hD hS => ?_)
                                        rw [nI_clamp (by omega)] at hP hD
                                        have hP : va_P X.1 vwCl [(m, .inr (6, [.int (nI bl), .int (nI bk), .int (nI b), .int (nI sp), .ref mn, .ref xr, .ref yr, .ref vr, .ref cr, .ref wr, .int (nI nc), .int (nI 0), .int f_ar, .ref wl, .ref wc, .int f_wt, .int f_lv, .int f_fi, .int f_en, .long f_cd, .ref rx, .ref ry, .ref rv, .ref fr, .int (nI ((((Qm.take i).foldl (nSt x y kk) []).length) + 1))])), (mn, .inl (X.2.1, 2, .inl mf)), (xr, .inl (X.2.1, 6600, .inl xf)), (yr, .inl (X.2.1, 6600, .inl yf)), (vr, .inl (X.2.1, 6600, .inl vf)), (rx, .inl (X.2.1, 150, .inl (shU rx1 (a + 1) ((Qm.take i).foldl (nSt x y kk) []).length))), (ry, .inl (X.2.1, 150, .inl (shU ry1 (a + 1) ((Qm.take i).foldl (nSt x y kk) []).length))), (rv, .inl (X.2.1, 150, .inl (shU rv1 (a + 1) ((Qm.take i).foldl (nSt x y kk) []).length))), (fr, .inl (X.2.2, 150, .inr (.inl (vp_updL (shU fr1 (a + 1) ((Qm.take i).foldl (nSt x y kk) []).length) (a + 1) (dst (pK Qm i) x y)))))] H := hP
                                        have hD : va_D A_ [(m, .inr (6, [.int (nI bl), .int (nI bk), .int (nI b), .int (nI sp), .ref mn, .ref xr, .ref yr, .ref vr, .ref cr, .ref wr, .int (nI nc), .int (nI 0), .int f_ar, .ref wl, .ref wc, .int f_wt, .int f_lv, .int f_fi, .int f_en, .long f_cd, .ref rx, .ref ry, .ref rv, .ref fr, .int (nI ((((Qm.take i).foldl (nSt x y kk) []).length) + 1))])), (mn, .inl (X.2.1, 2, .inl mf)), (xr, .inl (X.2.1, 6600, .inl xf)), (yr, .inl (X.2.1, 6600, .inl yf)), (vr, .inl (X.2.1, 6600, .inl vf)), (rx, .inl (X.2.1, 150, .inl (shU rx1 (a + 1) ((Qm.take i).foldl (nSt x y kk) []).length))), (ry, .inl (X.2.1, 150, .inl (shU ry1 (a + 1) ((Qm.take i).foldl (nSt x y kk) []).length))), (rv, .inl (X.2.1, 150, .inl (shU rv1 (a + 1) ((Qm.take i).foldl (nSt x y kk) []).length))), (fr, .inl (X.2.2, 150, .inr (.inl (vp_updL (shU fr1 (a + 1) ((Qm.take i).foldl (nSt x y kk) []).length) (a + 1) (dst (pK Qm i) x y)))))] := hD
                                        refine lv_aload_n hx hb dX6_nearest_273 rfl (lv_at hl 0 rfl) ?_
                                        refine va_get (D := X.1) (ci := 6) (v := .ref rx) (C := RX6) (T := TX6) (N := 25) hx hb hts hin6 hown hK hP 0 rfl rfl 20 (by decide) lk39 (fun _ h9 => h9) rfl dX6_nearest_274 ?_
                                        refine lv_iload hx hb dX6_nearest_277 (lv_at hl 8 rfl) ?_
                                        refine lv_aload_n hx hb dX6_nearest_279 rfl (lv_at hl 0 rfl) ?_
                                        refine va_get (D := X.1) (ci := 6) (v := .ref xr) (C := RX6) (T := TX6) (N := 25) hx hb hts hin6 hown hK hP 0 rfl rfl 5 (by decide) lk13 (fun _ h9 => h9) rfl dX6_nearest_280 ?_
                                        refine lv_iload hx hb dX6_nearest_283 (lv_at hl 6 rfl) ?_
                                        have hi_154 : vp_in (nI ((3300 * 1) + i)) 6600 := vp_in_nI (by omega) (by omega)
                                        refine va_iald hx hb hK hP 2 0 rfl rfl hi_154 dX6_nearest_285 ?_
                                        refine lv_topi (fun x_155 ex_155 => ?_)
                                        obtain rfl : x_155 = xf ((3300 * 1) + i) := by
                                          rw [ex_155]
                                          rw [nI_clamp (by omega)]
                                        refine lv_topi (fun x_156 ex_156 => ?_)
                                        obtain rfl : x_156 = nI (pK Qm i / 32768) := by
                                          rw [ex_156]
                                          exact (h1.X i (by omega)).1
                                        have hi_157 : vp_in (nI (a + 1)) 150 := vp_in_nI (by omega) (by omega)
                                        refine va_iast hx hb hK hP hD hS 5 0 rfl rfl hi_157 dX6_nearest_286 (fun H locs hP hD hS => ?_)
                                        rw [nI_clamp (by omega)] at hP hD
                                        have hP : va_P X.1 vwCl [(m, .inr (6, [.int (nI bl), .int (nI bk), .int (nI b), .int (nI sp), .ref mn, .ref xr, .ref yr, .ref vr, .ref cr, .ref wr, .int (nI nc), .int (nI 0), .int f_ar, .ref wl, .ref wc, .int f_wt, .int f_lv, .int f_fi, .int f_en, .long f_cd, .ref rx, .ref ry, .ref rv, .ref fr, .int (nI ((((Qm.take i).foldl (nSt x y kk) []).length) + 1))])), (mn, .inl (X.2.1, 2, .inl mf)), (xr, .inl (X.2.1, 6600, .inl xf)), (yr, .inl (X.2.1, 6600, .inl yf)), (vr, .inl (X.2.1, 6600, .inl vf)), (rx, .inl (X.2.1, 150, .inl (upd (shU rx1 (a + 1) ((Qm.take i).foldl (nSt x y kk) []).length) (a + 1) (nI (pK Qm i / 32768))))), (ry, .inl (X.2.1, 150, .inl (shU ry1 (a + 1) ((Qm.take i).foldl (nSt x y kk) []).length))), (rv, .inl (X.2.1, 150, .inl (shU rv1 (a + 1) ((Qm.take i).foldl (nSt x y kk) []).length))), (fr, .inl (X.2.2, 150, .inr (.inl (vp_updL (shU fr1 (a + 1) ((Qm.take i).foldl (nSt x y kk) []).length) (a + 1) (dst (pK Qm i) x y)))))] H := hP
                                        have hD : va_D A_ [(m, .inr (6, [.int (nI bl), .int (nI bk), .int (nI b), .int (nI sp), .ref mn, .ref xr, .ref yr, .ref vr, .ref cr, .ref wr, .int (nI nc), .int (nI 0), .int f_ar, .ref wl, .ref wc, .int f_wt, .int f_lv, .int f_fi, .int f_en, .long f_cd, .ref rx, .ref ry, .ref rv, .ref fr, .int (nI ((((Qm.take i).foldl (nSt x y kk) []).length) + 1))])), (mn, .inl (X.2.1, 2, .inl mf)), (xr, .inl (X.2.1, 6600, .inl xf)), (yr, .inl (X.2.1, 6600, .inl yf)), (vr, .inl (X.2.1, 6600, .inl vf)), (rx, .inl (X.2.1, 150, .inl (upd (shU rx1 (a + 1) ((Qm.take i).foldl (nSt x y kk) []).length) (a + 1) (nI (pK Qm i / 32768))))), (ry, .inl (X.2.1, 150, .inl (shU ry1 (a + 1) ((Qm.take i).foldl (nSt x y kk) []).length))), (rv, .inl (X.2.1, 150, .inl (shU rv1 (a + 1) ((Qm.take i).foldl (nSt x y kk) []).length))), (fr, .inl (X.2.2, 150, .inr (.inl (vp_updL (shU fr1 (a + 1) ((Qm.take i).foldl (nSt x y kk) []).length) (a + 1) (dst (pK Qm i) x y)))))] := hD
                                        refine lv_aload_n hx hb dX6_nearest_287 rfl (lv_at hl 0 rfl) ?_
                                        refine va_get (D := X.1) (ci := 6) (v := .ref ry) (C := RX6) (T := TX6) (N := 25) hx hb hts hin6 hown hK hP 0 rfl rfl 21 (by decide) lk42 (fun _ h9 => h9) rfl dX6_nearest_288 ?_
                                        refine lv_iload hx hb dX6_nearest_291 (lv_at hl 8 rfl) ?_
                                        refine lv_aload_n hx hb dX6_nearest_293 rfl (lv_at hl 0 rfl) ?_
                                        refine va_get (D := X.1) (ci := 6) (v := .ref yr) (C := RX6) (T := TX6) (N := 25) hx hb hts hin6 hown hK hP 0 rfl rfl 6 (by decide) lk16 (fun _ h9 => h9) rfl dX6_nearest_294 ?_
                                        refine lv_iload hx hb dX6_nearest_297 (lv_at hl 6 rfl) ?_
                                        have hi_158 : vp_in (nI ((3300 * 1) + i)) 6600 := vp_in_nI (by omega) (by omega)
                                        refine va_iald hx hb hK hP 3 0 rfl rfl hi_158 dX6_nearest_299 ?_
                                        refine lv_topi (fun x_159 ex_159 => ?_)
                                        obtain rfl : x_159 = yf ((3300 * 1) + i) := by
                                          rw [ex_159]
                                          rw [nI_clamp (by omega)]
                                        refine lv_topi (fun x_160 ex_160 => ?_)
                                        obtain rfl : x_160 = nI (pK Qm i % 32768) := by
                                          rw [ex_160]
                                          exact (h1.X i (by omega)).2
                                        have hi_161 : vp_in (nI (a + 1)) 150 := vp_in_nI (by omega) (by omega)
                                        refine va_iast hx hb hK hP hD hS 6 0 rfl rfl hi_161 dX6_nearest_300 (fun H locs hP hD hS => ?_)
                                        rw [nI_clamp (by omega)] at hP hD
                                        have hP : va_P X.1 vwCl [(m, .inr (6, [.int (nI bl), .int (nI bk), .int (nI b), .int (nI sp), .ref mn, .ref xr, .ref yr, .ref vr, .ref cr, .ref wr, .int (nI nc), .int (nI 0), .int f_ar, .ref wl, .ref wc, .int f_wt, .int f_lv, .int f_fi, .int f_en, .long f_cd, .ref rx, .ref ry, .ref rv, .ref fr, .int (nI ((((Qm.take i).foldl (nSt x y kk) []).length) + 1))])), (mn, .inl (X.2.1, 2, .inl mf)), (xr, .inl (X.2.1, 6600, .inl xf)), (yr, .inl (X.2.1, 6600, .inl yf)), (vr, .inl (X.2.1, 6600, .inl vf)), (rx, .inl (X.2.1, 150, .inl (upd (shU rx1 (a + 1) ((Qm.take i).foldl (nSt x y kk) []).length) (a + 1) (nI (pK Qm i / 32768))))), (ry, .inl (X.2.1, 150, .inl (upd (shU ry1 (a + 1) ((Qm.take i).foldl (nSt x y kk) []).length) (a + 1) (nI (pK Qm i % 32768))))), (rv, .inl (X.2.1, 150, .inl (shU rv1 (a + 1) ((Qm.take i).foldl (nSt x y kk) []).length))), (fr, .inl (X.2.2, 150, .inr (.inl (vp_updL (shU fr1 (a + 1) ((Qm.take i).foldl (nSt x y kk) []).length) (a + 1) (dst (pK Qm i) x y)))))] H := hP
                                        have hD : va_D A_ [(m, .inr (6, [.int (nI bl), .int (nI bk), .int (nI b), .int (nI sp), .ref mn, .ref xr, .ref yr, .ref vr, .ref cr, .ref wr, .int (nI nc), .int (nI 0), .int f_ar, .ref wl, .ref wc, .int f_wt, .int f_lv, .int f_fi, .int f_en, .long f_cd, .ref rx, .ref ry, .ref rv, .ref fr, .int (nI ((((Qm.take i).foldl (nSt x y kk) []).length) + 1))])), (mn, .inl (X.2.1, 2, .inl mf)), (xr, .inl (X.2.1, 6600, .inl xf)), (yr, .inl (X.2.1, 6600, .inl yf)), (vr, .inl (X.2.1, 6600, .inl vf)), (rx, .inl (X.2.1, 150, .inl (upd (shU rx1 (a + 1) ((Qm.take i).foldl (nSt x y kk) []).length) (a + 1) (nI (pK Qm i / 32768))))), (ry, .inl (X.2.1, 150, .inl (upd (shU ry1 (a + 1) ((Qm.take i).foldl (nSt x y kk) []).length) (a + 1) (nI (pK Qm i % 32768))))), (rv, .inl (X.2.1, 150, .inl (shU rv1 (a + 1) ((Qm.take i).foldl (nSt x y kk) []).length))), (fr, .inl (X.2.2, 150, .inr (.inl (vp_updL (shU fr1 (a + 1) ((Qm.take i).foldl (nSt x y kk) []).length) (a + 1) (dst (pK Qm i) x y)))))] := hD
                                        refine lv_aload_n hx hb dX6_nearest_301 rfl (lv_at hl 0 rfl) ?_
                                        refine va_get (D := X.1) (ci := 6) (v := .ref rv) (C := RX6) (T := TX6) (N := 25) hx hb hts hin6 hown hK hP 0 rfl rfl 22 (by decide) lk45 (fun _ h9 => h9) rfl dX6_nearest_302 ?_
                                        refine lv_iload hx hb dX6_nearest_305 (lv_at hl 8 rfl) ?_
                                        refine lv_aload_n hx hb dX6_nearest_307 rfl (lv_at hl 0 rfl) ?_
                                        refine va_get (D := X.1) (ci := 6) (v := .ref vr) (C := RX6) (T := TX6) (N := 25) hx hb hts hin6 hown hK hP 0 rfl rfl 7 (by decide) lk19 (fun _ h9 => h9) rfl dX6_nearest_308 ?_
                                        refine lv_iload hx hb dX6_nearest_311 (lv_at hl 6 rfl) ?_
                                        have hi_162 : vp_in (nI ((3300 * 1) + i)) 6600 := vp_in_nI (by omega) (by omega)
                                        refine va_iald hx hb hK hP 4 0 rfl rfl hi_162 dX6_nearest_313 ?_
                                        refine lv_topi (fun x_163 ex_163 => ?_)
                                        obtain rfl : x_163 = vf ((3300 * 1) + i) := by
                                          rw [ex_163]
                                          rw [nI_clamp (by omega)]
                                        refine lv_topi (fun x_164 ex_164 => ?_)
                                        obtain rfl : x_164 = nI (pV Qm i) := by
                                          rw [ex_164]
                                          exact h1.V i (by omega)
                                        have hi_165 : vp_in (nI (a + 1)) 150 := vp_in_nI (by omega) (by omega)
                                        refine va_iast hx hb hK hP hD hS 7 0 rfl rfl hi_165 dX6_nearest_314 (fun H locs hP hD hS => ?_)
                                        rw [nI_clamp (by omega)] at hP hD
                                        have hP : va_P X.1 vwCl [(m, .inr (6, [.int (nI bl), .int (nI bk), .int (nI b), .int (nI sp), .ref mn, .ref xr, .ref yr, .ref vr, .ref cr, .ref wr, .int (nI nc), .int (nI 0), .int f_ar, .ref wl, .ref wc, .int f_wt, .int f_lv, .int f_fi, .int f_en, .long f_cd, .ref rx, .ref ry, .ref rv, .ref fr, .int (nI ((((Qm.take i).foldl (nSt x y kk) []).length) + 1))])), (mn, .inl (X.2.1, 2, .inl mf)), (xr, .inl (X.2.1, 6600, .inl xf)), (yr, .inl (X.2.1, 6600, .inl yf)), (vr, .inl (X.2.1, 6600, .inl vf)), (rx, .inl (X.2.1, 150, .inl (upd (shU rx1 (a + 1) ((Qm.take i).foldl (nSt x y kk) []).length) (a + 1) (nI (pK Qm i / 32768))))), (ry, .inl (X.2.1, 150, .inl (upd (shU ry1 (a + 1) ((Qm.take i).foldl (nSt x y kk) []).length) (a + 1) (nI (pK Qm i % 32768))))), (rv, .inl (X.2.1, 150, .inl (upd (shU rv1 (a + 1) ((Qm.take i).foldl (nSt x y kk) []).length) (a + 1) (nI (pV Qm i))))), (fr, .inl (X.2.2, 150, .inr (.inl (vp_updL (shU fr1 (a + 1) ((Qm.take i).foldl (nSt x y kk) []).length) (a + 1) (dst (pK Qm i) x y)))))] H := hP
                                        have hD : va_D A_ [(m, .inr (6, [.int (nI bl), .int (nI bk), .int (nI b), .int (nI sp), .ref mn, .ref xr, .ref yr, .ref vr, .ref cr, .ref wr, .int (nI nc), .int (nI 0), .int f_ar, .ref wl, .ref wc, .int f_wt, .int f_lv, .int f_fi, .int f_en, .long f_cd, .ref rx, .ref ry, .ref rv, .ref fr, .int (nI ((((Qm.take i).foldl (nSt x y kk) []).length) + 1))])), (mn, .inl (X.2.1, 2, .inl mf)), (xr, .inl (X.2.1, 6600, .inl xf)), (yr, .inl (X.2.1, 6600, .inl yf)), (vr, .inl (X.2.1, 6600, .inl vf)), (rx, .inl (X.2.1, 150, .inl (upd (shU rx1 (a + 1) ((Qm.take i).foldl (nSt x y kk) []).length) (a + 1) (nI (pK Qm i / 32768))))), (ry, .inl (X.2.1, 150, .inl (upd (shU ry1 (a + 1) ((Qm.take i).foldl (nSt x y kk) []).length) (a + 1) (nI (pK Qm i % 32768))))), (rv, .inl (X.2.1, 150, .inl (upd (shU rv1 (a + 1) ((Qm.take i).foldl (nSt x y kk) []).length) (a + 1) (nI (pV Qm i))))), (fr, .inl (X.2.2, 150, .inr (.inl (vp_updL (shU fr1 (a + 1) ((Qm.take i).foldl (nSt x y kk) []).length) (a + 1) (dst (pK Qm i) x y)))))] := hD
                                        refine lv_iinc (v := nI (i + 1)) (lv' := [(5, .int (nI (i + 1))), (0, .ref m), (1, .int (nI 1)), (2, .int x), (3, .int y), (4, .int kq), (6, .int (nI ((3300 * 1) + i))), (11, .long (dst (pK Qm i) x y)), (13, .int (nI (a + 1)))]) hx hb dX6_nearest_315 hl (k := 5) rfl (by rw [show Int32.ofInt 1 = nI 1 from by decide]; exact nI_add _ _) (by decide) rfl (fun ls hl => ?_)
                                        refine lv_goto (tgt := 61) hx hb dX6_nearest_318 (by decide) ?_
                                        have hfin := mN_ins (key := pK Qm i) (x := nI (pV Qm i)) (tp := ((Qm.take i).foldl (nSt x y kk) []).length) hr1 hnl hk2 (by omega) hpos (by omega)
                                        rw [show (((Qm.take i).foldl (nSt x y kk) []).length) + 1 = ((Qm.take (i + 1)).foldl (nSt x y kk) []).length from by rw [n_step (by omega), hfin.2]] at hP hD
                                        exact ih61 (i + 1) (upd (shU rx1 (a + 1) ((Qm.take i).foldl (nSt x y kk) []).length) (a + 1) (nI (pK Qm i / 32768))) (upd (shU ry1 (a + 1) ((Qm.take i).foldl (nSt x y kk) []).length) (a + 1) (nI (pK Qm i % 32768))) (upd (shU rv1 (a + 1) ((Qm.take i).foldl (nSt x y kk) []).length) (a + 1) (nI (pV Qm i))) (vp_updL (shU fr1 (a + 1) ((Qm.take i).foldl (nSt x y kk) []).length) (a + 1) (dst (pK Qm i) x y)) (by omega) (by rw [n_step (by omega)]; exact hfin.1) (by omega) _ _ hP hD hS ls (lv_sub hl [1, 2, 3, 4, 5, 0] rfl)
                                      · skip
                                        have hgt := lg_gt c_188
                                        refine lv_aload_n hx hb dX6_nearest_191 rfl (lv_at hl 0 rfl) ?_
                                        refine va_get (D := X.1) (ci := 6) (v := .ref fr) (C := RX6) (T := TX6) (N := 25) hx hb hts hin6 hown hK hP 0 rfl rfl 23 (by decide) lk48 (fun _ h9 => h9) rfl dX6_nearest_192 ?_
                                        refine lv_iload hx hb dX6_nearest_195 (lv_at hl 8 rfl) ?_
                                        refine lv_aload_n hx hb dX6_nearest_197 rfl (lv_at hl 0 rfl) ?_
                                        refine va_get (D := X.1) (ci := 6) (v := .ref fr) (C := RX6) (T := TX6) (N := 25) hx hb hts hin6 hown hK hP 0 rfl rfl 23 (by decide) lk48 (fun _ h9 => h9) rfl dX6_nearest_198 ?_
                                        refine lv_iload hx hb dX6_nearest_201 (lv_at hl 8 rfl) ?_
                                        refine lv_iconst (v := nI 1) hx hb dX6_nearest_203 (by decide) ?_
                                        refine lv_isub hx hb dX6_nearest_204 ?_
                                        refine lv_topi (fun x_166 ex_166 => ?_)
                                        obtain rfl : x_166 = nI ((a + 1) - 1) := by
                                          rw [ex_166]
                                          exact pk_sub (by omega)
                                        have hi_167 : vp_in (nI ((a + 1) - 1)) 150 := vp_in_nI (by omega) (by omega)
                                        refine va_lald hx hb hK hP 8 1 rfl rfl hi_167 dX6_nearest_205 ?_
                                        refine lv_topl (fun x_168 ex_168 => ?_)
                                        obtain rfl : x_168 = (shU fr1 (a + 1) ((Qm.take i).foldl (nSt x y kk) []).length) ((a + 1) - 1) := by
                                          rw [ex_168]
                                          rw [nI_clamp (by omega)]
                                        have hi_169 : vp_in (nI (a + 1)) 150 := vp_in_nI (by omega) (by omega)
                                        refine va_last hx hb hK hP hD hS 8 1 rfl rfl hi_169 dX6_nearest_206 (fun H locs hP hD hS => ?_)
                                        rw [nI_clamp (by omega)] at hP hD
                                        rw [show vp_updL (shU fr1 (a + 1) ((Qm.take i).foldl (nSt x y kk) []).length) (a + 1) ((shU fr1 (a + 1) ((Qm.take i).foldl (nSt x y kk) []).length) ((a + 1) - 1)) = shU fr1 a ((Qm.take i).foldl (nSt x y kk) []).length from (by have e9 := shU_stL (f := fr1) (i := a + 1) (n := ((Qm.take i).foldl (nSt x y kk) []).length) (by omega) (by omega); rw [Nat.add_sub_cancel] at e9; exact e9)] at hP hD
                                        have hP : va_P X.1 vwCl [(m, .inr (6, [.int (nI bl), .int (nI bk), .int (nI b), .int (nI sp), .ref mn, .ref xr, .ref yr, .ref vr, .ref cr, .ref wr, .int (nI nc), .int (nI 0), .int f_ar, .ref wl, .ref wc, .int f_wt, .int f_lv, .int f_fi, .int f_en, .long f_cd, .ref rx, .ref ry, .ref rv, .ref fr, .int (nI ((((Qm.take i).foldl (nSt x y kk) []).length) + 1))])), (mn, .inl (X.2.1, 2, .inl mf)), (xr, .inl (X.2.1, 6600, .inl xf)), (yr, .inl (X.2.1, 6600, .inl yf)), (vr, .inl (X.2.1, 6600, .inl vf)), (rx, .inl (X.2.1, 150, .inl (shU rx1 (a + 1) ((Qm.take i).foldl (nSt x y kk) []).length))), (ry, .inl (X.2.1, 150, .inl (shU ry1 (a + 1) ((Qm.take i).foldl (nSt x y kk) []).length))), (rv, .inl (X.2.1, 150, .inl (shU rv1 (a + 1) ((Qm.take i).foldl (nSt x y kk) []).length))), (fr, .inl (X.2.2, 150, .inr (.inl (shU fr1 a ((Qm.take i).foldl (nSt x y kk) []).length))))] H := hP
                                        have hD : va_D A_ [(m, .inr (6, [.int (nI bl), .int (nI bk), .int (nI b), .int (nI sp), .ref mn, .ref xr, .ref yr, .ref vr, .ref cr, .ref wr, .int (nI nc), .int (nI 0), .int f_ar, .ref wl, .ref wc, .int f_wt, .int f_lv, .int f_fi, .int f_en, .long f_cd, .ref rx, .ref ry, .ref rv, .ref fr, .int (nI ((((Qm.take i).foldl (nSt x y kk) []).length) + 1))])), (mn, .inl (X.2.1, 2, .inl mf)), (xr, .inl (X.2.1, 6600, .inl xf)), (yr, .inl (X.2.1, 6600, .inl yf)), (vr, .inl (X.2.1, 6600, .inl vf)), (rx, .inl (X.2.1, 150, .inl (shU rx1 (a + 1) ((Qm.take i).foldl (nSt x y kk) []).length))), (ry, .inl (X.2.1, 150, .inl (shU ry1 (a + 1) ((Qm.take i).foldl (nSt x y kk) []).length))), (rv, .inl (X.2.1, 150, .inl (shU rv1 (a + 1) ((Qm.take i).foldl (nSt x y kk) []).length))), (fr, .inl (X.2.2, 150, .inr (.inl (shU fr1 a ((Qm.take i).foldl (nSt x y kk) []).length))))] := hD
                                        refine lv_aload_n hx hb dX6_nearest_207 rfl (lv_at hl 0 rfl) ?_
                                        refine va_get (D := X.1) (ci := 6) (v := .ref rx) (C := RX6) (T := TX6) (N := 25) hx hb hts hin6 hown hK hP 0 rfl rfl 20 (by decide) lk39 (fun _ h9 => h9) rfl dX6_nearest_208 ?_
                                        refine lv_iload hx hb dX6_nearest_211 (lv_at hl 8 rfl) ?_
                                        refine lv_aload_n hx hb dX6_nearest_213 rfl (lv_at hl 0 rfl) ?_
                                        refine va_get (D := X.1) (ci := 6) (v := .ref rx) (C := RX6) (T := TX6) (N := 25) hx hb hts hin6 hown hK hP 0 rfl rfl 20 (by decide) lk39 (fun _ h9 => h9) rfl dX6_nearest_214 ?_
                                        refine lv_iload hx hb dX6_nearest_217 (lv_at hl 8 rfl) ?_
                                        refine lv_iconst (v := nI 1) hx hb dX6_nearest_219 (by decide) ?_
                                        refine lv_isub hx hb dX6_nearest_220 ?_
                                        refine lv_topi (fun x_170 ex_170 => ?_)
                                        obtain rfl : x_170 = nI ((a + 1) - 1) := by
                                          rw [ex_170]
                                          exact pk_sub (by omega)
                                        have hi_171 : vp_in (nI ((a + 1) - 1)) 150 := vp_in_nI (by omega) (by omega)
                                        refine va_iald hx hb hK hP 5 0 rfl rfl hi_171 dX6_nearest_221 ?_
                                        refine lv_topi (fun x_172 ex_172 => ?_)
                                        obtain rfl : x_172 = (shU rx1 (a + 1) ((Qm.take i).foldl (nSt x y kk) []).length) ((a + 1) - 1) := by
                                          rw [ex_172]
                                          rw [nI_clamp (by omega)]
                                        have hi_173 : vp_in (nI (a + 1)) 150 := vp_in_nI (by omega) (by omega)
                                        refine va_iast hx hb hK hP hD hS 5 0 rfl rfl hi_173 dX6_nearest_222 (fun H locs hP hD hS => ?_)
                                        rw [nI_clamp (by omega)] at hP hD
                                        rw [show upd (shU rx1 (a + 1) ((Qm.take i).foldl (nSt x y kk) []).length) (a + 1) ((shU rx1 (a + 1) ((Qm.take i).foldl (nSt x y kk) []).length) ((a + 1) - 1)) = shU rx1 a ((Qm.take i).foldl (nSt x y kk) []).length from (by have e9 := shU_st (f := rx1) (i := a + 1) (n := ((Qm.take i).foldl (nSt x y kk) []).length) (by omega) (by omega); rw [Nat.add_sub_cancel] at e9; exact e9)] at hP hD
                                        have hP : va_P X.1 vwCl [(m, .inr (6, [.int (nI bl), .int (nI bk), .int (nI b), .int (nI sp), .ref mn, .ref xr, .ref yr, .ref vr, .ref cr, .ref wr, .int (nI nc), .int (nI 0), .int f_ar, .ref wl, .ref wc, .int f_wt, .int f_lv, .int f_fi, .int f_en, .long f_cd, .ref rx, .ref ry, .ref rv, .ref fr, .int (nI ((((Qm.take i).foldl (nSt x y kk) []).length) + 1))])), (mn, .inl (X.2.1, 2, .inl mf)), (xr, .inl (X.2.1, 6600, .inl xf)), (yr, .inl (X.2.1, 6600, .inl yf)), (vr, .inl (X.2.1, 6600, .inl vf)), (rx, .inl (X.2.1, 150, .inl (shU rx1 a ((Qm.take i).foldl (nSt x y kk) []).length))), (ry, .inl (X.2.1, 150, .inl (shU ry1 (a + 1) ((Qm.take i).foldl (nSt x y kk) []).length))), (rv, .inl (X.2.1, 150, .inl (shU rv1 (a + 1) ((Qm.take i).foldl (nSt x y kk) []).length))), (fr, .inl (X.2.2, 150, .inr (.inl (shU fr1 a ((Qm.take i).foldl (nSt x y kk) []).length))))] H := hP
                                        have hD : va_D A_ [(m, .inr (6, [.int (nI bl), .int (nI bk), .int (nI b), .int (nI sp), .ref mn, .ref xr, .ref yr, .ref vr, .ref cr, .ref wr, .int (nI nc), .int (nI 0), .int f_ar, .ref wl, .ref wc, .int f_wt, .int f_lv, .int f_fi, .int f_en, .long f_cd, .ref rx, .ref ry, .ref rv, .ref fr, .int (nI ((((Qm.take i).foldl (nSt x y kk) []).length) + 1))])), (mn, .inl (X.2.1, 2, .inl mf)), (xr, .inl (X.2.1, 6600, .inl xf)), (yr, .inl (X.2.1, 6600, .inl yf)), (vr, .inl (X.2.1, 6600, .inl vf)), (rx, .inl (X.2.1, 150, .inl (shU rx1 a ((Qm.take i).foldl (nSt x y kk) []).length))), (ry, .inl (X.2.1, 150, .inl (shU ry1 (a + 1) ((Qm.take i).foldl (nSt x y kk) []).length))), (rv, .inl (X.2.1, 150, .inl (shU rv1 (a + 1) ((Qm.take i).foldl (nSt x y kk) []).length))), (fr, .inl (X.2.2, 150, .inr (.inl (shU fr1 a ((Qm.take i).foldl (nSt x y kk) []).length))))] := hD
                                        refine lv_aload_n hx hb dX6_nearest_223 rfl (lv_at hl 0 rfl) ?_
                                        refine va_get (D := X.1) (ci := 6) (v := .ref ry) (C := RX6) (T := TX6) (N := 25) hx hb hts hin6 hown hK hP 0 rfl rfl 21 (by decide) lk42 (fun _ h9 => h9) rfl dX6_nearest_224 ?_
                                        refine lv_iload hx hb dX6_nearest_227 (lv_at hl 8 rfl) ?_
                                        refine lv_aload_n hx hb dX6_nearest_229 rfl (lv_at hl 0 rfl) ?_
                                        refine va_get (D := X.1) (ci := 6) (v := .ref ry) (C := RX6) (T := TX6) (N := 25) hx hb hts hin6 hown hK hP 0 rfl rfl 21 (by decide) lk42 (fun _ h9 => h9) rfl dX6_nearest_230 ?_
                                        refine lv_iload hx hb dX6_nearest_233 (lv_at hl 8 rfl) ?_
                                        refine lv_iconst (v := nI 1) hx hb dX6_nearest_235 (by decide) ?_
                                        refine lv_isub hx hb dX6_nearest_236 ?_
                                        refine lv_topi (fun x_174 ex_174 => ?_)
                                        obtain rfl : x_174 = nI ((a + 1) - 1) := by
                                          rw [ex_174]
                                          exact pk_sub (by omega)
                                        have hi_175 : vp_in (nI ((a + 1) - 1)) 150 := vp_in_nI (by omega) (by omega)
                                        refine va_iald hx hb hK hP 6 0 rfl rfl hi_175 dX6_nearest_237 ?_
                                        refine lv_topi (fun x_176 ex_176 => ?_)
                                        obtain rfl : x_176 = (shU ry1 (a + 1) ((Qm.take i).foldl (nSt x y kk) []).length) ((a + 1) - 1) := by
                                          rw [ex_176]
                                          rw [nI_clamp (by omega)]
                                        have hi_177 : vp_in (nI (a + 1)) 150 := vp_in_nI (by omega) (by omega)
                                        refine va_iast hx hb hK hP hD hS 6 0 rfl rfl hi_177 dX6_nearest_238 (fun H locs hP hD hS => ?_)
                                        rw [nI_clamp (by omega)] at hP hD
                                        rw [show upd (shU ry1 (a + 1) ((Qm.take i).foldl (nSt x y kk) []).length) (a + 1) ((shU ry1 (a + 1) ((Qm.take i).foldl (nSt x y kk) []).length) ((a + 1) - 1)) = shU ry1 a ((Qm.take i).foldl (nSt x y kk) []).length from (by have e9 := shU_st (f := ry1) (i := a + 1) (n := ((Qm.take i).foldl (nSt x y kk) []).length) (by omega) (by omega); rw [Nat.add_sub_cancel] at e9; exact e9)] at hP hD
                                        have hP : va_P X.1 vwCl [(m, .inr (6, [.int (nI bl), .int (nI bk), .int (nI b), .int (nI sp), .ref mn, .ref xr, .ref yr, .ref vr, .ref cr, .ref wr, .int (nI nc), .int (nI 0), .int f_ar, .ref wl, .ref wc, .int f_wt, .int f_lv, .int f_fi, .int f_en, .long f_cd, .ref rx, .ref ry, .ref rv, .ref fr, .int (nI ((((Qm.take i).foldl (nSt x y kk) []).length) + 1))])), (mn, .inl (X.2.1, 2, .inl mf)), (xr, .inl (X.2.1, 6600, .inl xf)), (yr, .inl (X.2.1, 6600, .inl yf)), (vr, .inl (X.2.1, 6600, .inl vf)), (rx, .inl (X.2.1, 150, .inl (shU rx1 a ((Qm.take i).foldl (nSt x y kk) []).length))), (ry, .inl (X.2.1, 150, .inl (shU ry1 a ((Qm.take i).foldl (nSt x y kk) []).length))), (rv, .inl (X.2.1, 150, .inl (shU rv1 (a + 1) ((Qm.take i).foldl (nSt x y kk) []).length))), (fr, .inl (X.2.2, 150, .inr (.inl (shU fr1 a ((Qm.take i).foldl (nSt x y kk) []).length))))] H := hP
                                        have hD : va_D A_ [(m, .inr (6, [.int (nI bl), .int (nI bk), .int (nI b), .int (nI sp), .ref mn, .ref xr, .ref yr, .ref vr, .ref cr, .ref wr, .int (nI nc), .int (nI 0), .int f_ar, .ref wl, .ref wc, .int f_wt, .int f_lv, .int f_fi, .int f_en, .long f_cd, .ref rx, .ref ry, .ref rv, .ref fr, .int (nI ((((Qm.take i).foldl (nSt x y kk) []).length) + 1))])), (mn, .inl (X.2.1, 2, .inl mf)), (xr, .inl (X.2.1, 6600, .inl xf)), (yr, .inl (X.2.1, 6600, .inl yf)), (vr, .inl (X.2.1, 6600, .inl vf)), (rx, .inl (X.2.1, 150, .inl (shU rx1 a ((Qm.take i).foldl (nSt x y kk) []).length))), (ry, .inl (X.2.1, 150, .inl (shU ry1 a ((Qm.take i).foldl (nSt x y kk) []).length))), (rv, .inl (X.2.1, 150, .inl (shU rv1 (a + 1) ((Qm.take i).foldl (nSt x y kk) []).length))), (fr, .inl (X.2.2, 150, .inr (.inl (shU fr1 a ((Qm.take i).foldl (nSt x y kk) []).length))))] := hD
                                        refine lv_aload_n hx hb dX6_nearest_239 rfl (lv_at hl 0 rfl) ?_
                                        refine va_get (D := X.1) (ci := 6) (v := .ref rv) (C := RX6) (T := TX6) (N := 25) hx hb hts hin6 hown hK hP 0 rfl rfl 22 (by decide) lk45 (fun _ h9 => h9) rfl dX6_nearest_240 ?_
                                        refine lv_iload hx hb dX6_nearest_243 (lv_at hl 8 rfl) ?_
                                        refine lv_aload_n hx hb dX6_nearest_245 rfl (lv_at hl 0 rfl) ?_
                                        refine va_get (D := X.1) (ci := 6) (v := .ref rv) (C := RX6) (T := TX6) (N := 25) hx hb hts hin6 hown hK hP 0 rfl rfl 22 (by decide) lk45 (fun _ h9 => h9) rfl dX6_nearest_246 ?_
                                        refine lv_iload hx hb dX6_nearest_249 (lv_at hl 8 rfl) ?_
                                        refine lv_iconst (v := nI 1) hx hb dX6_nearest_251 (by decide) ?_
                                        refine lv_isub hx hb dX6_nearest_252 ?_
                                        refine lv_topi (fun x_178 ex_178 => ?_)
                                        obtain rfl : x_178 = nI ((a + 1) - 1) := by
                                          rw [ex_178]
                                          exact pk_sub (by omega)
                                        have hi_179 : vp_in (nI ((a + 1) - 1)) 150 := vp_in_nI (by omega) (by omega)
                                        refine va_iald hx hb hK hP 7 0 rfl rfl hi_179 dX6_nearest_253 ?_
                                        refine lv_topi (fun x_180 ex_180 => ?_)
                                        obtain rfl : x_180 = (shU rv1 (a + 1) ((Qm.take i).foldl (nSt x y kk) []).length) ((a + 1) - 1) := by
                                          rw [ex_180]
                                          rw [nI_clamp (by omega)]
                                        have hi_181 : vp_in (nI (a + 1)) 150 := vp_in_nI (by omega) (by omega)
                                        refine va_iast hx hb hK hP hD hS 7 0 rfl rfl hi_181 dX6_nearest_254 (fun H locs hP hD hS => ?_)
                                        rw [nI_clamp (by omega)] at hP hD
                                        rw [show upd (shU rv1 (a + 1) ((Qm.take i).foldl (nSt x y kk) []).length) (a + 1) ((shU rv1 (a + 1) ((Qm.take i).foldl (nSt x y kk) []).length) ((a + 1) - 1)) = shU rv1 a ((Qm.take i).foldl (nSt x y kk) []).length from (by have e9 := shU_st (f := rv1) (i := a + 1) (n := ((Qm.take i).foldl (nSt x y kk) []).length) (by omega) (by omega); rw [Nat.add_sub_cancel] at e9; exact e9)] at hP hD
                                        have hP : va_P X.1 vwCl [(m, .inr (6, [.int (nI bl), .int (nI bk), .int (nI b), .int (nI sp), .ref mn, .ref xr, .ref yr, .ref vr, .ref cr, .ref wr, .int (nI nc), .int (nI 0), .int f_ar, .ref wl, .ref wc, .int f_wt, .int f_lv, .int f_fi, .int f_en, .long f_cd, .ref rx, .ref ry, .ref rv, .ref fr, .int (nI ((((Qm.take i).foldl (nSt x y kk) []).length) + 1))])), (mn, .inl (X.2.1, 2, .inl mf)), (xr, .inl (X.2.1, 6600, .inl xf)), (yr, .inl (X.2.1, 6600, .inl yf)), (vr, .inl (X.2.1, 6600, .inl vf)), (rx, .inl (X.2.1, 150, .inl (shU rx1 a ((Qm.take i).foldl (nSt x y kk) []).length))), (ry, .inl (X.2.1, 150, .inl (shU ry1 a ((Qm.take i).foldl (nSt x y kk) []).length))), (rv, .inl (X.2.1, 150, .inl (shU rv1 a ((Qm.take i).foldl (nSt x y kk) []).length))), (fr, .inl (X.2.2, 150, .inr (.inl (shU fr1 a ((Qm.take i).foldl (nSt x y kk) []).length))))] H := hP
                                        have hD : va_D A_ [(m, .inr (6, [.int (nI bl), .int (nI bk), .int (nI b), .int (nI sp), .ref mn, .ref xr, .ref yr, .ref vr, .ref cr, .ref wr, .int (nI nc), .int (nI 0), .int f_ar, .ref wl, .ref wc, .int f_wt, .int f_lv, .int f_fi, .int f_en, .long f_cd, .ref rx, .ref ry, .ref rv, .ref fr, .int (nI ((((Qm.take i).foldl (nSt x y kk) []).length) + 1))])), (mn, .inl (X.2.1, 2, .inl mf)), (xr, .inl (X.2.1, 6600, .inl xf)), (yr, .inl (X.2.1, 6600, .inl yf)), (vr, .inl (X.2.1, 6600, .inl vf)), (rx, .inl (X.2.1, 150, .inl (shU rx1 a ((Qm.take i).foldl (nSt x y kk) []).length))), (ry, .inl (X.2.1, 150, .inl (shU ry1 a ((Qm.take i).foldl (nSt x y kk) []).length))), (rv, .inl (X.2.1, 150, .inl (shU rv1 a ((Qm.take i).foldl (nSt x y kk) []).length))), (fr, .inl (X.2.2, 150, .inr (.inl (shU fr1 a ((Qm.take i).foldl (nSt x y kk) []).length))))] := hD
                                        refine lv_iload hx hb dX6_nearest_255 (lv_at hl 8 rfl) ?_
                                        refine lv_iconst (v := nI 1) hx hb dX6_nearest_257 (by decide) ?_
                                        refine lv_isub hx hb dX6_nearest_258 ?_
                                        refine lv_topi (fun x_182 ex_182 => ?_)
                                        obtain rfl : x_182 = nI ((a + 1) - 1) := by
                                          rw [ex_182]
                                          exact pk_sub (by omega)
                                        refine lv_istore (lv' := [(13, .int (nI ((a + 1) - 1))), (0, .ref m), (1, .int (nI 1)), (2, .int x), (3, .int y), (4, .int kq), (5, .int (nI i)), (6, .int (nI ((3300 * 1) + i))), (11, .long (dst (pK Qm i) x y))]) hx hb dX6_nearest_259 hl (by decide) rfl (fun ls hl => ?_)
                                        refine lv_goto (tgt := 171) hx hb dX6_nearest_261 (by decide) ?_
                                        have hstep : ∀ j, a ≤ j → j < ((Qm.take i).foldl (nSt x y kk) []).length → (dst (pK Qm i) x y) < (((Qm.take i).foldl (nSt x y kk) []).getD j nr0).2.2 := fun j h8 h9 => by
                                          rcases Nat.eq_or_lt_of_le h8 with z | z
                                          · rw [← z]; exact hgt
                                          · exact h2 j z h9
                                        exact ih171 a (by omega) (by exact hstep) (by omega) _ _ hP hD hS ls (lv_sub hl [1, 2, 3, 4, 5, 6, 7, 8, 0] rfl)
                              have h2i : ∀ j, ((Qm.take i).foldl (nSt x y kk) []).length ≤ j → j < ((Qm.take i).foldl (nSt x y kk) []).length → (dst (pK Qm i) x y) < (((Qm.take i).foldl (nSt x y kk) []).getD j nr0).2.2 := fun j h8 h9 => absurd h9 (by omega)
                              rw [← shU_0 rx1 ((Qm.take i).foldl (nSt x y kk) []).length, ← shU_0 ry1 ((Qm.take i).foldl (nSt x y kk) []).length, ← shU_0 rv1 ((Qm.take i).foldl (nSt x y kk) []).length, ← shU_0 fr1 ((Qm.take i).foldl (nSt x y kk) []).length] at hP hD
                              exact loop_171 _ (((Qm.take i).foldl (nSt x y kk) []).length) (by omega) (by exact h2i) (Nat.lt_succ_self _) _ _ hP hD hS ls (lv_sub hl [5, 6, 7, 8, 9, 10, 4, 1, 0] rfl)
                            · replace c_131 : (((Qm.take i).foldl (nSt x y kk) []).length) = kk := (nI_eq (by omega) (by omega)).mp c_131
                              refine lv_aload_n hx hb dX6_nearest_134 rfl (lv_at hl 5 rfl) ?_
                              refine va_get (D := X.1) (ci := 6) (v := .ref fr) (C := RX6) (T := TX6) (N := 25) hx hb hts hin6 hown hK hP 0 rfl rfl 23 (by decide) lk48 (fun _ h9 => h9) rfl dX6_nearest_135 ?_
                              refine lv_iload hx hb dX6_nearest_138 (lv_at hl 9 rfl) ?_
                              refine lv_topi (fun x_183 ex_183 => ?_)
                              obtain rfl : x_183 = nI kk := by
                                rw [ex_183]
                                exact hkk
                              refine lv_iconst (v := nI 1) hx hb dX6_nearest_140 (by decide) ?_
                              refine lv_isub hx hb dX6_nearest_141 ?_
                              refine lv_topi (fun x_184 ex_184 => ?_)
                              obtain rfl : x_184 = nI (kk - 1) := by
                                rw [ex_184]
                                exact pk_sub (by omega)
                              have hi_185 : vp_in (nI (kk - 1)) 150 := vp_in_nI (by omega) (by omega)
                              refine va_lald hx hb hK hP 8 1 rfl rfl hi_185 dX6_nearest_142 ?_
                              refine lv_topl (fun x_186 ex_186 => ?_)
                              obtain rfl : x_186 = fr1 (kk - 1) := by
                                rw [ex_186]
                                rw [nI_clamp (by omega)]
                              refine lv_topl (fun x_187 ex_187 => ?_)
                              obtain rfl : x_187 = (((Qm.take i).foldl (nSt x y kk) []).getD (kk - 1) nr0).2.2 := by
                                rw [ex_187]
                                exact (hr1.2 _ (by omega)).2.2.2
                              refine lv_lload hx hb dX6_nearest_143 (lv_at hl 1 rfl) ?_
                              refine W.lcmp hx hb dX6_nearest_145 ?_
                              refine lv_if_gt (tgt := 152) hx hb dX6_nearest_146 (by decide) (fun c_146 => ?_) (fun c_146 => ?_)
                              · skip
                                refine lv_iload hx hb dX6_nearest_152 (lv_at hl 9 rfl) ?_
                                refine lv_topi (fun x_188 ex_188 => ?_)
                                obtain rfl : x_188 = nI kk := by
                                  rw [ex_188]
                                  exact hkk
                                refine lv_iconst (v := nI 1) hx hb dX6_nearest_154 (by decide) ?_
                                refine lv_isub hx hb dX6_nearest_155 ?_
                                refine lv_topi (fun x_189 ex_189 => ?_)
                                obtain rfl : x_189 = nI (kk - 1) := by
                                  rw [ex_189]
                                  exact pk_sub (by omega)
                                refine lv_istore (lv' := [(13, .int (nI (kk - 1))), (11, .long (dst (pK Qm i) x y)), (9, .long (((nI (pK Qm i % 32768)) - y).toInt64)), (7, .long (((nI (pK Qm i / 32768)) - x).toInt64)), (6, .int (nI ((3300 * 1) + i))), (0, .ref m), (1, .int (nI 1)), (2, .int x), (3, .int y), (4, .int kq), (5, .int (nI i))]) hx hb dX6_nearest_156 hl (by decide) rfl (fun ls hl => ?_)
                                refine lv_goto (tgt := 171) hx hb dX6_nearest_158 (by decide) ?_
                                have loop_171 : ∀ (fu : Nat) (at_ : Nat), (at_ ≤ (kk - 1)) → (∀ j, at_ ≤ j → j < ((Qm.take i).foldl (nSt x y kk) []).length → (dst (pK Qm i) x y) < (((Qm.take i).foldl (nSt x y kk) []).getD j nr0).2.2) → at_ < fu → ∀ (H : Heap) (locs : List Loc), va_P X.1 vwCl [(m, .inr (6, [.int (nI bl), .int (nI bk), .int (nI b), .int (nI sp), .ref mn, .ref xr, .ref yr, .ref vr, .ref cr, .ref wr, .int (nI nc), .int (nI 0), .int f_ar, .ref wl, .ref wc, .int f_wt, .int f_lv, .int f_fi, .int f_en, .long f_cd, .ref rx, .ref ry, .ref rv, .ref fr, .int (nI (((Qm.take i).foldl (nSt x y kk) []).length))])), (mn, .inl (X.2.1, 2, .inl mf)), (xr, .inl (X.2.1, 6600, .inl xf)), (yr, .inl (X.2.1, 6600, .inl yf)), (vr, .inl (X.2.1, 6600, .inl vf)), (rx, .inl (X.2.1, 150, .inl (shU rx1 at_ (kk - 1)))), (ry, .inl (X.2.1, 150, .inl (shU ry1 at_ (kk - 1)))), (rv, .inl (X.2.1, 150, .inl (shU rv1 at_ (kk - 1)))), (fr, .inl (X.2.2, 150, .inr (.inl (shU fr1 at_ (kk - 1)))))] H → va_D A_ [(m, .inr (6, [.int (nI bl), .int (nI bk), .int (nI b), .int (nI sp), .ref mn, .ref xr, .ref yr, .ref vr, .ref cr, .ref wr, .int (nI nc), .int (nI 0), .int f_ar, .ref wl, .ref wc, .int f_wt, .int f_lv, .int f_fi, .int f_en, .long f_cd, .ref rx, .ref ry, .ref rv, .ref fr, .int (nI (((Qm.take i).foldl (nSt x y kk) []).length))])), (mn, .inl (X.2.1, 2, .inl mf)), (xr, .inl (X.2.1, 6600, .inl xf)), (yr, .inl (X.2.1, 6600, .inl yf)), (vr, .inl (X.2.1, 6600, .inl vf)), (rx, .inl (X.2.1, 150, .inl (shU rx1 at_ (kk - 1)))), (ry, .inl (X.2.1, 150, .inl (shU ry1 at_ (kk - 1)))), (rv, .inl (X.2.1, 150, .inl (shU rv1 at_ (kk - 1)))), (fr, .inl (X.2.2, 150, .inr (.inl (shU fr1 at_ (kk - 1)))))] → va_S A_ sz.heap H locs → ∀ (ls : Array Slot), lv_has ls 14 [(0, .ref m), (1, .int (nI 1)), (2, .int x), (3, .int y), (4, .int kq), (5, .int (nI i)), (6, .int (nI ((3300 * 1) + i))), (11, .long (dst (pK Qm i) x y)), (13, .int (nI at_))] → W pz l ez (headSpec wsX6_nearest (rmk 1)).room sz mz ([.ref m, .int (nI 1), .int x, .int y, .int kq].toArray) below meth cz H locs 0 0 Q (F0 mz 171 ls []) := by
                                  intro fu
                                  induction fu with
                                  | zero => intro at_ h1a h2 hfu; exact absurd hfu (Nat.not_lt_zero _)
                                  | succ fu ih171 =>
                                    intro at_ h1a h2 hfu H locs hP hD hS ls hl
                                    rcases Nat.eq_zero_or_pos at_ with hz | hz
                                    · skip
                                      subst hz
                                      have hpos : posD ((Qm.take i).foldl (nSt x y kk) []) (dst (pK Qm i) x y) = 0 := posD_eq _ _ 0 (Nat.zero_le _) h2 (Or.inl rfl)
                                      refine lv_iload hx hb dX6_nearest_171 (lv_at hl 8 rfl) ?_
                                      refine lv_if_le (tgt := 264) hx hb dX6_nearest_173 (by decide) (fun c_173 => ?_) (fun c_173 => ?_)
                                      · skip
                                        refine lv_aload_n hx hb dX6_nearest_264 rfl (lv_at hl 0 rfl) ?_
                                        refine va_get (D := X.1) (ci := 6) (v := .ref fr) (C := RX6) (T := TX6) (N := 25) hx hb hts hin6 hown hK hP 0 rfl rfl 23 (by decide) lk48 (fun _ h9 => h9) rfl dX6_nearest_265 ?_
                                        refine lv_iload hx hb dX6_nearest_268 (lv_at hl 8 rfl) ?_
                                        refine lv_lload hx hb dX6_nearest_270 (lv_at hl 7 rfl) ?_
                                        have hi_190 : vp_in (nI 0) 150 := vp_in_nI (by omega) (by omega)
                                        refine va_last hx hb hK hP hD hS 8 1 rfl rfl hi_190 dX6_nearest_272 (fun H locs hP hD hS => ?_)
                                        rw [nI_clamp (by omega)] at hP hD
                                        have hP : va_P X.1 vwCl [(m, .inr (6, [.int (nI bl), .int (nI bk), .int (nI b), .int (nI sp), .ref mn, .ref xr, .ref yr, .ref vr, .ref cr, .ref wr, .int (nI nc), .int (nI 0), .int f_ar, .ref wl, .ref wc, .int f_wt, .int f_lv, .int f_fi, .int f_en, .long f_cd, .ref rx, .ref ry, .ref rv, .ref fr, .int (nI (((Qm.take i).foldl (nSt x y kk) []).length))])), (mn, .inl (X.2.1, 2, .inl mf)), (xr, .inl (X.2.1, 6600, .inl xf)), (yr, .inl (X.2.1, 6600, .inl yf)), (vr, .inl (X.2.1, 6600, .inl vf)), (rx, .inl (X.2.1, 150, .inl (shU rx1 0 (kk - 1)))), (ry, .inl (X.2.1, 150, .inl (shU ry1 0 (kk - 1)))), (rv, .inl (X.2.1, 150, .inl (shU rv1 0 (kk - 1)))), (fr, .inl (X.2.2, 150, .inr (.inl (vp_updL (shU fr1 0 (kk - 1)) 0 (dst (pK Qm i) x y)))))] H := hP
                                        have hD : va_D A_ [(m, .inr (6, [.int (nI bl), .int (nI bk), .int (nI b), .int (nI sp), .ref mn, .ref xr, .ref yr, .ref vr, .ref cr, .ref wr, .int (nI nc), .int (nI 0), .int f_ar, .ref wl, .ref wc, .int f_wt, .int f_lv, .int f_fi, .int f_en, .long f_cd, .ref rx, .ref ry, .ref rv, .ref fr, .int (nI (((Qm.take i).foldl (nSt x y kk) []).length))])), (mn, .inl (X.2.1, 2, .inl mf)), (xr, .inl (X.2.1, 6600, .inl xf)), (yr, .inl (X.2.1, 6600, .inl yf)), (vr, .inl (X.2.1, 6600, .inl vf)), (rx, .inl (X.2.1, 150, .inl (shU rx1 0 (kk - 1)))), (ry, .inl (X.2.1, 150, .inl (shU ry1 0 (kk - 1)))), (rv, .inl (X.2.1, 150, .inl (shU rv1 0 (kk - 1)))), (fr, .inl (X.2.2, 150, .inr (.inl (vp_updL (shU fr1 0 (kk - 1)) 0 (dst (pK Qm i) x y)))))] := hD
                                        refine lv_aload_n hx hb dX6_nearest_273 rfl (lv_at hl 0 rfl) ?_
                                        refine va_get (D := X.1) (ci := 6) (v := .ref rx) (C := RX6) (T := TX6) (N := 25) hx hb hts hin6 hown hK hP 0 rfl rfl 20 (by decide) lk39 (fun _ h9 => h9) rfl dX6_nearest_274 ?_
                                        refine lv_iload hx hb dX6_nearest_277 (lv_at hl 8 rfl) ?_
                                        refine lv_aload_n hx hb dX6_nearest_279 rfl (lv_at hl 0 rfl) ?_
                                        refine va_get (D := X.1) (ci := 6) (v := .ref xr) (C := RX6) (T := TX6) (N := 25) hx hb hts hin6 hown hK hP 0 rfl rfl 5 (by decide) lk13 (fun _ h9 => h9) rfl dX6_nearest_280 ?_
                                        refine lv_iload hx hb dX6_nearest_283 (lv_at hl 6 rfl) ?_
                                        have hi_191 : vp_in (nI ((3300 * 1) + i)) 6600 := vp_in_nI (by omega) (by omega)
                                        refine va_iald hx hb hK hP 2 0 rfl rfl hi_191 dX6_nearest_285 ?_
                                        refine lv_topi (fun x_192 ex_192 => ?_)
                                        obtain rfl : x_192 = xf ((3300 * 1) + i) := by
                                          rw [ex_192]
                                          rw [nI_clamp (by omega)]
                                        refine lv_topi (fun x_193 ex_193 => ?_)
                                        obtain rfl : x_193 = nI (pK Qm i / 32768) := by
                                          rw [ex_193]
                                          exact (h1.X i (by omega)).1
                                        have hi_194 : vp_in (nI 0) 150 := vp_in_nI (by omega) (by omega)
                                        refine va_iast hx hb hK hP hD hS 5 0 rfl rfl hi_194 dX6_nearest_286 (fun H locs hP hD hS => ?_)
                                        rw [nI_clamp (by omega)] at hP hD
                                        have hP : va_P X.1 vwCl [(m, .inr (6, [.int (nI bl), .int (nI bk), .int (nI b), .int (nI sp), .ref mn, .ref xr, .ref yr, .ref vr, .ref cr, .ref wr, .int (nI nc), .int (nI 0), .int f_ar, .ref wl, .ref wc, .int f_wt, .int f_lv, .int f_fi, .int f_en, .long f_cd, .ref rx, .ref ry, .ref rv, .ref fr, .int (nI (((Qm.take i).foldl (nSt x y kk) []).length))])), (mn, .inl (X.2.1, 2, .inl mf)), (xr, .inl (X.2.1, 6600, .inl xf)), (yr, .inl (X.2.1, 6600, .inl yf)), (vr, .inl (X.2.1, 6600, .inl vf)), (rx, .inl (X.2.1, 150, .inl (upd (shU rx1 0 (kk - 1)) 0 (nI (pK Qm i / 32768))))), (ry, .inl (X.2.1, 150, .inl (shU ry1 0 (kk - 1)))), (rv, .inl (X.2.1, 150, .inl (shU rv1 0 (kk - 1)))), (fr, .inl (X.2.2, 150, .inr (.inl (vp_updL (shU fr1 0 (kk - 1)) 0 (dst (pK Qm i) x y)))))] H := hP
                                        have hD : va_D A_ [(m, .inr (6, [.int (nI bl), .int (nI bk), .int (nI b), .int (nI sp), .ref mn, .ref xr, .ref yr, .ref vr, .ref cr, .ref wr, .int (nI nc), .int (nI 0), .int f_ar, .ref wl, .ref wc, .int f_wt, .int f_lv, .int f_fi, .int f_en, .long f_cd, .ref rx, .ref ry, .ref rv, .ref fr, .int (nI (((Qm.take i).foldl (nSt x y kk) []).length))])), (mn, .inl (X.2.1, 2, .inl mf)), (xr, .inl (X.2.1, 6600, .inl xf)), (yr, .inl (X.2.1, 6600, .inl yf)), (vr, .inl (X.2.1, 6600, .inl vf)), (rx, .inl (X.2.1, 150, .inl (upd (shU rx1 0 (kk - 1)) 0 (nI (pK Qm i / 32768))))), (ry, .inl (X.2.1, 150, .inl (shU ry1 0 (kk - 1)))), (rv, .inl (X.2.1, 150, .inl (shU rv1 0 (kk - 1)))), (fr, .inl (X.2.2, 150, .inr (.inl (vp_updL (shU fr1 0 (kk - 1)) 0 (dst (pK Qm i) x y)))))] := hD
                                        refine lv_aload_n hx hb dX6_nearest_287 rfl (lv_at hl 0 rfl) ?_
                                        refine va_get (D := X.1) (ci := 6) (v := .ref ry) (C := RX6) (T := TX6) (N := 25) hx hb hts hin6 hown hK hP 0 rfl rfl 21 (by decide) lk42 (fun _ h9 => h9) rfl dX6_nearest_288 ?_
                                        refine lv_iload hx hb dX6_nearest_291 (lv_at hl 8 rfl) ?_
                                        refine lv_aload_n hx hb dX6_nearest_293 rfl (lv_at hl 0 rfl) ?_
                                        refine va_get (D := X.1) (ci := 6) (v := .ref yr) (C := RX6) (T := TX6) (N := 25) hx hb hts hin6 hown hK hP 0 rfl rfl 6 (by decide) lk16 (fun _ h9 => h9) rfl dX6_nearest_294 ?_
                                        refine lv_iload hx hb dX6_nearest_297 (lv_at hl 6 rfl) ?_
                                        have hi_195 : vp_in (nI ((3300 * 1) + i)) 6600 := vp_in_nI (by omega) (by omega)
                                        refine va_iald hx hb hK hP 3 0 rfl rfl hi_195 dX6_nearest_299 ?_
                                        refine lv_topi (fun x_196 ex_196 => ?_)
                                        obtain rfl : x_196 = yf ((3300 * 1) + i) := by
                                          rw [ex_196]
                                          rw [nI_clamp (by omega)]
                                        refine lv_topi (fun x_197 ex_197 => ?_)
                                        obtain rfl : x_197 = nI (pK Qm i % 32768) := by
                                          rw [ex_197]
                                          exact (h1.X i (by omega)).2
                                        have hi_198 : vp_in (nI 0) 150 := vp_in_nI (by omega) (by omega)
                                        refine va_iast hx hb hK hP hD hS 6 0 rfl rfl hi_198 dX6_nearest_300 (fun H locs hP hD hS => ?_)
                                        rw [nI_clamp (by omega)] at hP hD
                                        have hP : va_P X.1 vwCl [(m, .inr (6, [.int (nI bl), .int (nI bk), .int (nI b), .int (nI sp), .ref mn, .ref xr, .ref yr, .ref vr, .ref cr, .ref wr, .int (nI nc), .int (nI 0), .int f_ar, .ref wl, .ref wc, .int f_wt, .int f_lv, .int f_fi, .int f_en, .long f_cd, .ref rx, .ref ry, .ref rv, .ref fr, .int (nI (((Qm.take i).foldl (nSt x y kk) []).length))])), (mn, .inl (X.2.1, 2, .inl mf)), (xr, .inl (X.2.1, 6600, .inl xf)), (yr, .inl (X.2.1, 6600, .inl yf)), (vr, .inl (X.2.1, 6600, .inl vf)), (rx, .inl (X.2.1, 150, .inl (upd (shU rx1 0 (kk - 1)) 0 (nI (pK Qm i / 32768))))), (ry, .inl (X.2.1, 150, .inl (upd (shU ry1 0 (kk - 1)) 0 (nI (pK Qm i % 32768))))), (rv, .inl (X.2.1, 150, .inl (shU rv1 0 (kk - 1)))), (fr, .inl (X.2.2, 150, .inr (.inl (vp_updL (shU fr1 0 (kk - 1)) 0 (dst (pK Qm i) x y)))))] H := hP
                                        have hD : va_D A_ [(m, .inr (6, [.int (nI bl), .int (nI bk), .int (nI b), .int (nI sp), .ref mn, .ref xr, .ref yr, .ref vr, .ref cr, .ref wr, .int (nI nc), .int (nI 0), .int f_ar, .ref wl, .ref wc, .int f_wt, .int f_lv, .int f_fi, .int f_en, .long f_cd, .ref rx, .ref ry, .ref rv, .ref fr, .int (nI (((Qm.take i).foldl (nSt x y kk) []).length))])), (mn, .inl (X.2.1, 2, .inl mf)), (xr, .inl (X.2.1, 6600, .inl xf)), (yr, .inl (X.2.1, 6600, .inl yf)), (vr, .inl (X.2.1, 6600, .inl vf)), (rx, .inl (X.2.1, 150, .inl (upd (shU rx1 0 (kk - 1)) 0 (nI (pK Qm i / 32768))))), (ry, .inl (X.2.1, 150, .inl (upd (shU ry1 0 (kk - 1)) 0 (nI (pK Qm i % 32768))))), (rv, .inl (X.2.1, 150, .inl (shU rv1 0 (kk - 1)))), (fr, .inl (X.2.2, 150, .inr (.inl (vp_updL (shU fr1 0 (kk - 1)) 0 (dst (pK Qm i) x y)))))] := hD
                                        refine lv_aload_n hx hb dX6_nearest_301 rfl (lv_at hl 0 rfl) ?_
                                        refine va_get (D := X.1) (ci := 6) (v := .ref rv) (C := RX6) (T := TX6) (N := 25) hx hb hts hin6 hown hK hP 0 rfl rfl 22 (by decide) lk45 (fun _ h9 => h9) rfl dX6_nearest_302 ?_
                                        refine lv_iload hx hb dX6_nearest_305 (lv_at hl 8 rfl) ?_
                                        refine lv_aload_n hx hb dX6_nearest_307 rfl (lv_at hl 0 rfl) ?_
                                        refine va_get (D := X.1) (ci := 6) (v := .ref vr) (C := RX6) (T := TX6) (N := 25) hx hb hts hin6 hown hK hP 0 rfl rfl 7 (by decide) lk19 (fun _ h9 => h9) rfl dX6_nearest_308 ?_
                                        refine lv_iload hx hb dX6_nearest_311 (lv_at hl 6 rfl) ?_
                                        have hi_199 : vp_in (nI ((3300 * 1) + i)) 6600 := vp_in_nI (by omega) (by omega)
                                        refine va_iald hx hb hK hP 4 0 rfl rfl hi_199 dX6_nearest_313 ?_
                                        refine lv_topi (fun x_200 ex_200 => ?_)
                                        obtain rfl : x_200 = vf ((3300 * 1) + i) := by
                                          rw [ex_200]
                                          rw [nI_clamp (by omega)]
                                        refine lv_topi (fun x_201 ex_201 => ?_)
                                        obtain rfl : x_201 = nI (pV Qm i) := by
                                          rw [ex_201]
                                          exact h1.V i (by omega)
                                        have hi_202 : vp_in (nI 0) 150 := vp_in_nI (by omega) (by omega)
                                        refine va_iast hx hb hK hP hD hS 7 0 rfl rfl hi_202 dX6_nearest_314 (fun H locs hP hD hS => ?_)
                                        rw [nI_clamp (by omega)] at hP hD
                                        have hP : va_P X.1 vwCl [(m, .inr (6, [.int (nI bl), .int (nI bk), .int (nI b), .int (nI sp), .ref mn, .ref xr, .ref yr, .ref vr, .ref cr, .ref wr, .int (nI nc), .int (nI 0), .int f_ar, .ref wl, .ref wc, .int f_wt, .int f_lv, .int f_fi, .int f_en, .long f_cd, .ref rx, .ref ry, .ref rv, .ref fr, .int (nI (((Qm.take i).foldl (nSt x y kk) []).length))])), (mn, .inl (X.2.1, 2, .inl mf)), (xr, .inl (X.2.1, 6600, .inl xf)), (yr, .inl (X.2.1, 6600, .inl yf)), (vr, .inl (X.2.1, 6600, .inl vf)), (rx, .inl (X.2.1, 150, .inl (upd (shU rx1 0 (kk - 1)) 0 (nI (pK Qm i / 32768))))), (ry, .inl (X.2.1, 150, .inl (upd (shU ry1 0 (kk - 1)) 0 (nI (pK Qm i % 32768))))), (rv, .inl (X.2.1, 150, .inl (upd (shU rv1 0 (kk - 1)) 0 (nI (pV Qm i))))), (fr, .inl (X.2.2, 150, .inr (.inl (vp_updL (shU fr1 0 (kk - 1)) 0 (dst (pK Qm i) x y)))))] H := hP
                                        have hD : va_D A_ [(m, .inr (6, [.int (nI bl), .int (nI bk), .int (nI b), .int (nI sp), .ref mn, .ref xr, .ref yr, .ref vr, .ref cr, .ref wr, .int (nI nc), .int (nI 0), .int f_ar, .ref wl, .ref wc, .int f_wt, .int f_lv, .int f_fi, .int f_en, .long f_cd, .ref rx, .ref ry, .ref rv, .ref fr, .int (nI (((Qm.take i).foldl (nSt x y kk) []).length))])), (mn, .inl (X.2.1, 2, .inl mf)), (xr, .inl (X.2.1, 6600, .inl xf)), (yr, .inl (X.2.1, 6600, .inl yf)), (vr, .inl (X.2.1, 6600, .inl vf)), (rx, .inl (X.2.1, 150, .inl (upd (shU rx1 0 (kk - 1)) 0 (nI (pK Qm i / 32768))))), (ry, .inl (X.2.1, 150, .inl (upd (shU ry1 0 (kk - 1)) 0 (nI (pK Qm i % 32768))))), (rv, .inl (X.2.1, 150, .inl (upd (shU rv1 0 (kk - 1)) 0 (nI (pV Qm i))))), (fr, .inl (X.2.2, 150, .inr (.inl (vp_updL (shU fr1 0 (kk - 1)) 0 (dst (pK Qm i) x y)))))] := hD
                                        refine lv_iinc (v := nI (i + 1)) (lv' := [(5, .int (nI (i + 1))), (0, .ref m), (1, .int (nI 1)), (2, .int x), (3, .int y), (4, .int kq), (6, .int (nI ((3300 * 1) + i))), (11, .long (dst (pK Qm i) x y)), (13, .int (nI 0))]) hx hb dX6_nearest_315 hl (k := 5) rfl (by rw [show Int32.ofInt 1 = nI 1 from by decide]; exact nI_add _ _) (by decide) rfl (fun ls hl => ?_)
                                        refine lv_goto (tgt := 61) hx hb dX6_nearest_318 (by decide) ?_
                                        have hfin := mN_ins (key := pK Qm i) (x := nI (pV Qm i)) (tp := kk - 1) hr1 hnl hk2 (by omega) hpos (by omega)
                                        rw [show ((Qm.take i).foldl (nSt x y kk) []).length = ((Qm.take (i + 1)).foldl (nSt x y kk) []).length from by rw [n_step (by omega), hfin.2]; omega] at hP hD
                                        exact ih61 (i + 1) (upd (shU rx1 0 (kk - 1)) 0 (nI (pK Qm i / 32768))) (upd (shU ry1 0 (kk - 1)) 0 (nI (pK Qm i % 32768))) (upd (shU rv1 0 (kk - 1)) 0 (nI (pV Qm i))) (vp_updL (shU fr1 0 (kk - 1)) 0 (dst (pK Qm i) x y)) (by omega) (by rw [n_step (by omega)]; exact hfin.1) (by omega) _ _ hP hD hS ls (lv_sub hl [1, 2, 3, 4, 5, 0] rfl)
                                      · exact absurd c_173 (by decide)
                                    · skip
                                      obtain ⟨a, rfl⟩ : ∃ a, at_ = a + 1 := ⟨at_ - 1, by omega⟩
                                      refine lv_iload hx hb dX6_nearest_171 (lv_at hl 8 rfl) ?_
                                      refine lv_if_le (tgt := 264) hx hb dX6_nearest_173 (by decide) (fun c_173 => ?_) (fun c_173 => ?_)
                                      · change nI (a + 1) ≤ nI 0 at c_173
                                        replace c_173 : (a + 1) ≤ 0 := (nI_leI (by omega) (by omega)).mp c_173
                                        omega
                                      · change ¬ (nI (a + 1) ≤ nI 0) at c_173
                                        replace c_173 : ¬ (a + 1) ≤ 0 := fun h9 => c_173 ((nI_leI (by omega) (by omega)).mpr h9)
                                        refine lv_aload_n hx hb dX6_nearest_176 rfl (lv_at hl 0 rfl) ?_
                                        refine va_get (D := X.1) (ci := 6) (v := .ref fr) (C := RX6) (T := TX6) (N := 25) hx hb hts hin6 hown hK hP 0 rfl rfl 23 (by decide) lk48 (fun _ h9 => h9) rfl dX6_nearest_177 ?_
                                        refine lv_iload hx hb dX6_nearest_180 (lv_at hl 8 rfl) ?_
                                        refine lv_iconst (v := nI 1) hx hb dX6_nearest_182 (by decide) ?_
                                        refine lv_isub hx hb dX6_nearest_183 ?_
                                        refine lv_topi (fun x_203 ex_203 => ?_)
                                        obtain rfl : x_203 = nI ((a + 1) - 1) := by
                                          rw [ex_203]
                                          exact pk_sub (by omega)
                                        have hi_204 : vp_in (nI ((a + 1) - 1)) 150 := vp_in_nI (by omega) (by omega)
                                        refine va_lald hx hb hK hP 8 1 rfl rfl hi_204 dX6_nearest_184 ?_
                                        refine lv_topl (fun x_205 ex_205 => ?_)
                                        obtain rfl : x_205 = (shU fr1 (a + 1) (kk - 1)) ((a + 1) - 1) := by
                                          rw [ex_205]
                                          rw [nI_clamp (by omega)]
                                        refine lv_topl (fun x_206 ex_206 => ?_)
                                        obtain rfl : x_206 = (((Qm.take i).foldl (nSt x y kk) []).getD a nr0).2.2 := by
                                          rw [ex_206]
                                          rw [shU_lo _ (by omega)]
                                          exact (hr1.2 _ (by omega)).2.2.2
                                        refine lv_lload hx hb dX6_nearest_185 (lv_at hl 7 rfl) ?_
                                        refine W.lcmp hx hb dX6_nearest_187 ?_
                                        refine lv_if_le (tgt := 264) hx hb dX6_nearest_188 (by decide) (fun c_188 => ?_) (fun c_188 => ?_)
                                        · skip
                                          have hpos : posD ((Qm.take i).foldl (nSt x y kk) []) (dst (pK Qm i) x y) = a + 1 := posD_eq _ _ (a + 1) (by omega) h2 (Or.inr (lg_le c_188))
                                          refine lv_aload_n hx hb dX6_nearest_264 rfl (lv_at hl 0 rfl) ?_
                                          refine va_get (D := X.1) (ci := 6) (v := .ref fr) (C := RX6) (T := TX6) (N := 25) hx hb hts hin6 hown hK hP 0 rfl rfl 23 (by decide) lk48 (fun _ h9 => h9) rfl dX6_nearest_265 ?_
                                          refine lv_iload hx hb dX6_nearest_268 (lv_at hl 8 rfl) ?_
                                          refine lv_lload hx hb dX6_nearest_270 (lv_at hl 7 rfl) ?_
                                          have hi_207 : vp_in (nI (a + 1)) 150 := vp_in_nI (by omega) (by omega)
                                          refine va_last hx hb hK hP hD hS 8 1 rfl rfl hi_207 dX6_nearest_272 (fun H locs hP hD hS => ?_)
                                          rw [nI_clamp (by omega)] at hP hD
                                          have hP : va_P X.1 vwCl [(m, .inr (6, [.int (nI bl), .int (nI bk), .int (nI b), .int (nI sp), .ref mn, .ref xr, .ref yr, .ref vr, .ref cr, .ref wr, .int (nI nc), .int (nI 0), .int f_ar, .ref wl, .ref wc, .int f_wt, .int f_lv, .int f_fi, .int f_en, .long f_cd, .ref rx, .ref ry, .ref rv, .ref fr, .int (nI (((Qm.take i).foldl (nSt x y kk) []).length))])), (mn, .inl (X.2.1, 2, .inl mf)), (xr, .inl (X.2.1, 6600, .inl xf)), (yr, .inl (X.2.1, 6600, .inl yf)), (vr, .inl (X.2.1, 6600, .inl vf)), (rx, .inl (X.2.1, 150, .inl (shU rx1 (a + 1) (kk - 1)))), (ry, .inl (X.2.1, 150, .inl (shU ry1 (a + 1) (kk - 1)))), (rv, .inl (X.2.1, 150, .inl (shU rv1 (a + 1) (kk - 1)))), (fr, .inl (X.2.2, 150, .inr (.inl (vp_updL (shU fr1 (a + 1) (kk - 1)) (a + 1) (dst (pK Qm i) x y)))))] H := hP
                                          have hD : va_D A_ [(m, .inr (6, [.int (nI bl), .int (nI bk), .int (nI b), .int (nI sp), .ref mn, .ref xr, .ref yr, .ref vr, .ref cr, .ref wr, .int (nI nc), .int (nI 0), .int f_ar, .ref wl, .ref wc, .int f_wt, .int f_lv, .int f_fi, .int f_en, .long f_cd, .ref rx, .ref ry, .ref rv, .ref fr, .int (nI (((Qm.take i).foldl (nSt x y kk) []).length))])), (mn, .inl (X.2.1, 2, .inl mf)), (xr, .inl (X.2.1, 6600, .inl xf)), (yr, .inl (X.2.1, 6600, .inl yf)), (vr, .inl (X.2.1, 6600, .inl vf)), (rx, .inl (X.2.1, 150, .inl (shU rx1 (a + 1) (kk - 1)))), (ry, .inl (X.2.1, 150, .inl (shU ry1 (a + 1) (kk - 1)))), (rv, .inl (X.2.1, 150, .inl (shU rv1 (a + 1) (kk - 1)))), (fr, .inl (X.2.2, 150, .inr (.inl (vp_updL (shU fr1 (a + 1) (kk - 1)) (a + 1) (dst (pK Qm i) x y)))))] := hD
                                          refine lv_aload_n hx hb dX6_nearest_273 rfl (lv_at hl 0 rfl) ?_
                                          refine va_get (D := X.1) (ci := 6) (v := .ref rx) (C := RX6) (T := TX6) (N := 25) hx hb hts hin6 hown hK hP 0 rfl rfl 20 (by decide) lk39 (fun _ h9 => h9) rfl dX6_nearest_274 ?_
                                          refine lv_iload hx hb dX6_nearest_277 (lv_at hl 8 rfl) ?_
                                          refine lv_aload_n hx hb dX6_nearest_279 rfl (lv_at hl 0 rfl) ?_
                                          refine va_get (D := X.1) (ci := 6) (v := .ref xr) (C := RX6) (T := TX6) (N := 25) hx hb hts hin6 hown hK hP 0 rfl rfl 5 (by decide) lk13 (fun _ h9 => h9) rfl dX6_nearest_280 ?_
                                          refine lv_iload hx hb dX6_nearest_283 (lv_at hl 6 rfl) ?_
                                          have hi_208 : vp_in (nI ((3300 * 1) + i)) 6600 := vp_in_nI (by omega) (by omega)
                                          refine va_iald hx hb hK hP 2 0 rfl rfl hi_208 dX6_nearest_285 ?_
                                          refine lv_topi (fun x_209 ex_209 => ?_)
                                          obtain rfl : x_209 = xf ((3300 * 1) + i) := by
                                            rw [ex_209]
                                            rw [nI_clamp (by omega)]
                                          refine lv_topi (fun x_210 ex_210 => ?_)
                                          obtain rfl : x_210 = nI (pK Qm i / 32768) := by
                                            rw [ex_210]
                                            exact (h1.X i (by omega)).1
                                          have hi_211 : vp_in (nI (a + 1)) 150 := vp_in_nI (by omega) (by omega)
                                          refine va_iast hx hb hK hP hD hS 5 0 rfl rfl hi_211 dX6_nearest_286 (fun H locs hP hD hS => ?_)
                                          rw [nI_clamp (by omega)] at hP hD
                                          have hP : va_P X.1 vwCl [(m, .inr (6, [.int (nI bl), .int (nI bk), .int (nI b), .int (nI sp), .ref mn, .ref xr, .ref yr, .ref vr, .ref cr, .ref wr, .int (nI nc), .int (nI 0), .int f_ar, .ref wl, .ref wc, .int f_wt, .int f_lv, .int f_fi, .int f_en, .long f_cd, .ref rx, .ref ry, .ref rv, .ref fr, .int (nI (((Qm.take i).foldl (nSt x y kk) []).length))])), (mn, .inl (X.2.1, 2, .inl mf)), (xr, .inl (X.2.1, 6600, .inl xf)), (yr, .inl (X.2.1, 6600, .inl yf)), (vr, .inl (X.2.1, 6600, .inl vf)), (rx, .inl (X.2.1, 150, .inl (upd (shU rx1 (a + 1) (kk - 1)) (a + 1) (nI (pK Qm i / 32768))))), (ry, .inl (X.2.1, 150, .inl (shU ry1 (a + 1) (kk - 1)))), (rv, .inl (X.2.1, 150, .inl (shU rv1 (a + 1) (kk - 1)))), (fr, .inl (X.2.2, 150, .inr (.inl (vp_updL (shU fr1 (a + 1) (kk - 1)) (a + 1) (dst (pK Qm i) x y)))))] H := hP
                                          have hD : va_D A_ [(m, .inr (6, [.int (nI bl), .int (nI bk), .int (nI b), .int (nI sp), .ref mn, .ref xr, .ref yr, .ref vr, .ref cr, .ref wr, .int (nI nc), .int (nI 0), .int f_ar, .ref wl, .ref wc, .int f_wt, .int f_lv, .int f_fi, .int f_en, .long f_cd, .ref rx, .ref ry, .ref rv, .ref fr, .int (nI (((Qm.take i).foldl (nSt x y kk) []).length))])), (mn, .inl (X.2.1, 2, .inl mf)), (xr, .inl (X.2.1, 6600, .inl xf)), (yr, .inl (X.2.1, 6600, .inl yf)), (vr, .inl (X.2.1, 6600, .inl vf)), (rx, .inl (X.2.1, 150, .inl (upd (shU rx1 (a + 1) (kk - 1)) (a + 1) (nI (pK Qm i / 32768))))), (ry, .inl (X.2.1, 150, .inl (shU ry1 (a + 1) (kk - 1)))), (rv, .inl (X.2.1, 150, .inl (shU rv1 (a + 1) (kk - 1)))), (fr, .inl (X.2.2, 150, .inr (.inl (vp_updL (shU fr1 (a + 1) (kk - 1)) (a + 1) (dst (pK Qm i) x y)))))] := hD
                                          refine lv_aload_n hx hb dX6_nearest_287 rfl (lv_at hl 0 rfl) ?_
                                          refine va_get (D := X.1) (ci := 6) (v := .ref ry) (C := RX6) (T := TX6) (N := 25) hx hb hts hin6 hown hK hP 0 rfl rfl 21 (by decide) lk42 (fun _ h9 => h9) rfl dX6_nearest_288 ?_
                                          refine lv_iload hx hb dX6_nearest_291 (lv_at hl 8 rfl) ?_
                                          refine lv_aload_n hx hb dX6_nearest_293 rfl (lv_at hl 0 rfl) ?_
                                          refine va_get (D := X.1) (ci := 6) (v := .ref yr) (C := RX6) (T := TX6) (N := 25) hx hb hts hin6 hown hK hP 0 rfl rfl 6 (by decide) lk16 (fun _ h9 => h9) rfl dX6_nearest_294 ?_
                                          refine lv_iload hx hb dX6_nearest_297 (lv_at hl 6 rfl) ?_
                                          have hi_212 : vp_in (nI ((3300 * 1) + i)) 6600 := vp_in_nI (by omega) (by omega)
                                          refine va_iald hx hb hK hP 3 0 rfl rfl hi_212 dX6_nearest_299 ?_
                                          refine lv_topi (fun x_213 ex_213 => ?_)
                                          obtain rfl : x_213 = yf ((3300 * 1) + i) := by
                                            rw [ex_213]
                                            rw [nI_clamp (by omega)]
                                          refine lv_topi (fun x_214 ex_214 => ?_)
                                          obtain rfl : x_214 = nI (pK Qm i % 32768) := by
                                            rw [ex_214]
                                            exact (h1.X i (by omega)).2
                                          have hi_215 : vp_in (nI (a + 1)) 150 := vp_in_nI (by omega) (by omega)
                                          refine va_iast hx hb hK hP hD hS 6 0 rfl rfl hi_215 dX6_nearest_300 (fun H locs hP hD hS => ?_)
                                          rw [nI_clamp (by omega)] at hP hD
                                          have hP : va_P X.1 vwCl [(m, .inr (6, [.int (nI bl), .int (nI bk), .int (nI b), .int (nI sp), .ref mn, .ref xr, .ref yr, .ref vr, .ref cr, .ref wr, .int (nI nc), .int (nI 0), .int f_ar, .ref wl, .ref wc, .int f_wt, .int f_lv, .int f_fi, .int f_en, .long f_cd, .ref rx, .ref ry, .ref rv, .ref fr, .int (nI (((Qm.take i).foldl (nSt x y kk) []).length))])), (mn, .inl (X.2.1, 2, .inl mf)), (xr, .inl (X.2.1, 6600, .inl xf)), (yr, .inl (X.2.1, 6600, .inl yf)), (vr, .inl (X.2.1, 6600, .inl vf)), (rx, .inl (X.2.1, 150, .inl (upd (shU rx1 (a + 1) (kk - 1)) (a + 1) (nI (pK Qm i / 32768))))), (ry, .inl (X.2.1, 150, .inl (upd (shU ry1 (a + 1) (kk - 1)) (a + 1) (nI (pK Qm i % 32768))))), (rv, .inl (X.2.1, 150, .inl (shU rv1 (a + 1) (kk - 1)))), (fr, .inl (X.2.2, 150, .inr (.inl (vp_updL (shU fr1 (a + 1) (kk - 1)) (a + 1) (dst (pK Qm i) x y)))))] H := hP
                                          have hD : va_D A_ [(m, .inr (6, [.int (nI bl), .int (nI bk), .int (nI b), .int (nI sp), .ref mn, .ref xr, .ref yr, .ref vr, .ref cr, .ref wr, .int (nI nc), .int (nI 0), .int f_ar, .ref wl, .ref wc, .int f_wt, .int f_lv, .int f_fi, .int f_en, .long f_cd, .ref rx, .ref ry, .ref rv, .ref fr, .int (nI (((Qm.take i).foldl (nSt x y kk) []).length))])), (mn, .inl (X.2.1, 2, .inl mf)), (xr, .inl (X.2.1, 6600, .inl xf)), (yr, .inl (X.2.1, 6600, .inl yf)), (vr, .inl (X.2.1, 6600, .inl vf)), (rx, .inl (X.2.1, 150, .inl (upd (shU rx1 (a + 1) (kk - 1)) (a + 1) (nI (pK Qm i / 32768))))), (ry, .inl (X.2.1, 150, .inl (upd (shU ry1 (a + 1) (kk - 1)) (a + 1) (nI (pK Qm i % 32768))))), (rv, .inl (X.2.1, 150, .inl (shU rv1 (a + 1) (kk - 1)))), (fr, .inl (X.2.2, 150, .inr (.inl (vp_updL (shU fr1 (a + 1) (kk - 1)) (a + 1) (dst (pK Qm i) x y)))))] := hD
                                          refine lv_aload_n hx hb dX6_nearest_301 rfl (lv_at hl 0 rfl) ?_
                                          refine va_get (D := X.1) (ci := 6) (v := .ref rv) (C := RX6) (T := TX6) (N := 25) hx hb hts hin6 hown hK hP 0 rfl rfl 22 (by decide) lk45 (fun _ h9 => h9) rfl dX6_nearest_302 ?_
                                          refine lv_iload hx hb dX6_nearest_305 (lv_at hl 8 rfl) ?_
                                          refine lv_aload_n hx hb dX6_nearest_307 rfl (lv_at hl 0 rfl) ?_
                                          refine va_get (D := X.1) (ci := 6) (v := .ref vr) (C := RX6) (T := TX6) (N := 25) hx hb hts hin6 hown hK hP 0 rfl rfl 7 (by decide) lk19 (fun _ h9 => h9) rfl dX6_nearest_308 ?_
                                          refine lv_iload hx hb dX6_nearest_311 (lv_at hl 6 rfl) ?_
                                          have hi_216 : vp_in (nI ((3300 * 1) + i)) 6600 := vp_in_nI (by omega) (by omega)
                                          refine va_iald hx hb hK hP 4 0 rfl rfl hi_216 dX6_nearest_313 ?_
                                          refine lv_topi (fun x_217 ex_217 => ?_)
                                          obtain rfl : x_217 = vf ((3300 * 1) + i) := by
                                            rw [ex_217]
                                            rw [nI_clamp (by omega)]
                                          refine lv_topi (fun x_218 ex_218 => ?_)
                                          obtain rfl : x_218 = nI (pV Qm i) := by
                                            rw [ex_218]
                                            exact h1.V i (by omega)
                                          have hi_219 : vp_in (nI (a + 1)) 150 := vp_in_nI (by omega) (by omega)
                                          refine va_iast hx hb hK hP hD hS 7 0 rfl rfl hi_219 dX6_nearest_314 (fun H locs hP hD hS => ?_)
                                          rw [nI_clamp (by omega)] at hP hD
                                          have hP : va_P X.1 vwCl [(m, .inr (6, [.int (nI bl), .int (nI bk), .int (nI b), .int (nI sp), .ref mn, .ref xr, .ref yr, .ref vr, .ref cr, .ref wr, .int (nI nc), .int (nI 0), .int f_ar, .ref wl, .ref wc, .int f_wt, .int f_lv, .int f_fi, .int f_en, .long f_cd, .ref rx, .ref ry, .ref rv, .ref fr, .int (nI (((Qm.take i).foldl (nSt x y kk) []).length))])), (mn, .inl (X.2.1, 2, .inl mf)), (xr, .inl (X.2.1, 6600, .inl xf)), (yr, .inl (X.2.1, 6600, .inl yf)), (vr, .inl (X.2.1, 6600, .inl vf)), (rx, .inl (X.2.1, 150, .inl (upd (shU rx1 (a + 1) (kk - 1)) (a + 1) (nI (pK Qm i / 32768))))), (ry, .inl (X.2.1, 150, .inl (upd (shU ry1 (a + 1) (kk - 1)) (a + 1) (nI (pK Qm i % 32768))))), (rv, .inl (X.2.1, 150, .inl (upd (shU rv1 (a + 1) (kk - 1)) (a + 1) (nI (pV Qm i))))), (fr, .inl (X.2.2, 150, .inr (.inl (vp_updL (shU fr1 (a + 1) (kk - 1)) (a + 1) (dst (pK Qm i) x y)))))] H := hP
                                          have hD : va_D A_ [(m, .inr (6, [.int (nI bl), .int (nI bk), .int (nI b), .int (nI sp), .ref mn, .ref xr, .ref yr, .ref vr, .ref cr, .ref wr, .int (nI nc), .int (nI 0), .int f_ar, .ref wl, .ref wc, .int f_wt, .int f_lv, .int f_fi, .int f_en, .long f_cd, .ref rx, .ref ry, .ref rv, .ref fr, .int (nI (((Qm.take i).foldl (nSt x y kk) []).length))])), (mn, .inl (X.2.1, 2, .inl mf)), (xr, .inl (X.2.1, 6600, .inl xf)), (yr, .inl (X.2.1, 6600, .inl yf)), (vr, .inl (X.2.1, 6600, .inl vf)), (rx, .inl (X.2.1, 150, .inl (upd (shU rx1 (a + 1) (kk - 1)) (a + 1) (nI (pK Qm i / 32768))))), (ry, .inl (X.2.1, 150, .inl (upd (shU ry1 (a + 1) (kk - 1)) (a + 1) (nI (pK Qm i % 32768))))), (rv, .inl (X.2.1, 150, .inl (upd (shU rv1 (a + 1) (kk - 1)) (a + 1) (nI (pV Qm i))))), (fr, .inl (X.2.2, 150, .inr (.inl (vp_updL (shU fr1 (a + 1) (kk - 1)) (a + 1) (dst (pK Qm i) x y)))))] := hD
                                          refine lv_iinc (v := nI (i + 1)) (lv' := [(5, .int (nI (i + 1))), (0, .ref m), (1, .int (nI 1)), (2, .int x), (3, .int y), (4, .int kq), (6, .int (nI ((3300 * 1) + i))), (11, .long (dst (pK Qm i) x y)), (13, .int (nI (a + 1)))]) hx hb dX6_nearest_315 hl (k := 5) rfl (by rw [show Int32.ofInt 1 = nI 1 from by decide]; exact nI_add _ _) (by decide) rfl (fun ls hl => ?_)
                                          refine lv_goto (tgt := 61) hx hb dX6_nearest_318 (by decide) ?_
                                          have hfin := mN_ins (key := pK Qm i) (x := nI (pV Qm i)) (tp := kk - 1) hr1 hnl hk2 (by omega) hpos (by omega)
                                          rw [show ((Qm.take i).foldl (nSt x y kk) []).length = ((Qm.take (i + 1)).foldl (nSt x y kk) []).length from by rw [n_step (by omega), hfin.2]; omega] at hP hD
                                          exact ih61 (i + 1) (upd (shU rx1 (a + 1) (kk - 1)) (a + 1) (nI (pK Qm i / 32768))) (upd (shU ry1 (a + 1) (kk - 1)) (a + 1) (nI (pK Qm i % 32768))) (upd (shU rv1 (a + 1) (kk - 1)) (a + 1) (nI (pV Qm i))) (vp_updL (shU fr1 (a + 1) (kk - 1)) (a + 1) (dst (pK Qm i) x y)) (by omega) (by rw [n_step (by omega)]; exact hfin.1) (by omega) _ _ hP hD hS ls (lv_sub hl [1, 2, 3, 4, 5, 0] rfl)
                                        · skip
                                          have hgt := lg_gt c_188
                                          refine lv_aload_n hx hb dX6_nearest_191 rfl (lv_at hl 0 rfl) ?_
                                          refine va_get (D := X.1) (ci := 6) (v := .ref fr) (C := RX6) (T := TX6) (N := 25) hx hb hts hin6 hown hK hP 0 rfl rfl 23 (by decide) lk48 (fun _ h9 => h9) rfl dX6_nearest_192 ?_
                                          refine lv_iload hx hb dX6_nearest_195 (lv_at hl 8 rfl) ?_
                                          refine lv_aload_n hx hb dX6_nearest_197 rfl (lv_at hl 0 rfl) ?_
                                          refine va_get (D := X.1) (ci := 6) (v := .ref fr) (C := RX6) (T := TX6) (N := 25) hx hb hts hin6 hown hK hP 0 rfl rfl 23 (by decide) lk48 (fun _ h9 => h9) rfl dX6_nearest_198 ?_
                                          refine lv_iload hx hb dX6_nearest_201 (lv_at hl 8 rfl) ?_
                                          refine lv_iconst (v := nI 1) hx hb dX6_nearest_203 (by decide) ?_
                                          refine lv_isub hx hb dX6_nearest_204 ?_
                                          refine lv_topi (fun x_220 ex_220 => ?_)
                                          obtain rfl : x_220 = nI ((a + 1) - 1) := by
                                            rw [ex_220]
                                            exact pk_sub (by omega)
                                          have hi_221 : vp_in (nI ((a + 1) - 1)) 150 := vp_in_nI (by omega) (by omega)
                                          refine va_lald hx hb hK hP 8 1 rfl rfl hi_221 dX6_nearest_205 ?_
                                          refine lv_topl (fun x_222 ex_222 => ?_)
                                          obtain rfl : x_222 = (shU fr1 (a + 1) (kk - 1)) ((a + 1) - 1) := by
                                            rw [ex_222]
                                            rw [nI_clamp (by omega)]
                                          have hi_223 : vp_in (nI (a + 1)) 150 := vp_in_nI (by omega) (by omega)
                                          refine va_last hx hb hK hP hD hS 8 1 rfl rfl hi_223 dX6_nearest_206 (fun H locs hP hD hS => ?_)
                                          rw [nI_clamp (by omega)] at hP hD
                                          rw [show vp_updL (shU fr1 (a + 1) (kk - 1)) (a + 1) ((shU fr1 (a + 1) (kk - 1)) ((a + 1) - 1)) = shU fr1 a (kk - 1) from (by have e9 := shU_stL (f := fr1) (i := a + 1) (n := (kk - 1)) (by omega) (by omega); rw [Nat.add_sub_cancel] at e9; exact e9)] at hP hD
                                          have hP : va_P X.1 vwCl [(m, .inr (6, [.int (nI bl), .int (nI bk), .int (nI b), .int (nI sp), .ref mn, .ref xr, .ref yr, .ref vr, .ref cr, .ref wr, .int (nI nc), .int (nI 0), .int f_ar, .ref wl, .ref wc, .int f_wt, .int f_lv, .int f_fi, .int f_en, .long f_cd, .ref rx, .ref ry, .ref rv, .ref fr, .int (nI (((Qm.take i).foldl (nSt x y kk) []).length))])), (mn, .inl (X.2.1, 2, .inl mf)), (xr, .inl (X.2.1, 6600, .inl xf)), (yr, .inl (X.2.1, 6600, .inl yf)), (vr, .inl (X.2.1, 6600, .inl vf)), (rx, .inl (X.2.1, 150, .inl (shU rx1 (a + 1) (kk - 1)))), (ry, .inl (X.2.1, 150, .inl (shU ry1 (a + 1) (kk - 1)))), (rv, .inl (X.2.1, 150, .inl (shU rv1 (a + 1) (kk - 1)))), (fr, .inl (X.2.2, 150, .inr (.inl (shU fr1 a (kk - 1)))))] H := hP
                                          have hD : va_D A_ [(m, .inr (6, [.int (nI bl), .int (nI bk), .int (nI b), .int (nI sp), .ref mn, .ref xr, .ref yr, .ref vr, .ref cr, .ref wr, .int (nI nc), .int (nI 0), .int f_ar, .ref wl, .ref wc, .int f_wt, .int f_lv, .int f_fi, .int f_en, .long f_cd, .ref rx, .ref ry, .ref rv, .ref fr, .int (nI (((Qm.take i).foldl (nSt x y kk) []).length))])), (mn, .inl (X.2.1, 2, .inl mf)), (xr, .inl (X.2.1, 6600, .inl xf)), (yr, .inl (X.2.1, 6600, .inl yf)), (vr, .inl (X.2.1, 6600, .inl vf)), (rx, .inl (X.2.1, 150, .inl (shU rx1 (a + 1) (kk - 1)))), (ry, .inl (X.2.1, 150, .inl (shU ry1 (a + 1) (kk - 1)))), (rv, .inl (X.2.1, 150, .inl (shU rv1 (a + 1) (kk - 1)))), (fr, .inl (X.2.2, 150, .inr (.inl (shU fr1 a (kk - 1)))))] := hD
                                          refine lv_aload_n hx hb dX6_nearest_207 rfl (lv_at hl 0 rfl) ?_
                                          refine va_get (D := X.1) (ci := 6) (v := .ref rx) (C := RX6) (T := TX6) (N := 25) hx hb hts hin6 hown hK hP 0 rfl rfl 20 (by decide) lk39 (fun _ h9 => h9) rfl dX6_nearest_208 ?_
                                          refine lv_iload hx hb dX6_nearest_211 (lv_at hl 8 rfl) ?_
                                          refine lv_aload_n hx hb dX6_nearest_213 rfl (lv_at hl 0 rfl) ?_
                                          refine va_get (D := X.1) (ci := 6) (v := .ref rx) (C := RX6) (T := TX6) (N := 25) hx hb hts hin6 hown hK hP 0 rfl rfl 20 (by decide) lk39 (fun _ h9 => h9) rfl dX6_nearest_214 ?_
                                          refine lv_iload hx hb dX6_nearest_217 (lv_at hl 8 rfl) ?_
                                          refine lv_iconst (v := nI 1) hx hb dX6_nearest_219 (by decide) ?_
                                          refine lv_isub hx hb dX6_nearest_220 ?_
                                          refine lv_topi (fun x_224 ex_224 => ?_)
                                          obtain rfl : x_224 = nI ((a + 1) - 1) := by
                                            rw [ex_224]
                                            exact pk_sub (by omega)
                                          have hi_225 : vp_in (nI ((a + 1) - 1)) 150 := vp_in_nI (by omega) (by omega)
                                          refine va_iald hx hb hK hP 5 0 rfl rfl hi_225 dX6_nearest_221 ?_
                                          refine lv_topi (fun x_226 ex_226 => ?_)
                                          obtain rfl : x_226 = (shU rx1 (a + 1) (kk - 1)) ((a + 1) - 1) := by
                                            rw [ex_226]
                                            rw [nI_clamp (by omega)]
                                          have hi_227 : vp_in (nI (a + 1)) 150 := vp_in_nI (by omega) (by omega)
                                          refine va_iast hx hb hK hP hD hS 5 0 rfl rfl hi_227 dX6_nearest_222 (fun H locs hP hD hS => ?_)
                                          rw [nI_clamp (by omega)] at hP hD
                                          rw [show upd (shU rx1 (a + 1) (kk - 1)) (a + 1) ((shU rx1 (a + 1) (kk - 1)) ((a + 1) - 1)) = shU rx1 a (kk - 1) from (by have e9 := shU_st (f := rx1) (i := a + 1) (n := (kk - 1)) (by omega) (by omega); rw [Nat.add_sub_cancel] at e9; exact e9)] at hP hD
                                          have hP : va_P X.1 vwCl [(m, .inr (6, [.int (nI bl), .int (nI bk), .int (nI b), .int (nI sp), .ref mn, .ref xr, .ref yr, .ref vr, .ref cr, .ref wr, .int (nI nc), .int (nI 0), .int f_ar, .ref wl, .ref wc, .int f_wt, .int f_lv, .int f_fi, .int f_en, .long f_cd, .ref rx, .ref ry, .ref rv, .ref fr, .int (nI (((Qm.take i).foldl (nSt x y kk) []).length))])), (mn, .inl (X.2.1, 2, .inl mf)), (xr, .inl (X.2.1, 6600, .inl xf)), (yr, .inl (X.2.1, 6600, .inl yf)), (vr, .inl (X.2.1, 6600, .inl vf)), (rx, .inl (X.2.1, 150, .inl (shU rx1 a (kk - 1)))), (ry, .inl (X.2.1, 150, .inl (shU ry1 (a + 1) (kk - 1)))), (rv, .inl (X.2.1, 150, .inl (shU rv1 (a + 1) (kk - 1)))), (fr, .inl (X.2.2, 150, .inr (.inl (shU fr1 a (kk - 1)))))] H := hP
                                          have hD : va_D A_ [(m, .inr (6, [.int (nI bl), .int (nI bk), .int (nI b), .int (nI sp), .ref mn, .ref xr, .ref yr, .ref vr, .ref cr, .ref wr, .int (nI nc), .int (nI 0), .int f_ar, .ref wl, .ref wc, .int f_wt, .int f_lv, .int f_fi, .int f_en, .long f_cd, .ref rx, .ref ry, .ref rv, .ref fr, .int (nI (((Qm.take i).foldl (nSt x y kk) []).length))])), (mn, .inl (X.2.1, 2, .inl mf)), (xr, .inl (X.2.1, 6600, .inl xf)), (yr, .inl (X.2.1, 6600, .inl yf)), (vr, .inl (X.2.1, 6600, .inl vf)), (rx, .inl (X.2.1, 150, .inl (shU rx1 a (kk - 1)))), (ry, .inl (X.2.1, 150, .inl (shU ry1 (a + 1) (kk - 1)))), (rv, .inl (X.2.1, 150, .inl (shU rv1 (a + 1) (kk - 1)))), (fr, .inl (X.2.2, 150, .inr (.inl (shU fr1 a (kk - 1)))))] := hD
                                          refine lv_aload_n hx hb dX6_nearest_223 rfl (lv_at hl 0 rfl) ?_
                                          refine va_get (D := X.1) (ci := 6) (v := .ref ry) (C := RX6) (T := TX6) (N := 25) hx hb hts hin6 hown hK hP 0 rfl rfl 21 (by decide) lk42 (fun _ h9 => h9) rfl dX6_nearest_224 ?_
                                          refine lv_iload hx hb dX6_nearest_227 (lv_at hl 8 rfl) ?_
                                          refine lv_aload_n hx hb dX6_nearest_229 rfl (lv_at hl 0 rfl) ?_
                                          refine va_get (D := X.1) (ci := 6) (v := .ref ry) (C := RX6) (T := TX6) (N := 25) hx hb hts hin6 hown hK hP 0 rfl rfl 21 (by decide) lk42 (fun _ h9 => h9) rfl dX6_nearest_230 ?_
                                          refine lv_iload hx hb dX6_nearest_233 (lv_at hl 8 rfl) ?_
                                          refine lv_iconst (v := nI 1) hx hb dX6_nearest_235 (by decide) ?_
                                          refine lv_isub hx hb dX6_nearest_236 ?_
                                          refine lv_topi (fun x_228 ex_228 => ?_)
                                          obtain rfl : x_228 = nI ((a + 1) - 1) := by
                                            rw [ex_228]
                                            exact pk_sub (by omega)
                                          have hi_229 : vp_in (nI ((a + 1) - 1)) 150 := vp_in_nI (by omega) (by omega)
                                          refine va_iald hx hb hK hP 6 0 rfl rfl hi_229 dX6_nearest_237 ?_
                                          refine lv_topi (fun x_230 ex_230 => ?_)
                                          obtain rfl : x_230 = (shU ry1 (a + 1) (kk - 1)) ((a + 1) - 1) := by
                                            rw [ex_230]
                                            rw [nI_clamp (by omega)]
                                          have hi_231 : vp_in (nI (a + 1)) 150 := vp_in_nI (by omega) (by omega)
                                          refine va_iast hx hb hK hP hD hS 6 0 rfl rfl hi_231 dX6_nearest_238 (fun H locs hP hD hS => ?_)
                                          rw [nI_clamp (by omega)] at hP hD
                                          rw [show upd (shU ry1 (a + 1) (kk - 1)) (a + 1) ((shU ry1 (a + 1) (kk - 1)) ((a + 1) - 1)) = shU ry1 a (kk - 1) from (by have e9 := shU_st (f := ry1) (i := a + 1) (n := (kk - 1)) (by omega) (by omega); rw [Nat.add_sub_cancel] at e9; exact e9)] at hP hD
                                          have hP : va_P X.1 vwCl [(m, .inr (6, [.int (nI bl), .int (nI bk), .int (nI b), .int (nI sp), .ref mn, .ref xr, .ref yr, .ref vr, .ref cr, .ref wr, .int (nI nc), .int (nI 0), .int f_ar, .ref wl, .ref wc, .int f_wt, .int f_lv, .int f_fi, .int f_en, .long f_cd, .ref rx, .ref ry, .ref rv, .ref fr, .int (nI (((Qm.take i).foldl (nSt x y kk) []).length))])), (mn, .inl (X.2.1, 2, .inl mf)), (xr, .inl (X.2.1, 6600, .inl xf)), (yr, .inl (X.2.1, 6600, .inl yf)), (vr, .inl (X.2.1, 6600, .inl vf)), (rx, .inl (X.2.1, 150, .inl (shU rx1 a (kk - 1)))), (ry, .inl (X.2.1, 150, .inl (shU ry1 a (kk - 1)))), (rv, .inl (X.2.1, 150, .inl (shU rv1 (a + 1) (kk - 1)))), (fr, .inl (X.2.2, 150, .inr (.inl (shU fr1 a (kk - 1)))))] H := hP
                                          have hD : va_D A_ [(m, .inr (6, [.int (nI bl), .int (nI bk), .int (nI b), .int (nI sp), .ref mn, .ref xr, .ref yr, .ref vr, .ref cr, .ref wr, .int (nI nc), .int (nI 0), .int f_ar, .ref wl, .ref wc, .int f_wt, .int f_lv, .int f_fi, .int f_en, .long f_cd, .ref rx, .ref ry, .ref rv, .ref fr, .int (nI (((Qm.take i).foldl (nSt x y kk) []).length))])), (mn, .inl (X.2.1, 2, .inl mf)), (xr, .inl (X.2.1, 6600, .inl xf)), (yr, .inl (X.2.1, 6600, .inl yf)), (vr, .inl (X.2.1, 6600, .inl vf)), (rx, .inl (X.2.1, 150, .inl (shU rx1 a (kk - 1)))), (ry, .inl (X.2.1, 150, .inl (shU ry1 a (kk - 1)))), (rv, .inl (X.2.1, 150, .inl (shU rv1 (a + 1) (kk - 1)))), (fr, .inl (X.2.2, 150, .inr (.inl (shU fr1 a (kk - 1)))))] := hD
                                          refine lv_aload_n hx hb dX6_nearest_239 rfl (lv_at hl 0 rfl) ?_
                                          refine va_get (D := X.1) (ci := 6) (v := .ref rv) (C := RX6) (T := TX6) (N := 25) hx hb hts hin6 hown hK hP 0 rfl rfl 22 (by decide) lk45 (fun _ h9 => h9) rfl dX6_nearest_240 ?_
                                          refine lv_iload hx hb dX6_nearest_243 (lv_at hl 8 rfl) ?_
                                          refine lv_aload_n hx hb dX6_nearest_245 rfl (lv_at hl 0 rfl) ?_
                                          refine va_get (D := X.1) (ci := 6) (v := .ref rv) (C := RX6) (T := TX6) (N := 25) hx hb hts hin6 hown hK hP 0 rfl rfl 22 (by decide) lk45 (fun _ h9 => h9) rfl dX6_nearest_246 ?_
                                          refine lv_iload hx hb dX6_nearest_249 (lv_at hl 8 rfl) ?_
                                          refine lv_iconst (v := nI 1) hx hb dX6_nearest_251 (by decide) ?_
                                          refine lv_isub hx hb dX6_nearest_252 ?_
                                          refine lv_topi (fun x_232 ex_232 => ?_)
                                          obtain rfl : x_232 = nI ((a + 1) - 1) := by
                                            rw [ex_232]
                                            exact pk_sub (by omega)
                                          have hi_233 : vp_in (nI ((a + 1) - 1)) 150 := vp_in_nI (by omega) (by omega)
                                          refine va_iald hx hb hK hP 7 0 rfl rfl hi_233 dX6_nearest_253 ?_
                                          refine lv_topi (fun x_234 ex_234 => ?_)
                                          obtain rfl : x_234 = (shU rv1 (a + 1) (kk - 1)) ((a + 1) - 1) := by
                                            rw [ex_234]
                                            rw [nI_clamp (by omega)]
                                          have hi_235 : vp_in (nI (a + 1)) 150 := vp_in_nI (by omega) (by omega)
                                          refine va_iast hx hb hK hP hD hS 7 0 rfl rfl hi_235 dX6_nearest_254 (fun H locs hP hD hS => ?_)
                                          rw [nI_clamp (by omega)] at hP hD
                                          rw [show upd (shU rv1 (a + 1) (kk - 1)) (a + 1) ((shU rv1 (a + 1) (kk - 1)) ((a + 1) - 1)) = shU rv1 a (kk - 1) from (by have e9 := shU_st (f := rv1) (i := a + 1) (n := (kk - 1)) (by omega) (by omega); rw [Nat.add_sub_cancel] at e9; exact e9)] at hP hD
                                          have hP : va_P X.1 vwCl [(m, .inr (6, [.int (nI bl), .int (nI bk), .int (nI b), .int (nI sp), .ref mn, .ref xr, .ref yr, .ref vr, .ref cr, .ref wr, .int (nI nc), .int (nI 0), .int f_ar, .ref wl, .ref wc, .int f_wt, .int f_lv, .int f_fi, .int f_en, .long f_cd, .ref rx, .ref ry, .ref rv, .ref fr, .int (nI (((Qm.take i).foldl (nSt x y kk) []).length))])), (mn, .inl (X.2.1, 2, .inl mf)), (xr, .inl (X.2.1, 6600, .inl xf)), (yr, .inl (X.2.1, 6600, .inl yf)), (vr, .inl (X.2.1, 6600, .inl vf)), (rx, .inl (X.2.1, 150, .inl (shU rx1 a (kk - 1)))), (ry, .inl (X.2.1, 150, .inl (shU ry1 a (kk - 1)))), (rv, .inl (X.2.1, 150, .inl (shU rv1 a (kk - 1)))), (fr, .inl (X.2.2, 150, .inr (.inl (shU fr1 a (kk - 1)))))] H := hP
                                          have hD : va_D A_ [(m, .inr (6, [.int (nI bl), .int (nI bk), .int (nI b), .int (nI sp), .ref mn, .ref xr, .ref yr, .ref vr, .ref cr, .ref wr, .int (nI nc), .int (nI 0), .int f_ar, .ref wl, .ref wc, .int f_wt, .int f_lv, .int f_fi, .int f_en, .long f_cd, .ref rx, .ref ry, .ref rv, .ref fr, .int (nI (((Qm.take i).foldl (nSt x y kk) []).length))])), (mn, .inl (X.2.1, 2, .inl mf)), (xr, .inl (X.2.1, 6600, .inl xf)), (yr, .inl (X.2.1, 6600, .inl yf)), (vr, .inl (X.2.1, 6600, .inl vf)), (rx, .inl (X.2.1, 150, .inl (shU rx1 a (kk - 1)))), (ry, .inl (X.2.1, 150, .inl (shU ry1 a (kk - 1)))), (rv, .inl (X.2.1, 150, .inl (shU rv1 a (kk - 1)))), (fr, .inl (X.2.2, 150, .inr (.inl (shU fr1 a (kk - 1)))))] := hD
                                          refine lv_iload hx hb dX6_nearest_255 (lv_at hl 8 rfl) ?_
                                          refine lv_iconst (v := nI 1) hx hb dX6_nearest_257 (by decide) ?_
                                          refine lv_isub hx hb dX6_nearest_258 ?_
                                          refine lv_topi (fun x_236 ex_236 => ?_)
                                          obtain rfl : x_236 = nI ((a + 1) - 1) := by
                                            rw [ex_236]
                                            exact pk_sub (by omega)
                                          refine lv_istore (lv' := [(13, .int (nI ((a + 1) - 1))), (0, .ref m), (1, .int (nI 1)), (2, .int x), (3, .int y), (4, .int kq), (5, .int (nI i)), (6, .int (nI ((3300 * 1) + i))), (11, .long (dst (pK Qm i) x y))]) hx hb dX6_nearest_259 hl (by decide) rfl (fun ls hl => ?_)
                                          refine lv_goto (tgt := 171) hx hb dX6_nearest_261 (by decide) ?_
                                          have hstep : ∀ j, a ≤ j → j < ((Qm.take i).foldl (nSt x y kk) []).length → (dst (pK Qm i) x y) < (((Qm.take i).foldl (nSt x y kk) []).getD j nr0).2.2 := fun j h8 h9 => by
                                            rcases Nat.eq_or_lt_of_le h8 with z | z
                                            · rw [← z]; exact hgt
                                            · exact h2 j z h9
                                          exact ih171 a (by omega) (by exact hstep) (by omega) _ _ hP hD hS ls (lv_sub hl [1, 2, 3, 4, 5, 6, 7, 8, 0] rfl)
                                have h2i : ∀ j, (kk - 1) ≤ j → j < ((Qm.take i).foldl (nSt x y kk) []).length → (dst (pK Qm i) x y) < (((Qm.take i).foldl (nSt x y kk) []).getD j nr0).2.2 := fun j h8 h9 => by
                                  obtain rfl : j = kk - 1 := by omega
                                  exact lg_gt0 c_146
                                rw [← shU_0 rx1 (kk - 1), ← shU_0 ry1 (kk - 1), ← shU_0 rv1 (kk - 1), ← shU_0 fr1 (kk - 1)] at hP hD
                                exact loop_171 _ (kk - 1) (by omega) (by exact h2i) (Nat.lt_succ_self _) _ _ hP hD hS ls (lv_sub hl [5, 6, 7, 8, 9, 10, 4, 1, 0] rfl)
                              · skip
                                refine lv_goto (tgt := 315) hx hb dX6_nearest_149 (by decide) ?_
                                refine lv_iinc (v := nI (i + 1)) (lv' := [(5, .int (nI (i + 1))), (13, .int (nI (((Qm.take i).foldl (nSt x y kk) []).length))), (11, .long (dst (pK Qm i) x y)), (9, .long (((nI (pK Qm i % 32768)) - y).toInt64)), (7, .long (((nI (pK Qm i / 32768)) - x).toInt64)), (6, .int (nI ((3300 * 1) + i))), (0, .ref m), (1, .int (nI 1)), (2, .int x), (3, .int y), (4, .int kq)]) hx hb dX6_nearest_315 hl (k := 10) rfl (by rw [show Int32.ofInt 1 = nI 1 from by decide]; exact nI_add _ _) (by decide) rfl (fun ls hl => ?_)
                                refine lv_goto (tgt := 61) hx hb dX6_nearest_318 (by decide) ?_
                                have hnx : ((Qm.take (i + 1)).foldl (nSt x y kk) []) = ((Qm.take i).foldl (nSt x y kk) []) := by
                                  rw [n_step (by omega)]
                                  exact nr_same hnl (by show kk ≤ posD ((Qm.take i).foldl (nSt x y kk) []) (dst (pK Qm i) x y); rw [posD_len (by rw [c_131]; exact lg_ngt0 c_146)]; omega)
                                rw [← hnx] at hP hD
                                exact ih61 (i + 1) rx1 ry1 rv1 fr1 (by omega) (by rw [hnx]; exact hr1) (by omega) _ _ hP hD hS ls (lv_sub hl [6, 7, 8, 9, 10, 0] rfl)
                      exact loop_61 _ 0 rxf ryf rvf frf (by omega) (by exact mN_nil) (Nat.lt_succ_self _) _ _ hP hD hS ls (lv_sub hl [1, 2, 3, 4, 5, 0] rfl)
                    · skip
                      refine lv_iconst (v := (-1)) hx hb dX6_nearest_51 (by decide) ?_
                      refine wM hQ ?_
                      exact rtI (rxf, ryf, rvf, frf, R) hx hb hr hlocks hP hS (⟨h3, by show (-1, R) = _; rw [sel_1 rfl]; exact (cif_neg (fun z => by first | exact z.1.1 c_18 | exact z.1.2 c_24 | exact z.2.1.1 c_28 | exact z.2.1.2 c_34 | exact z.2.2.1 c_40 | exact c_48 (Int32.not_lt.mp z.2.2.2))).symm⟩) dX6_nearest_52
      · skip
        exact absurd (Or.inr rfl) hc_11
    · skip
      skip
      refine lv_iload_n hx hb dX6_nearest_10 rfl (lv_at hl 1 rfl) ?_
      refine ckSRi (As := [.int s_]) (rest := []) [] (c_X6_isState l X s_) ⟨hx, hb, hml, hown, hts⟩ (va_cwS 1 hts gX6_nearest_X6_isState rfl rfl rfl (by decide +kernel) ⟨Nat.le_of_ble_eq_true rfl, Nat.le_of_ble_eq_true rfl⟩) hK hN hP hD (by decide) rfl rfl hl.1 rfl (Nat.le_of_ble_eq_true rfl) dX6_nearest_11 ⟨Nat.zero_le _, Nat.zero_le _⟩ (fun r_237 hc_11 => ?_)
      rcases hc_11 with ⟨hc_11, rfl⟩ | ⟨hc_11, rfl⟩
      · skip
        exact absurd hc_11 (fun z => z.elim hs.1 hs.2)
      · skip
        refine lv_if_eq (tgt := 51) hx hb dX6_nearest_14 (by decide) (fun c_14 => ?_) (fun c_14 => ?_)
        · skip
          refine lv_iconst (v := (-1)) hx hb dX6_nearest_51 (by decide) ?_
          refine wM hQ ?_
          exact rtI (rxf, ryf, rvf, frf, R) hx hb hr hlocks hP hS (⟨h3, by show (-1, R) = _; rw [sel_n hs.1 hs.2]; rfl⟩) dX6_nearest_52
        · exact absurd c_14 (by decide)
  · exact absurd c_4 (by decide)
set_option maxHeartbeats 4000000 in
set_option maxRecDepth 100000 in
theorem c_X6_differs (l : Launch) (X : kX) (m bl bk b sp mn xr yr vr cr wr nc wl wc rx ry rv fr : Nat) (f_ar f_wt f_lv f_fi f_en : Int32) (f_cd : Int64) (rxf ryf rvf : Nat → Int32) (R : RSL) (h3 : mR rxf ryf rvf R) (mf xf yf vf wf : Nat → Int32) (cf : Nat → Int64) (P ZP Qm ZQm : PL) (h0 : mSt b mf xf yf vf wf cf 0 P ZP) (h1 : mSt b mf xf yf vf wf cf 1 Qm ZQm) : CWi l X yX6_differs wsX6_differs 1 [.ref m] [(m, .inr (6, [.int (nI bl), .int (nI bk), .int (nI b), .int (nI sp), .ref mn, .ref xr, .ref yr, .ref vr, .ref cr, .ref wr, .int (nI nc), .int (nI 0), .int f_ar, .ref wl, .ref wc, .int f_wt, .int f_lv, .int f_fi, .int f_en, .long f_cd, .ref rx, .ref ry, .ref rv, .ref fr, .int (nI R.length)])), (mn, .inl (X.2.1, 2, .inl mf)), (xr, .inl (X.2.1, 6600, .inl xf)), (yr, .inl (X.2.1, 6600, .inl yf)), (vr, .inl (X.2.1, 6600, .inl vf)), (rx, .inl (X.2.1, 150, .inl rxf)), (ry, .inl (X.2.1, 150, .inl ryf)), (rv, .inl (X.2.1, 150, .inl rvf))] (S := (Nat → Int32) × (Nat → Int32) × (Nat → Int32) × RSL) (fun r u => mR u.1 u.2.1 u.2.2.1 u.2.2.2 ∧ (r, u.2.2.2) = (nI (difA P Qm ([], 0)).2, (difA P Qm ([], 0)).1)) (fun ⟨rx2, ry2, rv2, R2⟩ => [(m, .inr (6, [.int (nI bl), .int (nI bk), .int (nI b), .int (nI sp), .ref mn, .ref xr, .ref yr, .ref vr, .ref cr, .ref wr, .int (nI nc), .int (nI 0), .int f_ar, .ref wl, .ref wc, .int f_wt, .int f_lv, .int f_fi, .int f_en, .long f_cd, .ref rx, .ref ry, .ref rv, .ref fr, .int (nI R2.length)])), (mn, .inl (X.2.1, 2, .inl mf)), (xr, .inl (X.2.1, 6600, .inl xf)), (yr, .inl (X.2.1, 6600, .inl yf)), (vr, .inl (X.2.1, 6600, .inl vf)), (rx, .inl (X.2.1, 150, .inl rx2)), (ry, .inl (X.2.1, 150, .inl ry2)), (rv, .inl (X.2.1, 150, .inl rv2))]) := by
  refine Met.ofW (cc := cX6_differs) (maxL := 7) (ret := some (.int)) (by decide) rfl ?_
  intro pz ez sz mz args below meth cz s₁ Bz hml hv
  obtain ⟨rfl, hP, hK, hD0, hN⟩ := hv
  have hx := Bz.exec
  have hb := Bz.bytes
  have hr := Bz.returns
  have hts := atoms_spec (ws := wsX6_differs) Bz.pre
  have hown : sz.vm.findClass RX6 = some mz.cls := findClass_of_methodNamed Bz.named
  have hlocks := Bz.notSynchronized
  have hD := inW.self hD0
  have hS : va_S (inW [(m, .inr (6, [.int (nI bl), .int (nI bk), .int (nI b), .int (nI sp), .ref mn, .ref xr, .ref yr, .ref vr, .ref cr, .ref wr, .int (nI nc), .int (nI 0), .int f_ar, .ref wl, .ref wc, .int f_wt, .int f_lv, .int f_fi, .int f_en, .long f_cd, .ref rx, .ref ry, .ref rv, .ref fr, .int (nI R.length)])), (mn, .inl (X.2.1, 2, .inl mf)), (xr, .inl (X.2.1, 6600, .inl xf)), (yr, .inl (X.2.1, 6600, .inl yf)), (vr, .inl (X.2.1, 6600, .inl vf)), (rx, .inl (X.2.1, 150, .inl rxf)), (ry, .inl (X.2.1, 150, .inl ryf)), (rv, .inl (X.2.1, 150, .inl rvf))]) sz.heap sz.heap [] := va_S.rf
  have hl := lv_entry ([.ref m]) (n := 7) (Nat.le_of_ble_eq_true rfl)
  rw [lg_entry_eq]
  generalize (lg_sl ([.ref m]) ++ List.replicate (7 - (lg_sl ([.ref m])).length) Slot.unset).toArray = ls at hl ⊢
  have hl : lv_has ls 7 [(0, .ref m)] := hl
  have lk7 := hts (.fieldLink RX6 7 "PointStoreModel" "many" "[I") (by decide +kernel)
  have lk13 := hts (.fieldLink RX6 13 "PointStoreModel" "xs" "[I") (by decide +kernel)
  have lk16 := hts (.fieldLink RX6 16 "PointStoreModel" "ys" "[I") (by decide +kernel)
  have lk19 := hts (.fieldLink RX6 19 "PointStoreModel" "values" "[I") (by decide +kernel)
  have lk105 := hts (.fieldLink RX6 105 "PointStoreModel" "isOff" "Z") (by decide +kernel)
  have lk137 := hts (.fieldLink RX6 137 "PointStoreModel" "results" "I") (by decide +kernel)
  have hin6 : ∀ w ∈ u_ws RX6 TX6 25, w ∈ wsX6_differs := by decide +kernel
  refine wQ (fun Q hQ => ?_)
  generalize hAe : inW [(m, .inr (6, [.int (nI bl), .int (nI bk), .int (nI b), .int (nI sp), .ref mn, .ref xr, .ref yr, .ref vr, .ref cr, .ref wr, .int (nI nc), .int (nI 0), .int f_ar, .ref wl, .ref wc, .int f_wt, .int f_lv, .int f_fi, .int f_en, .long f_cd, .ref rx, .ref ry, .ref rv, .ref fr, .int (nI R.length)])), (mn, .inl (X.2.1, 2, .inl mf)), (xr, .inl (X.2.1, 6600, .inl xf)), (yr, .inl (X.2.1, 6600, .inl yf)), (vr, .inl (X.2.1, 6600, .inl vf)), (rx, .inl (X.2.1, 150, .inl rxf)), (ry, .inl (X.2.1, 150, .inl ryf)), (rv, .inl (X.2.1, 150, .inl rvf))] = A_ at hD hS hQ
  have hp1 := h0.L.1
  have hp2 := h1.L.1
  have hR := h3.1
  refine lv_aload_n hx hb dX6_differs_0 rfl (lv_at hl 0 rfl) ?_
  refine va_get (D := X.1) (ci := 6) (v := .int (nI 0)) (C := RX6) (T := TX6) (N := 25) hx hb hts hin6 hown hK hP 0 rfl rfl 11 (by decide) lk105 (fun _ h9 => h9) rfl dX6_differs_1 ?_
  refine lv_if_eq (tgt := 10) hx hb dX6_differs_4 (by decide) (fun c_4 => ?_) (fun c_4 => ?_)
  · skip
    refine lv_aload_n hx hb dX6_differs_10 rfl (lv_at hl 0 rfl) ?_
    refine lv_iconst (v := nI 0) hx hb dX6_differs_11 (by decide) ?_
    refine va_put (D := X.1) (ci := 6) (v := .int (nI 0)) (ty := .int) (C := RX6) (T := TX6) (N := 25) hx hb hts hin6 tyX6 tyX6_ok nmX6 hown hK hP hD hS 0 rfl rfl 24 (by decide) lk137 (fun _ h9 => h9) rfl (by decide +kernel) rfl rfl (Nat.le_of_ble_eq_true rfl) dX6_differs_12 (fun H locs hP hD hS => ?_)
    have hP : va_P X.1 vwCl [(m, .inr (6, [.int (nI bl), .int (nI bk), .int (nI b), .int (nI sp), .ref mn, .ref xr, .ref yr, .ref vr, .ref cr, .ref wr, .int (nI nc), .int (nI 0), .int f_ar, .ref wl, .ref wc, .int f_wt, .int f_lv, .int f_fi, .int f_en, .long f_cd, .ref rx, .ref ry, .ref rv, .ref fr, .int (nI 0)])), (mn, .inl (X.2.1, 2, .inl mf)), (xr, .inl (X.2.1, 6600, .inl xf)), (yr, .inl (X.2.1, 6600, .inl yf)), (vr, .inl (X.2.1, 6600, .inl vf)), (rx, .inl (X.2.1, 150, .inl rxf)), (ry, .inl (X.2.1, 150, .inl ryf)), (rv, .inl (X.2.1, 150, .inl rvf))] H := hP
    have hD : va_D A_ [(m, .inr (6, [.int (nI bl), .int (nI bk), .int (nI b), .int (nI sp), .ref mn, .ref xr, .ref yr, .ref vr, .ref cr, .ref wr, .int (nI nc), .int (nI 0), .int f_ar, .ref wl, .ref wc, .int f_wt, .int f_lv, .int f_fi, .int f_en, .long f_cd, .ref rx, .ref ry, .ref rv, .ref fr, .int (nI 0)])), (mn, .inl (X.2.1, 2, .inl mf)), (xr, .inl (X.2.1, 6600, .inl xf)), (yr, .inl (X.2.1, 6600, .inl yf)), (vr, .inl (X.2.1, 6600, .inl vf)), (rx, .inl (X.2.1, 150, .inl rxf)), (ry, .inl (X.2.1, 150, .inl ryf)), (rv, .inl (X.2.1, 150, .inl rvf))] := hD
    refine lv_iconst (v := nI 0) hx hb dX6_differs_15 (by decide) ?_
    refine lv_istore_n (lv' := [(1, .int (nI 0)), (0, .ref m)]) hx hb dX6_differs_16 rfl hl (by decide) rfl (fun ls hl => ?_)
    refine lv_iconst (v := nI 0) hx hb dX6_differs_17 (by decide) ?_
    refine lv_istore_n (lv' := [(2, .int (nI 0)), (1, .int (nI 0)), (0, .ref m)]) hx hb dX6_differs_18 rfl hl (by decide) rfl (fun ls hl => ?_)
    refine lv_iconst (v := nI 0) hx hb dX6_differs_19 (by decide) ?_
    refine lv_istore_n (lv' := [(3, .int (nI 0)), (2, .int (nI 0)), (1, .int (nI 0)), (0, .ref m)]) hx hb dX6_differs_20 rfl hl (by decide) rfl (fun ls hl => ?_)
    have loop_21 : ∀ (fu : Nat) (i : Nat) (j : Nat) (acc : RSL × Nat) (rx1 : Nat → Int32) (ry1 : Nat → Int32) (rv1 : Nat → Int32), (i ≤ P.length) → (j ≤ Qm.length) → (difA (P.drop i) (Qm.drop j) acc = difA P Qm ([], 0)) → (mR rx1 ry1 rv1 acc.1) → (acc.1.length = min acc.2 150) → (acc.2 ≤ i + j) → (P.length - i) + (Qm.length - j) < fu → ∀ (H : Heap) (locs : List Loc), va_P X.1 vwCl [(m, .inr (6, [.int (nI bl), .int (nI bk), .int (nI b), .int (nI sp), .ref mn, .ref xr, .ref yr, .ref vr, .ref cr, .ref wr, .int (nI nc), .int (nI 0), .int f_ar, .ref wl, .ref wc, .int f_wt, .int f_lv, .int f_fi, .int f_en, .long f_cd, .ref rx, .ref ry, .ref rv, .ref fr, .int (nI acc.1.length)])), (mn, .inl (X.2.1, 2, .inl mf)), (xr, .inl (X.2.1, 6600, .inl xf)), (yr, .inl (X.2.1, 6600, .inl yf)), (vr, .inl (X.2.1, 6600, .inl vf)), (rx, .inl (X.2.1, 150, .inl rx1)), (ry, .inl (X.2.1, 150, .inl ry1)), (rv, .inl (X.2.1, 150, .inl rv1))] H → va_D A_ [(m, .inr (6, [.int (nI bl), .int (nI bk), .int (nI b), .int (nI sp), .ref mn, .ref xr, .ref yr, .ref vr, .ref cr, .ref wr, .int (nI nc), .int (nI 0), .int f_ar, .ref wl, .ref wc, .int f_wt, .int f_lv, .int f_fi, .int f_en, .long f_cd, .ref rx, .ref ry, .ref rv, .ref fr, .int (nI acc.1.length)])), (mn, .inl (X.2.1, 2, .inl mf)), (xr, .inl (X.2.1, 6600, .inl xf)), (yr, .inl (X.2.1, 6600, .inl yf)), (vr, .inl (X.2.1, 6600, .inl vf)), (rx, .inl (X.2.1, 150, .inl rx1)), (ry, .inl (X.2.1, 150, .inl ry1)), (rv, .inl (X.2.1, 150, .inl rv1))] → va_S A_ sz.heap H locs → ∀ (ls : Array Slot), lv_has ls 7 [(0, .ref m), (1, .int (nI acc.2)), (2, .int (nI i)), (3, .int (nI j))] → W pz l ez (headSpec wsX6_differs (rmk 1)).room sz mz ([.ref m].toArray) below meth cz H locs 0 0 Q (F0 mz 21 ls []) := by
      intro fu
      induction fu with
      | zero => intro i j acc rx1 ry1 rv1 hi0 hj0 h4 hr1 hmn hac hfu; exact absurd hfu (Nat.not_lt_zero _)
      | succ fu ih21 =>
        intro i j acc rx1 ry1 rv1 hi0 hj0 h4 hr1 hmn hac hfu H locs hP hD hS ls hl
        rcases d_cases (P := P) (C := Qm) i j with ⟨hi, hj⟩ | ⟨hi, hj⟩ | ⟨hi, hj, hlt⟩ | ⟨hi, hj, hlt⟩ | ⟨hi, hj, hlt⟩ | ⟨hi, hj⟩
        · skip
          have hb1 := h0.L.kb hi
          have hb3 := h0.L.vb hi
          refine lv_iload_n hx hb dX6_differs_21 rfl (lv_at hl 2 rfl) ?_
          refine lv_aload_n hx hb dX6_differs_22 rfl (lv_at hl 0 rfl) ?_
          refine va_get (D := X.1) (ci := 6) (v := .ref mn) (C := RX6) (T := TX6) (N := 25) hx hb hts hin6 hown hK hP 0 rfl rfl 4 (by decide) lk7 (fun _ h9 => h9) rfl dX6_differs_23 ?_
          refine lv_iconst (v := nI 0) hx hb dX6_differs_26 (by decide) ?_
          have hi_1 : vp_in (nI 0) 2 := vp_in_nI (by omega) (by omega)
          refine va_iald hx hb hK hP 1 0 rfl rfl hi_1 dX6_differs_27 ?_
          refine lv_topi (fun x_2 ex_2 => ?_)
          obtain rfl : x_2 = mf 0 := by
            rw [ex_2]
            rw [nI_clamp (by omega)]
          refine lv_topi (fun x_3 ex_3 => ?_)
          obtain rfl : x_3 = nI P.length := by
            rw [ex_3]
            exact h0.m
          refine lv_icmp_lt (tgt := 41) hx hb dX6_differs_28 (by decide) (fun c_28 => ?_) (fun c_28 => ?_)
          · replace c_28 : i < P.length := (nI_ltI (by omega) (by omega)).mp c_28
            refine lv_iload_n hx hb dX6_differs_41 rfl (lv_at hl 2 rfl) ?_
            refine lv_istore (lv' := [(4, .int (nI i)), (0, .ref m), (1, .int (nI acc.2)), (2, .int (nI i)), (3, .int (nI j))]) hx hb dX6_differs_42 hl (by decide) rfl (fun ls hl => ?_)
            refine lv_sipush (v := nI 3300) hx hb dX6_differs_44 (by decide) ?_
            refine lv_iload_n hx hb dX6_differs_47 rfl (lv_at hl 4 rfl) ?_
            refine lv_iadd hx hb dX6_differs_48 ?_
            refine lv_topi (fun x_4 ex_4 => ?_)
            obtain rfl : x_4 = nI (3300 + j) := by
              rw [ex_4]
              exact nI_add _ _
            refine lv_istore (lv' := [(5, .int (nI (3300 + j))), (4, .int (nI i)), (0, .ref m), (1, .int (nI acc.2)), (2, .int (nI i)), (3, .int (nI j))]) hx hb dX6_differs_49 hl (by decide) rfl (fun ls hl => ?_)
            refine lv_iload_n hx hb dX6_differs_51 rfl (lv_at hl 4 rfl) ?_
            refine lv_aload_n hx hb dX6_differs_52 rfl (lv_at hl 2 rfl) ?_
            refine va_get (D := X.1) (ci := 6) (v := .ref mn) (C := RX6) (T := TX6) (N := 25) hx hb hts hin6 hown hK hP 0 rfl rfl 4 (by decide) lk7 (fun _ h9 => h9) rfl dX6_differs_53 ?_
            refine lv_iconst (v := nI 0) hx hb dX6_differs_56 (by decide) ?_
            have hi_5 : vp_in (nI 0) 2 := vp_in_nI (by omega) (by omega)
            refine va_iald hx hb hK hP 1 0 rfl rfl hi_5 dX6_differs_57 ?_
            refine lv_topi (fun x_6 ex_6 => ?_)
            obtain rfl : x_6 = mf 0 := by
              rw [ex_6]
              rw [nI_clamp (by omega)]
            refine lv_topi (fun x_7 ex_7 => ?_)
            obtain rfl : x_7 = nI P.length := by
              rw [ex_7]
              exact h0.m
            refine lv_icmp_ne (tgt := 65) hx hb dX6_differs_58 (by decide) (fun c_58 => ?_) (fun c_58 => ?_)
            · replace c_58 : ¬ i = P.length := fun h9 => c_58 ((nI_eq (by omega) (by omega)).mpr h9)
              refine lv_iload_n hx hb dX6_differs_65 rfl (lv_at hl 5 rfl) ?_
              refine lv_aload_n hx hb dX6_differs_66 rfl (lv_at hl 2 rfl) ?_
              refine va_get (D := X.1) (ci := 6) (v := .ref mn) (C := RX6) (T := TX6) (N := 25) hx hb hts hin6 hown hK hP 0 rfl rfl 4 (by decide) lk7 (fun _ h9 => h9) rfl dX6_differs_67 ?_
              refine lv_iconst (v := nI 1) hx hb dX6_differs_70 (by decide) ?_
              have hi_8 : vp_in (nI 1) 2 := vp_in_nI (by omega) (by omega)
              refine va_iald hx hb hK hP 1 0 rfl rfl hi_8 dX6_differs_71 ?_
              refine lv_topi (fun x_9 ex_9 => ?_)
              obtain rfl : x_9 = mf 1 := by
                rw [ex_9]
                rw [nI_clamp (by omega)]
              refine lv_topi (fun x_10 ex_10 => ?_)
              obtain rfl : x_10 = nI Qm.length := by
                rw [ex_10]
                exact h1.m
              refine lv_icmp_ne (tgt := 79) hx hb dX6_differs_72 (by decide) (fun c_72 => ?_) (fun c_72 => ?_)
              · replace c_72 : ¬ j = Qm.length := fun h9 => c_72 ((nI_eq (by omega) (by omega)).mpr h9)
                omega
              · replace c_72 : j = Qm.length := (nI_eq (by omega) (by omega)).mp c_72
                refine lv_iconst (v := (-1)) hx hb dX6_differs_75 (by decide) ?_
                refine lv_goto (tgt := 129) hx hb dX6_differs_76 (by decide) ?_
                refine lv_istore (lv' := [(6, .int (-1)), (5, .int (nI (3300 + j))), (4, .int (nI i)), (0, .ref m), (1, .int (nI acc.2)), (2, .int (nI i)), (3, .int (nI j))]) hx hb dX6_differs_129 hl (by decide) rfl (fun ls hl => ?_)
                refine lv_iload hx hb dX6_differs_131 (lv_at hl 0 rfl) ?_
                refine lv_if_ge (tgt := 169) hx hb dX6_differs_133 (by decide) (fun c_133 => ?_) (fun c_133 => ?_)
                · exact absurd c_133 (by decide)
                · skip
                  refine lv_aload_n hx hb dX6_differs_136 rfl (lv_at hl 3 rfl) ?_
                  refine lv_iload_n hx hb dX6_differs_137 rfl (lv_at hl 4 rfl) ?_
                  refine lv_aload_n hx hb dX6_differs_138 rfl (lv_at hl 3 rfl) ?_
                  refine va_get (D := X.1) (ci := 6) (v := .ref xr) (C := RX6) (T := TX6) (N := 25) hx hb hts hin6 hown hK hP 0 rfl rfl 5 (by decide) lk13 (fun _ h9 => h9) rfl dX6_differs_139 ?_
                  refine lv_iload hx hb dX6_differs_142 (lv_at hl 2 rfl) ?_
                  have hi_11 : vp_in (nI i) 6600 := vp_in_nI (by omega) (by omega)
                  refine va_iald hx hb hK hP 2 0 rfl rfl hi_11 dX6_differs_144 ?_
                  refine lv_topi (fun x_12 ex_12 => ?_)
                  obtain rfl : x_12 = xf i := by
                    rw [ex_12]
                    rw [nI_clamp (by omega)]
                  refine lv_topi (fun x_13 ex_13 => ?_)
                  obtain rfl : x_13 = nI (pK P i / 32768) := by
                    rw [ex_13]
                    have e9 := (h0.X i (by omega)).1
                    first | exact e9 | (rw [Nat.mul_zero, Nat.zero_add] at e9; exact e9) | (rw [Nat.mul_one] at e9; exact e9)
                  refine lv_aload_n hx hb dX6_differs_145 rfl (lv_at hl 3 rfl) ?_
                  refine va_get (D := X.1) (ci := 6) (v := .ref yr) (C := RX6) (T := TX6) (N := 25) hx hb hts hin6 hown hK hP 0 rfl rfl 6 (by decide) lk16 (fun _ h9 => h9) rfl dX6_differs_146 ?_
                  refine lv_iload hx hb dX6_differs_149 (lv_at hl 2 rfl) ?_
                  have hi_14 : vp_in (nI i) 6600 := vp_in_nI (by omega) (by omega)
                  refine va_iald hx hb hK hP 3 0 rfl rfl hi_14 dX6_differs_151 ?_
                  refine lv_topi (fun x_15 ex_15 => ?_)
                  obtain rfl : x_15 = yf i := by
                    rw [ex_15]
                    rw [nI_clamp (by omega)]
                  refine lv_topi (fun x_16 ex_16 => ?_)
                  obtain rfl : x_16 = nI (pK P i % 32768) := by
                    rw [ex_16]
                    have e9 := (h0.X i (by omega)).2
                    first | exact e9 | (rw [Nat.mul_zero, Nat.zero_add] at e9; exact e9) | (rw [Nat.mul_one] at e9; exact e9)
                  refine lv_aload_n hx hb dX6_differs_152 rfl (lv_at hl 3 rfl) ?_
                  refine va_get (D := X.1) (ci := 6) (v := .ref vr) (C := RX6) (T := TX6) (N := 25) hx hb hts hin6 hown hK hP 0 rfl rfl 7 (by decide) lk19 (fun _ h9 => h9) rfl dX6_differs_153 ?_
                  refine lv_iload hx hb dX6_differs_156 (lv_at hl 2 rfl) ?_
                  have hi_17 : vp_in (nI i) 6600 := vp_in_nI (by omega) (by omega)
                  refine va_iald hx hb hK hP 4 0 rfl rfl hi_17 dX6_differs_158 ?_
                  refine lv_topi (fun x_18 ex_18 => ?_)
                  obtain rfl : x_18 = vf i := by
                    rw [ex_18]
                    rw [nI_clamp (by omega)]
                  refine lv_topi (fun x_19 ex_19 => ?_)
                  obtain rfl : x_19 = nI (pV P i) := by
                    rw [ex_19]
                    have e9 := h0.V i (by omega)
                    first | exact e9 | (rw [Nat.mul_zero, Nat.zero_add] at e9; exact e9) | (rw [Nat.mul_one] at e9; exact e9)
                  refine ckVv (As := [.int (nI acc.2), .int (nI (pK P i / 32768)), .int (nI (pK P i % 32768)), .int (nI (pV P i))]) (rest := []) 0 [0, 5, 6, 7] (c_X6_tells l X m bl bk b sp mn xr yr vr cr wr nc wl wc rx ry rv fr (nI 0) f_ar f_wt f_lv f_fi f_en f_cd acc.2 (pK P i) (nI (pV P i)) rx1 ry1 rv1 acc.1 hr1 hmn (by omega)) ⟨hx, hb, hml, hown, hts⟩ (cwV 4 hts gX6_differs_X6_tells rfl rfl rfl (by decide +kernel) ⟨Nat.le_of_ble_eq_true rfl, Nat.le_of_ble_eq_true rfl⟩) hK hN hP hD hS (by decide) rfl (ci := 6) rfl rfl (fun _ => rfl) rfl hl.1 rfl (Nat.le_of_ble_eq_true rfl) dX6_differs_159 ⟨Nat.zero_le _, Nat.zero_le _⟩ (fun u_20 H locs hra hP hD hS => ?_)
                  obtain ⟨rx2, ry2, rv2⟩ := u_20
                  have hP : va_P X.1 vwCl [(m, .inr (6, [.int (nI bl), .int (nI bk), .int (nI b), .int (nI sp), .ref mn, .ref xr, .ref yr, .ref vr, .ref cr, .ref wr, .int (nI nc), .int (nI 0), .int f_ar, .ref wl, .ref wc, .int f_wt, .int f_lv, .int f_fi, .int f_en, .long f_cd, .ref rx, .ref ry, .ref rv, .ref fr, .int (nI ((rsAdd acc.1 (pK P i) (nI (pV P i))).length))])), (mn, .inl (X.2.1, 2, .inl mf)), (xr, .inl (X.2.1, 6600, .inl xf)), (yr, .inl (X.2.1, 6600, .inl yf)), (vr, .inl (X.2.1, 6600, .inl vf)), (rx, .inl (X.2.1, 150, .inl rx2)), (ry, .inl (X.2.1, 150, .inl ry2)), (rv, .inl (X.2.1, 150, .inl rv2))] H := hP
                  have hD : va_D A_ [(m, .inr (6, [.int (nI bl), .int (nI bk), .int (nI b), .int (nI sp), .ref mn, .ref xr, .ref yr, .ref vr, .ref cr, .ref wr, .int (nI nc), .int (nI 0), .int f_ar, .ref wl, .ref wc, .int f_wt, .int f_lv, .int f_fi, .int f_en, .long f_cd, .ref rx, .ref ry, .ref rv, .ref fr, .int (nI ((rsAdd acc.1 (pK P i) (nI (pV P i))).length))])), (mn, .inl (X.2.1, 2, .inl mf)), (xr, .inl (X.2.1, 6600, .inl xf)), (yr, .inl (X.2.1, 6600, .inl yf)), (vr, .inl (X.2.1, 6600, .inl vf)), (rx, .inl (X.2.1, 150, .inl rx2)), (ry, .inl (X.2.1, 150, .inl ry2)), (rv, .inl (X.2.1, 150, .inl rv2))] := hD
                  try dsimp only at hra
                  refine lv_iload_n hx hb dX6_differs_162 rfl (lv_at hl 4 rfl) ?_
                  refine lv_iconst (v := nI 1) hx hb dX6_differs_163 (by decide) ?_
                  refine lv_iadd hx hb dX6_differs_164 ?_
                  refine lv_topi (fun x_22 ex_22 => ?_)
                  obtain rfl : x_22 = nI (acc.2 + 1) := by
                    rw [ex_22]
                    exact nI_add _ _
                  refine lv_istore_n (lv' := [(1, .int (nI (acc.2 + 1))), (6, .int (-1)), (5, .int (nI (3300 + j))), (4, .int (nI i)), (0, .ref m), (2, .int (nI i)), (3, .int (nI j))]) hx hb dX6_differs_165 rfl hl (by decide) rfl (fun ls hl => ?_)
                  refine lv_goto (tgt := 248) hx hb dX6_differs_166 (by decide) ?_
                  refine lv_iload hx hb dX6_differs_248 (lv_at hl 1 rfl) ?_
                  refine lv_if_gt (tgt := 257) hx hb dX6_differs_250 (by decide) (fun c_250 => ?_) (fun c_250 => ?_)
                  · exact absurd c_250 (by decide)
                  · skip
                    refine lv_iload_n hx hb dX6_differs_253 rfl (lv_at hl 5 rfl) ?_
                    refine lv_iconst (v := nI 1) hx hb dX6_differs_254 (by decide) ?_
                    refine lv_iadd hx hb dX6_differs_255 ?_
                    refine lv_topi (fun x_23 ex_23 => ?_)
                    obtain rfl : x_23 = nI (i + 1) := by
                      rw [ex_23]
                      exact nI_add _ _
                    refine lv_istore_n (lv' := [(2, .int (nI (i + 1))), (1, .int (nI (acc.2 + 1))), (6, .int (-1)), (5, .int (nI (3300 + j))), (4, .int (nI i)), (0, .ref m), (3, .int (nI j))]) hx hb dX6_differs_256 rfl hl (by decide) rfl (fun ls hl => ?_)
                    refine lv_iload hx hb dX6_differs_257 (lv_at hl 2 rfl) ?_
                    refine lv_if_lt (tgt := 266) hx hb dX6_differs_259 (by decide) (fun c_259 => ?_) (fun c_259 => ?_)
                    · skip
                      refine lv_goto (tgt := 21) hx hb dX6_differs_266 (by decide) ?_
                      exact ih21 (i + 1) j (dAdd acc (pK P i) (nI (pV P i))) rx2 ry2 rv2 (by omega) (by omega) (by rw [← h4, difA_p hi (List.drop_eq_nil_of_le hj)]) (by exact hra) (by exact dA_len hmn) (by show acc.2 + 1 ≤ _; omega) (by omega) _ _ hP hD hS ls (lv_sub hl [5, 1, 0, 6] rfl)
                    · exact absurd c_259 (by decide)
            · replace c_58 : i = P.length := (nI_eq (by omega) (by omega)).mp c_58
              omega
          · replace c_28 : ¬ i < P.length := fun h9 => c_28 ((nI_ltI (by omega) (by omega)).mpr h9)
            omega
        · skip
          have hb2 := h1.L.kb hj
          have hb4 := h1.L.vb hj
          refine lv_iload_n hx hb dX6_differs_21 rfl (lv_at hl 2 rfl) ?_
          refine lv_aload_n hx hb dX6_differs_22 rfl (lv_at hl 0 rfl) ?_
          refine va_get (D := X.1) (ci := 6) (v := .ref mn) (C := RX6) (T := TX6) (N := 25) hx hb hts hin6 hown hK hP 0 rfl rfl 4 (by decide) lk7 (fun _ h9 => h9) rfl dX6_differs_23 ?_
          refine lv_iconst (v := nI 0) hx hb dX6_differs_26 (by decide) ?_
          have hi_24 : vp_in (nI 0) 2 := vp_in_nI (by omega) (by omega)
          refine va_iald hx hb hK hP 1 0 rfl rfl hi_24 dX6_differs_27 ?_
          refine lv_topi (fun x_25 ex_25 => ?_)
          obtain rfl : x_25 = mf 0 := by
            rw [ex_25]
            rw [nI_clamp (by omega)]
          refine lv_topi (fun x_26 ex_26 => ?_)
          obtain rfl : x_26 = nI P.length := by
            rw [ex_26]
            exact h0.m
          refine lv_icmp_lt (tgt := 41) hx hb dX6_differs_28 (by decide) (fun c_28 => ?_) (fun c_28 => ?_)
          · replace c_28 : i < P.length := (nI_ltI (by omega) (by omega)).mp c_28
            omega
          · replace c_28 : ¬ i < P.length := fun h9 => c_28 ((nI_ltI (by omega) (by omega)).mpr h9)
            refine lv_iload_n hx hb dX6_differs_31 rfl (lv_at hl 3 rfl) ?_
            refine lv_aload_n hx hb dX6_differs_32 rfl (lv_at hl 0 rfl) ?_
            refine va_get (D := X.1) (ci := 6) (v := .ref mn) (C := RX6) (T := TX6) (N := 25) hx hb hts hin6 hown hK hP 0 rfl rfl 4 (by decide) lk7 (fun _ h9 => h9) rfl dX6_differs_33 ?_
            refine lv_iconst (v := nI 1) hx hb dX6_differs_36 (by decide) ?_
            have hi_27 : vp_in (nI 1) 2 := vp_in_nI (by omega) (by omega)
            refine va_iald hx hb hK hP 1 0 rfl rfl hi_27 dX6_differs_37 ?_
            refine lv_topi (fun x_28 ex_28 => ?_)
            obtain rfl : x_28 = mf 1 := by
              rw [ex_28]
              rw [nI_clamp (by omega)]
            refine lv_topi (fun x_29 ex_29 => ?_)
            obtain rfl : x_29 = nI Qm.length := by
              rw [ex_29]
              exact h1.m
            refine lv_icmp_ge (tgt := 269) hx hb dX6_differs_38 (by decide) (fun c_38 => ?_) (fun c_38 => ?_)
            · replace c_38 : Qm.length ≤ j := (nI_leI (by omega) (by omega)).mp c_38
              omega
            · replace c_38 : ¬ Qm.length ≤ j := fun h9 => c_38 ((nI_leI (by omega) (by omega)).mpr h9)
              refine lv_iload_n hx hb dX6_differs_41 rfl (lv_at hl 2 rfl) ?_
              refine lv_istore (lv' := [(4, .int (nI i)), (0, .ref m), (1, .int (nI acc.2)), (2, .int (nI i)), (3, .int (nI j))]) hx hb dX6_differs_42 hl (by decide) rfl (fun ls hl => ?_)
              refine lv_sipush (v := nI 3300) hx hb dX6_differs_44 (by decide) ?_
              refine lv_iload_n hx hb dX6_differs_47 rfl (lv_at hl 4 rfl) ?_
              refine lv_iadd hx hb dX6_differs_48 ?_
              refine lv_topi (fun x_30 ex_30 => ?_)
              obtain rfl : x_30 = nI (3300 + j) := by
                rw [ex_30]
                exact nI_add _ _
              refine lv_istore (lv' := [(5, .int (nI (3300 + j))), (4, .int (nI i)), (0, .ref m), (1, .int (nI acc.2)), (2, .int (nI i)), (3, .int (nI j))]) hx hb dX6_differs_49 hl (by decide) rfl (fun ls hl => ?_)
              refine lv_iload_n hx hb dX6_differs_51 rfl (lv_at hl 4 rfl) ?_
              refine lv_aload_n hx hb dX6_differs_52 rfl (lv_at hl 2 rfl) ?_
              refine va_get (D := X.1) (ci := 6) (v := .ref mn) (C := RX6) (T := TX6) (N := 25) hx hb hts hin6 hown hK hP 0 rfl rfl 4 (by decide) lk7 (fun _ h9 => h9) rfl dX6_differs_53 ?_
              refine lv_iconst (v := nI 0) hx hb dX6_differs_56 (by decide) ?_
              have hi_31 : vp_in (nI 0) 2 := vp_in_nI (by omega) (by omega)
              refine va_iald hx hb hK hP 1 0 rfl rfl hi_31 dX6_differs_57 ?_
              refine lv_topi (fun x_32 ex_32 => ?_)
              obtain rfl : x_32 = mf 0 := by
                rw [ex_32]
                rw [nI_clamp (by omega)]
              refine lv_topi (fun x_33 ex_33 => ?_)
              obtain rfl : x_33 = nI P.length := by
                rw [ex_33]
                exact h0.m
              refine lv_icmp_ne (tgt := 65) hx hb dX6_differs_58 (by decide) (fun c_58 => ?_) (fun c_58 => ?_)
              · replace c_58 : ¬ i = P.length := fun h9 => c_58 ((nI_eq (by omega) (by omega)).mpr h9)
                omega
              · replace c_58 : i = P.length := (nI_eq (by omega) (by omega)).mp c_58
                refine lv_iconst (v := nI 1) hx hb dX6_differs_61 (by decide) ?_
                refine lv_goto (tgt := 129) hx hb dX6_differs_62 (by decide) ?_
                refine lv_istore (lv' := [(6, .int (nI 1)), (5, .int (nI (3300 + j))), (4, .int (nI i)), (0, .ref m), (1, .int (nI acc.2)), (2, .int (nI i)), (3, .int (nI j))]) hx hb dX6_differs_129 hl (by decide) rfl (fun ls hl => ?_)
                refine lv_iload hx hb dX6_differs_131 (lv_at hl 0 rfl) ?_
                refine lv_if_ge (tgt := 169) hx hb dX6_differs_133 (by decide) (fun c_133 => ?_) (fun c_133 => ?_)
                · skip
                  refine lv_iload hx hb dX6_differs_169 (lv_at hl 0 rfl) ?_
                  refine lv_if_le (tgt := 201) hx hb dX6_differs_171 (by decide) (fun c_171 => ?_) (fun c_171 => ?_)
                  · exact absurd c_171 (by decide)
                  · skip
                    refine lv_aload_n hx hb dX6_differs_174 rfl (lv_at hl 3 rfl) ?_
                    refine lv_iload_n hx hb dX6_differs_175 rfl (lv_at hl 4 rfl) ?_
                    refine lv_aload_n hx hb dX6_differs_176 rfl (lv_at hl 3 rfl) ?_
                    refine va_get (D := X.1) (ci := 6) (v := .ref xr) (C := RX6) (T := TX6) (N := 25) hx hb hts hin6 hown hK hP 0 rfl rfl 5 (by decide) lk13 (fun _ h9 => h9) rfl dX6_differs_177 ?_
                    refine lv_iload hx hb dX6_differs_180 (lv_at hl 1 rfl) ?_
                    have hi_34 : vp_in (nI (3300 + j)) 6600 := vp_in_nI (by omega) (by omega)
                    refine va_iald hx hb hK hP 2 0 rfl rfl hi_34 dX6_differs_182 ?_
                    refine lv_topi (fun x_35 ex_35 => ?_)
                    obtain rfl : x_35 = xf (3300 + j) := by
                      rw [ex_35]
                      rw [nI_clamp (by omega)]
                    refine lv_topi (fun x_36 ex_36 => ?_)
                    obtain rfl : x_36 = nI (pK Qm j / 32768) := by
                      rw [ex_36]
                      have e9 := (h1.X j (by omega)).1
                      first | exact e9 | (rw [Nat.mul_zero, Nat.zero_add] at e9; exact e9) | (rw [Nat.mul_one] at e9; exact e9)
                    refine lv_aload_n hx hb dX6_differs_183 rfl (lv_at hl 3 rfl) ?_
                    refine va_get (D := X.1) (ci := 6) (v := .ref yr) (C := RX6) (T := TX6) (N := 25) hx hb hts hin6 hown hK hP 0 rfl rfl 6 (by decide) lk16 (fun _ h9 => h9) rfl dX6_differs_184 ?_
                    refine lv_iload hx hb dX6_differs_187 (lv_at hl 1 rfl) ?_
                    have hi_37 : vp_in (nI (3300 + j)) 6600 := vp_in_nI (by omega) (by omega)
                    refine va_iald hx hb hK hP 3 0 rfl rfl hi_37 dX6_differs_189 ?_
                    refine lv_topi (fun x_38 ex_38 => ?_)
                    obtain rfl : x_38 = yf (3300 + j) := by
                      rw [ex_38]
                      rw [nI_clamp (by omega)]
                    refine lv_topi (fun x_39 ex_39 => ?_)
                    obtain rfl : x_39 = nI (pK Qm j % 32768) := by
                      rw [ex_39]
                      have e9 := (h1.X j (by omega)).2
                      first | exact e9 | (rw [Nat.mul_zero, Nat.zero_add] at e9; exact e9) | (rw [Nat.mul_one] at e9; exact e9)
                    refine lv_iconst (v := (-1)) hx hb dX6_differs_190 (by decide) ?_
                    refine ckVv (As := [.int (nI acc.2), .int (nI (pK Qm j / 32768)), .int (nI (pK Qm j % 32768)), .int (-1)]) (rest := []) 0 [0, 5, 6, 7] (c_X6_tells l X m bl bk b sp mn xr yr vr cr wr nc wl wc rx ry rv fr (nI 0) f_ar f_wt f_lv f_fi f_en f_cd acc.2 (pK Qm j) (-1) rx1 ry1 rv1 acc.1 hr1 hmn (by omega)) ⟨hx, hb, hml, hown, hts⟩ (cwV 4 hts gX6_differs_X6_tells rfl rfl rfl (by decide +kernel) ⟨Nat.le_of_ble_eq_true rfl, Nat.le_of_ble_eq_true rfl⟩) hK hN hP hD hS (by decide) rfl (ci := 6) rfl rfl (fun _ => rfl) rfl hl.1 rfl (Nat.le_of_ble_eq_true rfl) dX6_differs_191 ⟨Nat.zero_le _, Nat.zero_le _⟩ (fun u_40 H locs hra hP hD hS => ?_)
                    obtain ⟨rx2, ry2, rv2⟩ := u_40
                    have hP : va_P X.1 vwCl [(m, .inr (6, [.int (nI bl), .int (nI bk), .int (nI b), .int (nI sp), .ref mn, .ref xr, .ref yr, .ref vr, .ref cr, .ref wr, .int (nI nc), .int (nI 0), .int f_ar, .ref wl, .ref wc, .int f_wt, .int f_lv, .int f_fi, .int f_en, .long f_cd, .ref rx, .ref ry, .ref rv, .ref fr, .int (nI ((rsAdd acc.1 (pK Qm j) (-1)).length))])), (mn, .inl (X.2.1, 2, .inl mf)), (xr, .inl (X.2.1, 6600, .inl xf)), (yr, .inl (X.2.1, 6600, .inl yf)), (vr, .inl (X.2.1, 6600, .inl vf)), (rx, .inl (X.2.1, 150, .inl rx2)), (ry, .inl (X.2.1, 150, .inl ry2)), (rv, .inl (X.2.1, 150, .inl rv2))] H := hP
                    have hD : va_D A_ [(m, .inr (6, [.int (nI bl), .int (nI bk), .int (nI b), .int (nI sp), .ref mn, .ref xr, .ref yr, .ref vr, .ref cr, .ref wr, .int (nI nc), .int (nI 0), .int f_ar, .ref wl, .ref wc, .int f_wt, .int f_lv, .int f_fi, .int f_en, .long f_cd, .ref rx, .ref ry, .ref rv, .ref fr, .int (nI ((rsAdd acc.1 (pK Qm j) (-1)).length))])), (mn, .inl (X.2.1, 2, .inl mf)), (xr, .inl (X.2.1, 6600, .inl xf)), (yr, .inl (X.2.1, 6600, .inl yf)), (vr, .inl (X.2.1, 6600, .inl vf)), (rx, .inl (X.2.1, 150, .inl rx2)), (ry, .inl (X.2.1, 150, .inl ry2)), (rv, .inl (X.2.1, 150, .inl rv2))] := hD
                    try dsimp only at hra
                    refine lv_iload_n hx hb dX6_differs_194 rfl (lv_at hl 4 rfl) ?_
                    refine lv_iconst (v := nI 1) hx hb dX6_differs_195 (by decide) ?_
                    refine lv_iadd hx hb dX6_differs_196 ?_
                    refine lv_topi (fun x_42 ex_42 => ?_)
                    obtain rfl : x_42 = nI (acc.2 + 1) := by
                      rw [ex_42]
                      exact nI_add _ _
                    refine lv_istore_n (lv' := [(1, .int (nI (acc.2 + 1))), (6, .int (nI 1)), (5, .int (nI (3300 + j))), (4, .int (nI i)), (0, .ref m), (2, .int (nI i)), (3, .int (nI j))]) hx hb dX6_differs_197 rfl hl (by decide) rfl (fun ls hl => ?_)
                    refine lv_goto (tgt := 248) hx hb dX6_differs_198 (by decide) ?_
                    refine lv_iload hx hb dX6_differs_248 (lv_at hl 1 rfl) ?_
                    refine lv_if_gt (tgt := 257) hx hb dX6_differs_250 (by decide) (fun c_250 => ?_) (fun c_250 => ?_)
                    · skip
                      refine lv_iload hx hb dX6_differs_257 (lv_at hl 1 rfl) ?_
                      refine lv_if_lt (tgt := 266) hx hb dX6_differs_259 (by decide) (fun c_259 => ?_) (fun c_259 => ?_)
                      · exact absurd c_259 (by decide)
                      · skip
                        refine lv_iload_n hx hb dX6_differs_262 rfl (lv_at hl 6 rfl) ?_
                        refine lv_iconst (v := nI 1) hx hb dX6_differs_263 (by decide) ?_
                        refine lv_iadd hx hb dX6_differs_264 ?_
                        refine lv_topi (fun x_43 ex_43 => ?_)
                        obtain rfl : x_43 = nI (j + 1) := by
                          rw [ex_43]
                          exact nI_add _ _
                        refine lv_istore_n (lv' := [(3, .int (nI (j + 1))), (1, .int (nI (acc.2 + 1))), (6, .int (nI 1)), (5, .int (nI (3300 + j))), (4, .int (nI i)), (0, .ref m), (2, .int (nI i))]) hx hb dX6_differs_265 rfl hl (by decide) rfl (fun ls hl => ?_)
                        refine lv_goto (tgt := 21) hx hb dX6_differs_266 (by decide) ?_
                        exact ih21 i (j + 1) (dAdd acc (pK Qm j) (-1)) rx2 ry2 rv2 (by omega) (by omega) (by rw [← h4, difA_c hj (List.drop_eq_nil_of_le hi)]) (by exact hra) (by exact dA_len hmn) (by show acc.2 + 1 ≤ _; omega) (by omega) _ _ hP hD hS ls (lv_sub hl [5, 1, 6, 0] rfl)
                    · exact absurd c_250 (by decide)
                · exact absurd c_133 (by decide)
        · skip
          have hb1 := h0.L.kb hi
          have hb2 := h1.L.kb hj
          have hb3 := h0.L.vb hi
          have hb4 := h1.L.vb hj
          refine lv_iload_n hx hb dX6_differs_21 rfl (lv_at hl 2 rfl) ?_
          refine lv_aload_n hx hb dX6_differs_22 rfl (lv_at hl 0 rfl) ?_
          refine va_get (D := X.1) (ci := 6) (v := .ref mn) (C := RX6) (T := TX6) (N := 25) hx hb hts hin6 hown hK hP 0 rfl rfl 4 (by decide) lk7 (fun _ h9 => h9) rfl dX6_differs_23 ?_
          refine lv_iconst (v := nI 0) hx hb dX6_differs_26 (by decide) ?_
          have hi_44 : vp_in (nI 0) 2 := vp_in_nI (by omega) (by omega)
          refine va_iald hx hb hK hP 1 0 rfl rfl hi_44 dX6_differs_27 ?_
          refine lv_topi (fun x_45 ex_45 => ?_)
          obtain rfl : x_45 = mf 0 := by
            rw [ex_45]
            rw [nI_clamp (by omega)]
          refine lv_topi (fun x_46 ex_46 => ?_)
          obtain rfl : x_46 = nI P.length := by
            rw [ex_46]
            exact h0.m
          refine lv_icmp_lt (tgt := 41) hx hb dX6_differs_28 (by decide) (fun c_28 => ?_) (fun c_28 => ?_)
          · replace c_28 : i < P.length := (nI_ltI (by omega) (by omega)).mp c_28
            refine lv_iload_n hx hb dX6_differs_41 rfl (lv_at hl 2 rfl) ?_
            refine lv_istore (lv' := [(4, .int (nI i)), (0, .ref m), (1, .int (nI acc.2)), (2, .int (nI i)), (3, .int (nI j))]) hx hb dX6_differs_42 hl (by decide) rfl (fun ls hl => ?_)
            refine lv_sipush (v := nI 3300) hx hb dX6_differs_44 (by decide) ?_
            refine lv_iload_n hx hb dX6_differs_47 rfl (lv_at hl 4 rfl) ?_
            refine lv_iadd hx hb dX6_differs_48 ?_
            refine lv_topi (fun x_47 ex_47 => ?_)
            obtain rfl : x_47 = nI (3300 + j) := by
              rw [ex_47]
              exact nI_add _ _
            refine lv_istore (lv' := [(5, .int (nI (3300 + j))), (4, .int (nI i)), (0, .ref m), (1, .int (nI acc.2)), (2, .int (nI i)), (3, .int (nI j))]) hx hb dX6_differs_49 hl (by decide) rfl (fun ls hl => ?_)
            refine lv_iload_n hx hb dX6_differs_51 rfl (lv_at hl 4 rfl) ?_
            refine lv_aload_n hx hb dX6_differs_52 rfl (lv_at hl 2 rfl) ?_
            refine va_get (D := X.1) (ci := 6) (v := .ref mn) (C := RX6) (T := TX6) (N := 25) hx hb hts hin6 hown hK hP 0 rfl rfl 4 (by decide) lk7 (fun _ h9 => h9) rfl dX6_differs_53 ?_
            refine lv_iconst (v := nI 0) hx hb dX6_differs_56 (by decide) ?_
            have hi_48 : vp_in (nI 0) 2 := vp_in_nI (by omega) (by omega)
            refine va_iald hx hb hK hP 1 0 rfl rfl hi_48 dX6_differs_57 ?_
            refine lv_topi (fun x_49 ex_49 => ?_)
            obtain rfl : x_49 = mf 0 := by
              rw [ex_49]
              rw [nI_clamp (by omega)]
            refine lv_topi (fun x_50 ex_50 => ?_)
            obtain rfl : x_50 = nI P.length := by
              rw [ex_50]
              exact h0.m
            refine lv_icmp_ne (tgt := 65) hx hb dX6_differs_58 (by decide) (fun c_58 => ?_) (fun c_58 => ?_)
            · replace c_58 : ¬ i = P.length := fun h9 => c_58 ((nI_eq (by omega) (by omega)).mpr h9)
              refine lv_iload_n hx hb dX6_differs_65 rfl (lv_at hl 5 rfl) ?_
              refine lv_aload_n hx hb dX6_differs_66 rfl (lv_at hl 2 rfl) ?_
              refine va_get (D := X.1) (ci := 6) (v := .ref mn) (C := RX6) (T := TX6) (N := 25) hx hb hts hin6 hown hK hP 0 rfl rfl 4 (by decide) lk7 (fun _ h9 => h9) rfl dX6_differs_67 ?_
              refine lv_iconst (v := nI 1) hx hb dX6_differs_70 (by decide) ?_
              have hi_51 : vp_in (nI 1) 2 := vp_in_nI (by omega) (by omega)
              refine va_iald hx hb hK hP 1 0 rfl rfl hi_51 dX6_differs_71 ?_
              refine lv_topi (fun x_52 ex_52 => ?_)
              obtain rfl : x_52 = mf 1 := by
                rw [ex_52]
                rw [nI_clamp (by omega)]
              refine lv_topi (fun x_53 ex_53 => ?_)
              obtain rfl : x_53 = nI Qm.length := by
                rw [ex_53]
                exact h1.m
              refine lv_icmp_ne (tgt := 79) hx hb dX6_differs_72 (by decide) (fun c_72 => ?_) (fun c_72 => ?_)
              · replace c_72 : ¬ j = Qm.length := fun h9 => c_72 ((nI_eq (by omega) (by omega)).mpr h9)
                refine lv_aload_n hx hb dX6_differs_79 rfl (lv_at hl 2 rfl) ?_
                refine va_get (D := X.1) (ci := 6) (v := .ref xr) (C := RX6) (T := TX6) (N := 25) hx hb hts hin6 hown hK hP 0 rfl rfl 5 (by decide) lk13 (fun _ h9 => h9) rfl dX6_differs_80 ?_
                refine lv_iload hx hb dX6_differs_83 (lv_at hl 1 rfl) ?_
                have hi_54 : vp_in (nI i) 6600 := vp_in_nI (by omega) (by omega)
                refine va_iald hx hb hK hP 2 0 rfl rfl hi_54 dX6_differs_85 ?_
                refine lv_topi (fun x_55 ex_55 => ?_)
                obtain rfl : x_55 = xf i := by
                  rw [ex_55]
                  rw [nI_clamp (by omega)]
                refine lv_topi (fun x_56 ex_56 => ?_)
                obtain rfl : x_56 = nI (pK P i / 32768) := by
                  rw [ex_56]
                  have e9 := (h0.X i (by omega)).1
                  first | exact e9 | (rw [Nat.mul_zero, Nat.zero_add] at e9; exact e9) | (rw [Nat.mul_one] at e9; exact e9)
                refine lv_aload_n hx hb dX6_differs_86 rfl (lv_at hl 2 rfl) ?_
                refine va_get (D := X.1) (ci := 6) (v := .ref xr) (C := RX6) (T := TX6) (N := 25) hx hb hts hin6 hown hK hP 0 rfl rfl 5 (by decide) lk13 (fun _ h9 => h9) rfl dX6_differs_87 ?_
                refine lv_iload hx hb dX6_differs_90 (lv_at hl 0 rfl) ?_
                have hi_57 : vp_in (nI (3300 + j)) 6600 := vp_in_nI (by omega) (by omega)
                refine va_iald hx hb hK hP 2 0 rfl rfl hi_57 dX6_differs_92 ?_
                refine lv_topi (fun x_58 ex_58 => ?_)
                obtain rfl : x_58 = xf (3300 + j) := by
                  rw [ex_58]
                  rw [nI_clamp (by omega)]
                refine lv_topi (fun x_59 ex_59 => ?_)
                obtain rfl : x_59 = nI (pK Qm j / 32768) := by
                  rw [ex_59]
                  have e9 := (h1.X j (by omega)).1
                  first | exact e9 | (rw [Nat.mul_zero, Nat.zero_add] at e9; exact e9) | (rw [Nat.mul_one] at e9; exact e9)
                refine lv_icmp_eq (tgt := 114) hx hb dX6_differs_93 (by decide) (fun c_93 => ?_) (fun c_93 => ?_)
                · replace c_93 : (pK P i / 32768) = (pK Qm j / 32768) := (nI_eq (by omega) (by omega)).mp c_93
                  refine lv_aload_n hx hb dX6_differs_114 rfl (lv_at hl 2 rfl) ?_
                  refine va_get (D := X.1) (ci := 6) (v := .ref yr) (C := RX6) (T := TX6) (N := 25) hx hb hts hin6 hown hK hP 0 rfl rfl 6 (by decide) lk16 (fun _ h9 => h9) rfl dX6_differs_115 ?_
                  refine lv_iload hx hb dX6_differs_118 (lv_at hl 1 rfl) ?_
                  have hi_60 : vp_in (nI i) 6600 := vp_in_nI (by omega) (by omega)
                  refine va_iald hx hb hK hP 3 0 rfl rfl hi_60 dX6_differs_120 ?_
                  refine lv_topi (fun x_61 ex_61 => ?_)
                  obtain rfl : x_61 = yf i := by
                    rw [ex_61]
                    rw [nI_clamp (by omega)]
                  refine lv_topi (fun x_62 ex_62 => ?_)
                  obtain rfl : x_62 = nI (pK P i % 32768) := by
                    rw [ex_62]
                    have e9 := (h0.X i (by omega)).2
                    first | exact e9 | (rw [Nat.mul_zero, Nat.zero_add] at e9; exact e9) | (rw [Nat.mul_one] at e9; exact e9)
                  refine lv_aload_n hx hb dX6_differs_121 rfl (lv_at hl 2 rfl) ?_
                  refine va_get (D := X.1) (ci := 6) (v := .ref yr) (C := RX6) (T := TX6) (N := 25) hx hb hts hin6 hown hK hP 0 rfl rfl 6 (by decide) lk16 (fun _ h9 => h9) rfl dX6_differs_122 ?_
                  refine lv_iload hx hb dX6_differs_125 (lv_at hl 0 rfl) ?_
                  have hi_63 : vp_in (nI (3300 + j)) 6600 := vp_in_nI (by omega) (by omega)
                  refine va_iald hx hb hK hP 3 0 rfl rfl hi_63 dX6_differs_127 ?_
                  refine lv_topi (fun x_64 ex_64 => ?_)
                  obtain rfl : x_64 = yf (3300 + j) := by
                    rw [ex_64]
                    rw [nI_clamp (by omega)]
                  refine lv_topi (fun x_65 ex_65 => ?_)
                  obtain rfl : x_65 = nI (pK Qm j % 32768) := by
                    rw [ex_65]
                    have e9 := (h1.X j (by omega)).2
                    first | exact e9 | (rw [Nat.mul_zero, Nat.zero_add] at e9; exact e9) | (rw [Nat.mul_one] at e9; exact e9)
                  refine lv_isub hx hb dX6_differs_128 ?_
                  refine lv_istore (lv' := [(6, .int ((nI (pK P i % 32768)) - (nI (pK Qm j % 32768)))), (5, .int (nI (3300 + j))), (4, .int (nI i)), (0, .ref m), (1, .int (nI acc.2)), (2, .int (nI i)), (3, .int (nI j))]) hx hb dX6_differs_129 hl (by decide) rfl (fun ls hl => ?_)
                  refine lv_iload hx hb dX6_differs_131 (lv_at hl 0 rfl) ?_
                  refine lv_if_ge (tgt := 169) hx hb dX6_differs_133 (by decide) (fun c_133 => ?_) (fun c_133 => ?_)
                  · skip
                    exact absurd c_133 (sg_neg (by omega) (by omega))
                  · skip
                    refine lv_aload_n hx hb dX6_differs_136 rfl (lv_at hl 3 rfl) ?_
                    refine lv_iload_n hx hb dX6_differs_137 rfl (lv_at hl 4 rfl) ?_
                    refine lv_aload_n hx hb dX6_differs_138 rfl (lv_at hl 3 rfl) ?_
                    refine va_get (D := X.1) (ci := 6) (v := .ref xr) (C := RX6) (T := TX6) (N := 25) hx hb hts hin6 hown hK hP 0 rfl rfl 5 (by decide) lk13 (fun _ h9 => h9) rfl dX6_differs_139 ?_
                    refine lv_iload hx hb dX6_differs_142 (lv_at hl 2 rfl) ?_
                    have hi_66 : vp_in (nI i) 6600 := vp_in_nI (by omega) (by omega)
                    refine va_iald hx hb hK hP 2 0 rfl rfl hi_66 dX6_differs_144 ?_
                    refine lv_topi (fun x_67 ex_67 => ?_)
                    obtain rfl : x_67 = xf i := by
                      rw [ex_67]
                      rw [nI_clamp (by omega)]
                    refine lv_topi (fun x_68 ex_68 => ?_)
                    obtain rfl : x_68 = nI (pK P i / 32768) := by
                      rw [ex_68]
                      have e9 := (h0.X i (by omega)).1
                      first | exact e9 | (rw [Nat.mul_zero, Nat.zero_add] at e9; exact e9) | (rw [Nat.mul_one] at e9; exact e9)
                    refine lv_aload_n hx hb dX6_differs_145 rfl (lv_at hl 3 rfl) ?_
                    refine va_get (D := X.1) (ci := 6) (v := .ref yr) (C := RX6) (T := TX6) (N := 25) hx hb hts hin6 hown hK hP 0 rfl rfl 6 (by decide) lk16 (fun _ h9 => h9) rfl dX6_differs_146 ?_
                    refine lv_iload hx hb dX6_differs_149 (lv_at hl 2 rfl) ?_
                    have hi_69 : vp_in (nI i) 6600 := vp_in_nI (by omega) (by omega)
                    refine va_iald hx hb hK hP 3 0 rfl rfl hi_69 dX6_differs_151 ?_
                    refine lv_topi (fun x_70 ex_70 => ?_)
                    obtain rfl : x_70 = yf i := by
                      rw [ex_70]
                      rw [nI_clamp (by omega)]
                    refine lv_topi (fun x_71 ex_71 => ?_)
                    obtain rfl : x_71 = nI (pK P i % 32768) := by
                      rw [ex_71]
                      have e9 := (h0.X i (by omega)).2
                      first | exact e9 | (rw [Nat.mul_zero, Nat.zero_add] at e9; exact e9) | (rw [Nat.mul_one] at e9; exact e9)
                    refine lv_aload_n hx hb dX6_differs_152 rfl (lv_at hl 3 rfl) ?_
                    refine va_get (D := X.1) (ci := 6) (v := .ref vr) (C := RX6) (T := TX6) (N := 25) hx hb hts hin6 hown hK hP 0 rfl rfl 7 (by decide) lk19 (fun _ h9 => h9) rfl dX6_differs_153 ?_
                    refine lv_iload hx hb dX6_differs_156 (lv_at hl 2 rfl) ?_
                    have hi_72 : vp_in (nI i) 6600 := vp_in_nI (by omega) (by omega)
                    refine va_iald hx hb hK hP 4 0 rfl rfl hi_72 dX6_differs_158 ?_
                    refine lv_topi (fun x_73 ex_73 => ?_)
                    obtain rfl : x_73 = vf i := by
                      rw [ex_73]
                      rw [nI_clamp (by omega)]
                    refine lv_topi (fun x_74 ex_74 => ?_)
                    obtain rfl : x_74 = nI (pV P i) := by
                      rw [ex_74]
                      have e9 := h0.V i (by omega)
                      first | exact e9 | (rw [Nat.mul_zero, Nat.zero_add] at e9; exact e9) | (rw [Nat.mul_one] at e9; exact e9)
                    refine ckVv (As := [.int (nI acc.2), .int (nI (pK P i / 32768)), .int (nI (pK P i % 32768)), .int (nI (pV P i))]) (rest := []) 0 [0, 5, 6, 7] (c_X6_tells l X m bl bk b sp mn xr yr vr cr wr nc wl wc rx ry rv fr (nI 0) f_ar f_wt f_lv f_fi f_en f_cd acc.2 (pK P i) (nI (pV P i)) rx1 ry1 rv1 acc.1 hr1 hmn (by omega)) ⟨hx, hb, hml, hown, hts⟩ (cwV 4 hts gX6_differs_X6_tells rfl rfl rfl (by decide +kernel) ⟨Nat.le_of_ble_eq_true rfl, Nat.le_of_ble_eq_true rfl⟩) hK hN hP hD hS (by decide) rfl (ci := 6) rfl rfl (fun _ => rfl) rfl hl.1 rfl (Nat.le_of_ble_eq_true rfl) dX6_differs_159 ⟨Nat.zero_le _, Nat.zero_le _⟩ (fun u_75 H locs hra hP hD hS => ?_)
                    obtain ⟨rx2, ry2, rv2⟩ := u_75
                    have hP : va_P X.1 vwCl [(m, .inr (6, [.int (nI bl), .int (nI bk), .int (nI b), .int (nI sp), .ref mn, .ref xr, .ref yr, .ref vr, .ref cr, .ref wr, .int (nI nc), .int (nI 0), .int f_ar, .ref wl, .ref wc, .int f_wt, .int f_lv, .int f_fi, .int f_en, .long f_cd, .ref rx, .ref ry, .ref rv, .ref fr, .int (nI ((rsAdd acc.1 (pK P i) (nI (pV P i))).length))])), (mn, .inl (X.2.1, 2, .inl mf)), (xr, .inl (X.2.1, 6600, .inl xf)), (yr, .inl (X.2.1, 6600, .inl yf)), (vr, .inl (X.2.1, 6600, .inl vf)), (rx, .inl (X.2.1, 150, .inl rx2)), (ry, .inl (X.2.1, 150, .inl ry2)), (rv, .inl (X.2.1, 150, .inl rv2))] H := hP
                    have hD : va_D A_ [(m, .inr (6, [.int (nI bl), .int (nI bk), .int (nI b), .int (nI sp), .ref mn, .ref xr, .ref yr, .ref vr, .ref cr, .ref wr, .int (nI nc), .int (nI 0), .int f_ar, .ref wl, .ref wc, .int f_wt, .int f_lv, .int f_fi, .int f_en, .long f_cd, .ref rx, .ref ry, .ref rv, .ref fr, .int (nI ((rsAdd acc.1 (pK P i) (nI (pV P i))).length))])), (mn, .inl (X.2.1, 2, .inl mf)), (xr, .inl (X.2.1, 6600, .inl xf)), (yr, .inl (X.2.1, 6600, .inl yf)), (vr, .inl (X.2.1, 6600, .inl vf)), (rx, .inl (X.2.1, 150, .inl rx2)), (ry, .inl (X.2.1, 150, .inl ry2)), (rv, .inl (X.2.1, 150, .inl rv2))] := hD
                    try dsimp only at hra
                    refine lv_iload_n hx hb dX6_differs_162 rfl (lv_at hl 4 rfl) ?_
                    refine lv_iconst (v := nI 1) hx hb dX6_differs_163 (by decide) ?_
                    refine lv_iadd hx hb dX6_differs_164 ?_
                    refine lv_topi (fun x_77 ex_77 => ?_)
                    obtain rfl : x_77 = nI (acc.2 + 1) := by
                      rw [ex_77]
                      exact nI_add _ _
                    refine lv_istore_n (lv' := [(1, .int (nI (acc.2 + 1))), (6, .int ((nI (pK P i % 32768)) - (nI (pK Qm j % 32768)))), (5, .int (nI (3300 + j))), (4, .int (nI i)), (0, .ref m), (2, .int (nI i)), (3, .int (nI j))]) hx hb dX6_differs_165 rfl hl (by decide) rfl (fun ls hl => ?_)
                    refine lv_goto (tgt := 248) hx hb dX6_differs_166 (by decide) ?_
                    refine lv_iload hx hb dX6_differs_248 (lv_at hl 1 rfl) ?_
                    refine lv_if_gt (tgt := 257) hx hb dX6_differs_250 (by decide) (fun c_250 => ?_) (fun c_250 => ?_)
                    · skip
                      exact absurd c_250 (fun z => sg_neg (by omega) (by omega) (Int32.le_of_lt z))
                    · skip
                      refine lv_iload_n hx hb dX6_differs_253 rfl (lv_at hl 5 rfl) ?_
                      refine lv_iconst (v := nI 1) hx hb dX6_differs_254 (by decide) ?_
                      refine lv_iadd hx hb dX6_differs_255 ?_
                      refine lv_topi (fun x_78 ex_78 => ?_)
                      obtain rfl : x_78 = nI (i + 1) := by
                        rw [ex_78]
                        exact nI_add _ _
                      refine lv_istore_n (lv' := [(2, .int (nI (i + 1))), (1, .int (nI (acc.2 + 1))), (6, .int ((nI (pK P i % 32768)) - (nI (pK Qm j % 32768)))), (5, .int (nI (3300 + j))), (4, .int (nI i)), (0, .ref m), (3, .int (nI j))]) hx hb dX6_differs_256 rfl hl (by decide) rfl (fun ls hl => ?_)
                      refine lv_iload hx hb dX6_differs_257 (lv_at hl 2 rfl) ?_
                      refine lv_if_lt (tgt := 266) hx hb dX6_differs_259 (by decide) (fun c_259 => ?_) (fun c_259 => ?_)
                      · skip
                        refine lv_goto (tgt := 21) hx hb dX6_differs_266 (by decide) ?_
                        exact ih21 (i + 1) j (dAdd acc (pK P i) (nI (pV P i))) rx2 ry2 rv2 (by omega) (by omega) (by rw [← h4, difA_lt hi hj hlt]) (by exact hra) (by exact dA_len hmn) (by show acc.2 + 1 ≤ _; omega) (by omega) _ _ hP hD hS ls (lv_sub hl [5, 1, 0, 6] rfl)
                      · skip
                        exact absurd (pk_sneg (by omega) (by omega)) c_259
                · replace c_93 : ¬ (pK P i / 32768) = (pK Qm j / 32768) := fun h9 => c_93 ((nI_eq (by omega) (by omega)).mpr h9)
                  refine lv_aload_n hx hb dX6_differs_96 rfl (lv_at hl 2 rfl) ?_
                  refine va_get (D := X.1) (ci := 6) (v := .ref xr) (C := RX6) (T := TX6) (N := 25) hx hb hts hin6 hown hK hP 0 rfl rfl 5 (by decide) lk13 (fun _ h9 => h9) rfl dX6_differs_97 ?_
                  refine lv_iload hx hb dX6_differs_100 (lv_at hl 1 rfl) ?_
                  have hi_79 : vp_in (nI i) 6600 := vp_in_nI (by omega) (by omega)
                  refine va_iald hx hb hK hP 2 0 rfl rfl hi_79 dX6_differs_102 ?_
                  refine lv_topi (fun x_80 ex_80 => ?_)
                  obtain rfl : x_80 = xf i := by
                    rw [ex_80]
                    rw [nI_clamp (by omega)]
                  refine lv_topi (fun x_81 ex_81 => ?_)
                  obtain rfl : x_81 = nI (pK P i / 32768) := by
                    rw [ex_81]
                    have e9 := (h0.X i (by omega)).1
                    first | exact e9 | (rw [Nat.mul_zero, Nat.zero_add] at e9; exact e9) | (rw [Nat.mul_one] at e9; exact e9)
                  refine lv_aload_n hx hb dX6_differs_103 rfl (lv_at hl 2 rfl) ?_
                  refine va_get (D := X.1) (ci := 6) (v := .ref xr) (C := RX6) (T := TX6) (N := 25) hx hb hts hin6 hown hK hP 0 rfl rfl 5 (by decide) lk13 (fun _ h9 => h9) rfl dX6_differs_104 ?_
                  refine lv_iload hx hb dX6_differs_107 (lv_at hl 0 rfl) ?_
                  have hi_82 : vp_in (nI (3300 + j)) 6600 := vp_in_nI (by omega) (by omega)
                  refine va_iald hx hb hK hP 2 0 rfl rfl hi_82 dX6_differs_109 ?_
                  refine lv_topi (fun x_83 ex_83 => ?_)
                  obtain rfl : x_83 = xf (3300 + j) := by
                    rw [ex_83]
                    rw [nI_clamp (by omega)]
                  refine lv_topi (fun x_84 ex_84 => ?_)
                  obtain rfl : x_84 = nI (pK Qm j / 32768) := by
                    rw [ex_84]
                    have e9 := (h1.X j (by omega)).1
                    first | exact e9 | (rw [Nat.mul_zero, Nat.zero_add] at e9; exact e9) | (rw [Nat.mul_one] at e9; exact e9)
                  refine lv_isub hx hb dX6_differs_110 ?_
                  refine lv_goto (tgt := 129) hx hb dX6_differs_111 (by decide) ?_
                  refine lv_istore (lv' := [(6, .int ((nI (pK P i / 32768)) - (nI (pK Qm j / 32768)))), (5, .int (nI (3300 + j))), (4, .int (nI i)), (0, .ref m), (1, .int (nI acc.2)), (2, .int (nI i)), (3, .int (nI j))]) hx hb dX6_differs_129 hl (by decide) rfl (fun ls hl => ?_)
                  refine lv_iload hx hb dX6_differs_131 (lv_at hl 0 rfl) ?_
                  refine lv_if_ge (tgt := 169) hx hb dX6_differs_133 (by decide) (fun c_133 => ?_) (fun c_133 => ?_)
                  · skip
                    exact absurd c_133 (sg_neg (by omega) (by omega))
                  · skip
                    refine lv_aload_n hx hb dX6_differs_136 rfl (lv_at hl 3 rfl) ?_
                    refine lv_iload_n hx hb dX6_differs_137 rfl (lv_at hl 4 rfl) ?_
                    refine lv_aload_n hx hb dX6_differs_138 rfl (lv_at hl 3 rfl) ?_
                    refine va_get (D := X.1) (ci := 6) (v := .ref xr) (C := RX6) (T := TX6) (N := 25) hx hb hts hin6 hown hK hP 0 rfl rfl 5 (by decide) lk13 (fun _ h9 => h9) rfl dX6_differs_139 ?_
                    refine lv_iload hx hb dX6_differs_142 (lv_at hl 2 rfl) ?_
                    have hi_85 : vp_in (nI i) 6600 := vp_in_nI (by omega) (by omega)
                    refine va_iald hx hb hK hP 2 0 rfl rfl hi_85 dX6_differs_144 ?_
                    refine lv_topi (fun x_86 ex_86 => ?_)
                    obtain rfl : x_86 = xf i := by
                      rw [ex_86]
                      rw [nI_clamp (by omega)]
                    refine lv_topi (fun x_87 ex_87 => ?_)
                    obtain rfl : x_87 = nI (pK P i / 32768) := by
                      rw [ex_87]
                      have e9 := (h0.X i (by omega)).1
                      first | exact e9 | (rw [Nat.mul_zero, Nat.zero_add] at e9; exact e9) | (rw [Nat.mul_one] at e9; exact e9)
                    refine lv_aload_n hx hb dX6_differs_145 rfl (lv_at hl 3 rfl) ?_
                    refine va_get (D := X.1) (ci := 6) (v := .ref yr) (C := RX6) (T := TX6) (N := 25) hx hb hts hin6 hown hK hP 0 rfl rfl 6 (by decide) lk16 (fun _ h9 => h9) rfl dX6_differs_146 ?_
                    refine lv_iload hx hb dX6_differs_149 (lv_at hl 2 rfl) ?_
                    have hi_88 : vp_in (nI i) 6600 := vp_in_nI (by omega) (by omega)
                    refine va_iald hx hb hK hP 3 0 rfl rfl hi_88 dX6_differs_151 ?_
                    refine lv_topi (fun x_89 ex_89 => ?_)
                    obtain rfl : x_89 = yf i := by
                      rw [ex_89]
                      rw [nI_clamp (by omega)]
                    refine lv_topi (fun x_90 ex_90 => ?_)
                    obtain rfl : x_90 = nI (pK P i % 32768) := by
                      rw [ex_90]
                      have e9 := (h0.X i (by omega)).2
                      first | exact e9 | (rw [Nat.mul_zero, Nat.zero_add] at e9; exact e9) | (rw [Nat.mul_one] at e9; exact e9)
                    refine lv_aload_n hx hb dX6_differs_152 rfl (lv_at hl 3 rfl) ?_
                    refine va_get (D := X.1) (ci := 6) (v := .ref vr) (C := RX6) (T := TX6) (N := 25) hx hb hts hin6 hown hK hP 0 rfl rfl 7 (by decide) lk19 (fun _ h9 => h9) rfl dX6_differs_153 ?_
                    refine lv_iload hx hb dX6_differs_156 (lv_at hl 2 rfl) ?_
                    have hi_91 : vp_in (nI i) 6600 := vp_in_nI (by omega) (by omega)
                    refine va_iald hx hb hK hP 4 0 rfl rfl hi_91 dX6_differs_158 ?_
                    refine lv_topi (fun x_92 ex_92 => ?_)
                    obtain rfl : x_92 = vf i := by
                      rw [ex_92]
                      rw [nI_clamp (by omega)]
                    refine lv_topi (fun x_93 ex_93 => ?_)
                    obtain rfl : x_93 = nI (pV P i) := by
                      rw [ex_93]
                      have e9 := h0.V i (by omega)
                      first | exact e9 | (rw [Nat.mul_zero, Nat.zero_add] at e9; exact e9) | (rw [Nat.mul_one] at e9; exact e9)
                    refine ckVv (As := [.int (nI acc.2), .int (nI (pK P i / 32768)), .int (nI (pK P i % 32768)), .int (nI (pV P i))]) (rest := []) 0 [0, 5, 6, 7] (c_X6_tells l X m bl bk b sp mn xr yr vr cr wr nc wl wc rx ry rv fr (nI 0) f_ar f_wt f_lv f_fi f_en f_cd acc.2 (pK P i) (nI (pV P i)) rx1 ry1 rv1 acc.1 hr1 hmn (by omega)) ⟨hx, hb, hml, hown, hts⟩ (cwV 4 hts gX6_differs_X6_tells rfl rfl rfl (by decide +kernel) ⟨Nat.le_of_ble_eq_true rfl, Nat.le_of_ble_eq_true rfl⟩) hK hN hP hD hS (by decide) rfl (ci := 6) rfl rfl (fun _ => rfl) rfl hl.1 rfl (Nat.le_of_ble_eq_true rfl) dX6_differs_159 ⟨Nat.zero_le _, Nat.zero_le _⟩ (fun u_94 H locs hra hP hD hS => ?_)
                    obtain ⟨rx2, ry2, rv2⟩ := u_94
                    have hP : va_P X.1 vwCl [(m, .inr (6, [.int (nI bl), .int (nI bk), .int (nI b), .int (nI sp), .ref mn, .ref xr, .ref yr, .ref vr, .ref cr, .ref wr, .int (nI nc), .int (nI 0), .int f_ar, .ref wl, .ref wc, .int f_wt, .int f_lv, .int f_fi, .int f_en, .long f_cd, .ref rx, .ref ry, .ref rv, .ref fr, .int (nI ((rsAdd acc.1 (pK P i) (nI (pV P i))).length))])), (mn, .inl (X.2.1, 2, .inl mf)), (xr, .inl (X.2.1, 6600, .inl xf)), (yr, .inl (X.2.1, 6600, .inl yf)), (vr, .inl (X.2.1, 6600, .inl vf)), (rx, .inl (X.2.1, 150, .inl rx2)), (ry, .inl (X.2.1, 150, .inl ry2)), (rv, .inl (X.2.1, 150, .inl rv2))] H := hP
                    have hD : va_D A_ [(m, .inr (6, [.int (nI bl), .int (nI bk), .int (nI b), .int (nI sp), .ref mn, .ref xr, .ref yr, .ref vr, .ref cr, .ref wr, .int (nI nc), .int (nI 0), .int f_ar, .ref wl, .ref wc, .int f_wt, .int f_lv, .int f_fi, .int f_en, .long f_cd, .ref rx, .ref ry, .ref rv, .ref fr, .int (nI ((rsAdd acc.1 (pK P i) (nI (pV P i))).length))])), (mn, .inl (X.2.1, 2, .inl mf)), (xr, .inl (X.2.1, 6600, .inl xf)), (yr, .inl (X.2.1, 6600, .inl yf)), (vr, .inl (X.2.1, 6600, .inl vf)), (rx, .inl (X.2.1, 150, .inl rx2)), (ry, .inl (X.2.1, 150, .inl ry2)), (rv, .inl (X.2.1, 150, .inl rv2))] := hD
                    try dsimp only at hra
                    refine lv_iload_n hx hb dX6_differs_162 rfl (lv_at hl 4 rfl) ?_
                    refine lv_iconst (v := nI 1) hx hb dX6_differs_163 (by decide) ?_
                    refine lv_iadd hx hb dX6_differs_164 ?_
                    refine lv_topi (fun x_96 ex_96 => ?_)
                    obtain rfl : x_96 = nI (acc.2 + 1) := by
                      rw [ex_96]
                      exact nI_add _ _
                    refine lv_istore_n (lv' := [(1, .int (nI (acc.2 + 1))), (6, .int ((nI (pK P i / 32768)) - (nI (pK Qm j / 32768)))), (5, .int (nI (3300 + j))), (4, .int (nI i)), (0, .ref m), (2, .int (nI i)), (3, .int (nI j))]) hx hb dX6_differs_165 rfl hl (by decide) rfl (fun ls hl => ?_)
                    refine lv_goto (tgt := 248) hx hb dX6_differs_166 (by decide) ?_
                    refine lv_iload hx hb dX6_differs_248 (lv_at hl 1 rfl) ?_
                    refine lv_if_gt (tgt := 257) hx hb dX6_differs_250 (by decide) (fun c_250 => ?_) (fun c_250 => ?_)
                    · skip
                      exact absurd c_250 (fun z => sg_neg (by omega) (by omega) (Int32.le_of_lt z))
                    · skip
                      refine lv_iload_n hx hb dX6_differs_253 rfl (lv_at hl 5 rfl) ?_
                      refine lv_iconst (v := nI 1) hx hb dX6_differs_254 (by decide) ?_
                      refine lv_iadd hx hb dX6_differs_255 ?_
                      refine lv_topi (fun x_97 ex_97 => ?_)
                      obtain rfl : x_97 = nI (i + 1) := by
                        rw [ex_97]
                        exact nI_add _ _
                      refine lv_istore_n (lv' := [(2, .int (nI (i + 1))), (1, .int (nI (acc.2 + 1))), (6, .int ((nI (pK P i / 32768)) - (nI (pK Qm j / 32768)))), (5, .int (nI (3300 + j))), (4, .int (nI i)), (0, .ref m), (3, .int (nI j))]) hx hb dX6_differs_256 rfl hl (by decide) rfl (fun ls hl => ?_)
                      refine lv_iload hx hb dX6_differs_257 (lv_at hl 2 rfl) ?_
                      refine lv_if_lt (tgt := 266) hx hb dX6_differs_259 (by decide) (fun c_259 => ?_) (fun c_259 => ?_)
                      · skip
                        refine lv_goto (tgt := 21) hx hb dX6_differs_266 (by decide) ?_
                        exact ih21 (i + 1) j (dAdd acc (pK P i) (nI (pV P i))) rx2 ry2 rv2 (by omega) (by omega) (by rw [← h4, difA_lt hi hj hlt]) (by exact hra) (by exact dA_len hmn) (by show acc.2 + 1 ≤ _; omega) (by omega) _ _ hP hD hS ls (lv_sub hl [5, 1, 0, 6] rfl)
                      · skip
                        exact absurd (pk_sneg (by omega) (by omega)) c_259
              · replace c_72 : j = Qm.length := (nI_eq (by omega) (by omega)).mp c_72
                omega
            · replace c_58 : i = P.length := (nI_eq (by omega) (by omega)).mp c_58
              omega
          · replace c_28 : ¬ i < P.length := fun h9 => c_28 ((nI_ltI (by omega) (by omega)).mpr h9)
            omega
        · skip
          have hb1 := h0.L.kb hi
          have hb2 := h1.L.kb hj
          have hb3 := h0.L.vb hi
          have hb4 := h1.L.vb hj
          refine lv_iload_n hx hb dX6_differs_21 rfl (lv_at hl 2 rfl) ?_
          refine lv_aload_n hx hb dX6_differs_22 rfl (lv_at hl 0 rfl) ?_
          refine va_get (D := X.1) (ci := 6) (v := .ref mn) (C := RX6) (T := TX6) (N := 25) hx hb hts hin6 hown hK hP 0 rfl rfl 4 (by decide) lk7 (fun _ h9 => h9) rfl dX6_differs_23 ?_
          refine lv_iconst (v := nI 0) hx hb dX6_differs_26 (by decide) ?_
          have hi_98 : vp_in (nI 0) 2 := vp_in_nI (by omega) (by omega)
          refine va_iald hx hb hK hP 1 0 rfl rfl hi_98 dX6_differs_27 ?_
          refine lv_topi (fun x_99 ex_99 => ?_)
          obtain rfl : x_99 = mf 0 := by
            rw [ex_99]
            rw [nI_clamp (by omega)]
          refine lv_topi (fun x_100 ex_100 => ?_)
          obtain rfl : x_100 = nI P.length := by
            rw [ex_100]
            exact h0.m
          refine lv_icmp_lt (tgt := 41) hx hb dX6_differs_28 (by decide) (fun c_28 => ?_) (fun c_28 => ?_)
          · replace c_28 : i < P.length := (nI_ltI (by omega) (by omega)).mp c_28
            refine lv_iload_n hx hb dX6_differs_41 rfl (lv_at hl 2 rfl) ?_
            refine lv_istore (lv' := [(4, .int (nI i)), (0, .ref m), (1, .int (nI acc.2)), (2, .int (nI i)), (3, .int (nI j))]) hx hb dX6_differs_42 hl (by decide) rfl (fun ls hl => ?_)
            refine lv_sipush (v := nI 3300) hx hb dX6_differs_44 (by decide) ?_
            refine lv_iload_n hx hb dX6_differs_47 rfl (lv_at hl 4 rfl) ?_
            refine lv_iadd hx hb dX6_differs_48 ?_
            refine lv_topi (fun x_101 ex_101 => ?_)
            obtain rfl : x_101 = nI (3300 + j) := by
              rw [ex_101]
              exact nI_add _ _
            refine lv_istore (lv' := [(5, .int (nI (3300 + j))), (4, .int (nI i)), (0, .ref m), (1, .int (nI acc.2)), (2, .int (nI i)), (3, .int (nI j))]) hx hb dX6_differs_49 hl (by decide) rfl (fun ls hl => ?_)
            refine lv_iload_n hx hb dX6_differs_51 rfl (lv_at hl 4 rfl) ?_
            refine lv_aload_n hx hb dX6_differs_52 rfl (lv_at hl 2 rfl) ?_
            refine va_get (D := X.1) (ci := 6) (v := .ref mn) (C := RX6) (T := TX6) (N := 25) hx hb hts hin6 hown hK hP 0 rfl rfl 4 (by decide) lk7 (fun _ h9 => h9) rfl dX6_differs_53 ?_
            refine lv_iconst (v := nI 0) hx hb dX6_differs_56 (by decide) ?_
            have hi_102 : vp_in (nI 0) 2 := vp_in_nI (by omega) (by omega)
            refine va_iald hx hb hK hP 1 0 rfl rfl hi_102 dX6_differs_57 ?_
            refine lv_topi (fun x_103 ex_103 => ?_)
            obtain rfl : x_103 = mf 0 := by
              rw [ex_103]
              rw [nI_clamp (by omega)]
            refine lv_topi (fun x_104 ex_104 => ?_)
            obtain rfl : x_104 = nI P.length := by
              rw [ex_104]
              exact h0.m
            refine lv_icmp_ne (tgt := 65) hx hb dX6_differs_58 (by decide) (fun c_58 => ?_) (fun c_58 => ?_)
            · replace c_58 : ¬ i = P.length := fun h9 => c_58 ((nI_eq (by omega) (by omega)).mpr h9)
              refine lv_iload_n hx hb dX6_differs_65 rfl (lv_at hl 5 rfl) ?_
              refine lv_aload_n hx hb dX6_differs_66 rfl (lv_at hl 2 rfl) ?_
              refine va_get (D := X.1) (ci := 6) (v := .ref mn) (C := RX6) (T := TX6) (N := 25) hx hb hts hin6 hown hK hP 0 rfl rfl 4 (by decide) lk7 (fun _ h9 => h9) rfl dX6_differs_67 ?_
              refine lv_iconst (v := nI 1) hx hb dX6_differs_70 (by decide) ?_
              have hi_105 : vp_in (nI 1) 2 := vp_in_nI (by omega) (by omega)
              refine va_iald hx hb hK hP 1 0 rfl rfl hi_105 dX6_differs_71 ?_
              refine lv_topi (fun x_106 ex_106 => ?_)
              obtain rfl : x_106 = mf 1 := by
                rw [ex_106]
                rw [nI_clamp (by omega)]
              refine lv_topi (fun x_107 ex_107 => ?_)
              obtain rfl : x_107 = nI Qm.length := by
                rw [ex_107]
                exact h1.m
              refine lv_icmp_ne (tgt := 79) hx hb dX6_differs_72 (by decide) (fun c_72 => ?_) (fun c_72 => ?_)
              · replace c_72 : ¬ j = Qm.length := fun h9 => c_72 ((nI_eq (by omega) (by omega)).mpr h9)
                refine lv_aload_n hx hb dX6_differs_79 rfl (lv_at hl 2 rfl) ?_
                refine va_get (D := X.1) (ci := 6) (v := .ref xr) (C := RX6) (T := TX6) (N := 25) hx hb hts hin6 hown hK hP 0 rfl rfl 5 (by decide) lk13 (fun _ h9 => h9) rfl dX6_differs_80 ?_
                refine lv_iload hx hb dX6_differs_83 (lv_at hl 1 rfl) ?_
                have hi_108 : vp_in (nI i) 6600 := vp_in_nI (by omega) (by omega)
                refine va_iald hx hb hK hP 2 0 rfl rfl hi_108 dX6_differs_85 ?_
                refine lv_topi (fun x_109 ex_109 => ?_)
                obtain rfl : x_109 = xf i := by
                  rw [ex_109]
                  rw [nI_clamp (by omega)]
                refine lv_topi (fun x_110 ex_110 => ?_)
                obtain rfl : x_110 = nI (pK P i / 32768) := by
                  rw [ex_110]
                  have e9 := (h0.X i (by omega)).1
                  first | exact e9 | (rw [Nat.mul_zero, Nat.zero_add] at e9; exact e9) | (rw [Nat.mul_one] at e9; exact e9)
                refine lv_aload_n hx hb dX6_differs_86 rfl (lv_at hl 2 rfl) ?_
                refine va_get (D := X.1) (ci := 6) (v := .ref xr) (C := RX6) (T := TX6) (N := 25) hx hb hts hin6 hown hK hP 0 rfl rfl 5 (by decide) lk13 (fun _ h9 => h9) rfl dX6_differs_87 ?_
                refine lv_iload hx hb dX6_differs_90 (lv_at hl 0 rfl) ?_
                have hi_111 : vp_in (nI (3300 + j)) 6600 := vp_in_nI (by omega) (by omega)
                refine va_iald hx hb hK hP 2 0 rfl rfl hi_111 dX6_differs_92 ?_
                refine lv_topi (fun x_112 ex_112 => ?_)
                obtain rfl : x_112 = xf (3300 + j) := by
                  rw [ex_112]
                  rw [nI_clamp (by omega)]
                refine lv_topi (fun x_113 ex_113 => ?_)
                obtain rfl : x_113 = nI (pK Qm j / 32768) := by
                  rw [ex_113]
                  have e9 := (h1.X j (by omega)).1
                  first | exact e9 | (rw [Nat.mul_zero, Nat.zero_add] at e9; exact e9) | (rw [Nat.mul_one] at e9; exact e9)
                refine lv_icmp_eq (tgt := 114) hx hb dX6_differs_93 (by decide) (fun c_93 => ?_) (fun c_93 => ?_)
                · replace c_93 : (pK P i / 32768) = (pK Qm j / 32768) := (nI_eq (by omega) (by omega)).mp c_93
                  refine lv_aload_n hx hb dX6_differs_114 rfl (lv_at hl 2 rfl) ?_
                  refine va_get (D := X.1) (ci := 6) (v := .ref yr) (C := RX6) (T := TX6) (N := 25) hx hb hts hin6 hown hK hP 0 rfl rfl 6 (by decide) lk16 (fun _ h9 => h9) rfl dX6_differs_115 ?_
                  refine lv_iload hx hb dX6_differs_118 (lv_at hl 1 rfl) ?_
                  have hi_114 : vp_in (nI i) 6600 := vp_in_nI (by omega) (by omega)
                  refine va_iald hx hb hK hP 3 0 rfl rfl hi_114 dX6_differs_120 ?_
                  refine lv_topi (fun x_115 ex_115 => ?_)
                  obtain rfl : x_115 = yf i := by
                    rw [ex_115]
                    rw [nI_clamp (by omega)]
                  refine lv_topi (fun x_116 ex_116 => ?_)
                  obtain rfl : x_116 = nI (pK P i % 32768) := by
                    rw [ex_116]
                    have e9 := (h0.X i (by omega)).2
                    first | exact e9 | (rw [Nat.mul_zero, Nat.zero_add] at e9; exact e9) | (rw [Nat.mul_one] at e9; exact e9)
                  refine lv_aload_n hx hb dX6_differs_121 rfl (lv_at hl 2 rfl) ?_
                  refine va_get (D := X.1) (ci := 6) (v := .ref yr) (C := RX6) (T := TX6) (N := 25) hx hb hts hin6 hown hK hP 0 rfl rfl 6 (by decide) lk16 (fun _ h9 => h9) rfl dX6_differs_122 ?_
                  refine lv_iload hx hb dX6_differs_125 (lv_at hl 0 rfl) ?_
                  have hi_117 : vp_in (nI (3300 + j)) 6600 := vp_in_nI (by omega) (by omega)
                  refine va_iald hx hb hK hP 3 0 rfl rfl hi_117 dX6_differs_127 ?_
                  refine lv_topi (fun x_118 ex_118 => ?_)
                  obtain rfl : x_118 = yf (3300 + j) := by
                    rw [ex_118]
                    rw [nI_clamp (by omega)]
                  refine lv_topi (fun x_119 ex_119 => ?_)
                  obtain rfl : x_119 = nI (pK Qm j % 32768) := by
                    rw [ex_119]
                    have e9 := (h1.X j (by omega)).2
                    first | exact e9 | (rw [Nat.mul_zero, Nat.zero_add] at e9; exact e9) | (rw [Nat.mul_one] at e9; exact e9)
                  refine lv_isub hx hb dX6_differs_128 ?_
                  refine lv_topi (fun x_120 ex_120 => ?_)
                  obtain rfl : x_120 = nI ((pK P i % 32768) - (pK Qm j % 32768)) := by
                    rw [ex_120]
                    exact pk_sub (by omega)
                  refine lv_istore (lv' := [(6, .int (nI ((pK P i % 32768) - (pK Qm j % 32768)))), (5, .int (nI (3300 + j))), (4, .int (nI i)), (0, .ref m), (1, .int (nI acc.2)), (2, .int (nI i)), (3, .int (nI j))]) hx hb dX6_differs_129 hl (by decide) rfl (fun ls hl => ?_)
                  refine lv_iload hx hb dX6_differs_131 (lv_at hl 0 rfl) ?_
                  refine lv_if_ge (tgt := 169) hx hb dX6_differs_133 (by decide) (fun c_133 => ?_) (fun c_133 => ?_)
                  · change nI 0 ≤ nI ((pK P i % 32768) - (pK Qm j % 32768)) at c_133
                    replace c_133 : 0 ≤ ((pK P i % 32768) - (pK Qm j % 32768)) := (nI_leI (by omega) (by omega)).mp c_133
                    refine lv_iload hx hb dX6_differs_169 (lv_at hl 0 rfl) ?_
                    refine lv_if_le (tgt := 201) hx hb dX6_differs_171 (by decide) (fun c_171 => ?_) (fun c_171 => ?_)
                    · change nI ((pK P i % 32768) - (pK Qm j % 32768)) ≤ nI 0 at c_171
                      replace c_171 : ((pK P i % 32768) - (pK Qm j % 32768)) ≤ 0 := (nI_leI (by omega) (by omega)).mp c_171
                      omega
                    · change ¬ (nI ((pK P i % 32768) - (pK Qm j % 32768)) ≤ nI 0) at c_171
                      replace c_171 : ¬ ((pK P i % 32768) - (pK Qm j % 32768)) ≤ 0 := fun h9 => c_171 ((nI_leI (by omega) (by omega)).mpr h9)
                      refine lv_aload_n hx hb dX6_differs_174 rfl (lv_at hl 3 rfl) ?_
                      refine lv_iload_n hx hb dX6_differs_175 rfl (lv_at hl 4 rfl) ?_
                      refine lv_aload_n hx hb dX6_differs_176 rfl (lv_at hl 3 rfl) ?_
                      refine va_get (D := X.1) (ci := 6) (v := .ref xr) (C := RX6) (T := TX6) (N := 25) hx hb hts hin6 hown hK hP 0 rfl rfl 5 (by decide) lk13 (fun _ h9 => h9) rfl dX6_differs_177 ?_
                      refine lv_iload hx hb dX6_differs_180 (lv_at hl 1 rfl) ?_
                      have hi_121 : vp_in (nI (3300 + j)) 6600 := vp_in_nI (by omega) (by omega)
                      refine va_iald hx hb hK hP 2 0 rfl rfl hi_121 dX6_differs_182 ?_
                      refine lv_topi (fun x_122 ex_122 => ?_)
                      obtain rfl : x_122 = xf (3300 + j) := by
                        rw [ex_122]
                        rw [nI_clamp (by omega)]
                      refine lv_topi (fun x_123 ex_123 => ?_)
                      obtain rfl : x_123 = nI (pK Qm j / 32768) := by
                        rw [ex_123]
                        have e9 := (h1.X j (by omega)).1
                        first | exact e9 | (rw [Nat.mul_zero, Nat.zero_add] at e9; exact e9) | (rw [Nat.mul_one] at e9; exact e9)
                      refine lv_aload_n hx hb dX6_differs_183 rfl (lv_at hl 3 rfl) ?_
                      refine va_get (D := X.1) (ci := 6) (v := .ref yr) (C := RX6) (T := TX6) (N := 25) hx hb hts hin6 hown hK hP 0 rfl rfl 6 (by decide) lk16 (fun _ h9 => h9) rfl dX6_differs_184 ?_
                      refine lv_iload hx hb dX6_differs_187 (lv_at hl 1 rfl) ?_
                      have hi_124 : vp_in (nI (3300 + j)) 6600 := vp_in_nI (by omega) (by omega)
                      refine va_iald hx hb hK hP 3 0 rfl rfl hi_124 dX6_differs_189 ?_
                      refine lv_topi (fun x_125 ex_125 => ?_)
                      obtain rfl : x_125 = yf (3300 + j) := by
                        rw [ex_125]
                        rw [nI_clamp (by omega)]
                      refine lv_topi (fun x_126 ex_126 => ?_)
                      obtain rfl : x_126 = nI (pK Qm j % 32768) := by
                        rw [ex_126]
                        have e9 := (h1.X j (by omega)).2
                        first | exact e9 | (rw [Nat.mul_zero, Nat.zero_add] at e9; exact e9) | (rw [Nat.mul_one] at e9; exact e9)
                      refine lv_iconst (v := (-1)) hx hb dX6_differs_190 (by decide) ?_
                      refine ckVv (As := [.int (nI acc.2), .int (nI (pK Qm j / 32768)), .int (nI (pK Qm j % 32768)), .int (-1)]) (rest := []) 0 [0, 5, 6, 7] (c_X6_tells l X m bl bk b sp mn xr yr vr cr wr nc wl wc rx ry rv fr (nI 0) f_ar f_wt f_lv f_fi f_en f_cd acc.2 (pK Qm j) (-1) rx1 ry1 rv1 acc.1 hr1 hmn (by omega)) ⟨hx, hb, hml, hown, hts⟩ (cwV 4 hts gX6_differs_X6_tells rfl rfl rfl (by decide +kernel) ⟨Nat.le_of_ble_eq_true rfl, Nat.le_of_ble_eq_true rfl⟩) hK hN hP hD hS (by decide) rfl (ci := 6) rfl rfl (fun _ => rfl) rfl hl.1 rfl (Nat.le_of_ble_eq_true rfl) dX6_differs_191 ⟨Nat.zero_le _, Nat.zero_le _⟩ (fun u_127 H locs hra hP hD hS => ?_)
                      obtain ⟨rx2, ry2, rv2⟩ := u_127
                      have hP : va_P X.1 vwCl [(m, .inr (6, [.int (nI bl), .int (nI bk), .int (nI b), .int (nI sp), .ref mn, .ref xr, .ref yr, .ref vr, .ref cr, .ref wr, .int (nI nc), .int (nI 0), .int f_ar, .ref wl, .ref wc, .int f_wt, .int f_lv, .int f_fi, .int f_en, .long f_cd, .ref rx, .ref ry, .ref rv, .ref fr, .int (nI ((rsAdd acc.1 (pK Qm j) (-1)).length))])), (mn, .inl (X.2.1, 2, .inl mf)), (xr, .inl (X.2.1, 6600, .inl xf)), (yr, .inl (X.2.1, 6600, .inl yf)), (vr, .inl (X.2.1, 6600, .inl vf)), (rx, .inl (X.2.1, 150, .inl rx2)), (ry, .inl (X.2.1, 150, .inl ry2)), (rv, .inl (X.2.1, 150, .inl rv2))] H := hP
                      have hD : va_D A_ [(m, .inr (6, [.int (nI bl), .int (nI bk), .int (nI b), .int (nI sp), .ref mn, .ref xr, .ref yr, .ref vr, .ref cr, .ref wr, .int (nI nc), .int (nI 0), .int f_ar, .ref wl, .ref wc, .int f_wt, .int f_lv, .int f_fi, .int f_en, .long f_cd, .ref rx, .ref ry, .ref rv, .ref fr, .int (nI ((rsAdd acc.1 (pK Qm j) (-1)).length))])), (mn, .inl (X.2.1, 2, .inl mf)), (xr, .inl (X.2.1, 6600, .inl xf)), (yr, .inl (X.2.1, 6600, .inl yf)), (vr, .inl (X.2.1, 6600, .inl vf)), (rx, .inl (X.2.1, 150, .inl rx2)), (ry, .inl (X.2.1, 150, .inl ry2)), (rv, .inl (X.2.1, 150, .inl rv2))] := hD
                      try dsimp only at hra
                      refine lv_iload_n hx hb dX6_differs_194 rfl (lv_at hl 4 rfl) ?_
                      refine lv_iconst (v := nI 1) hx hb dX6_differs_195 (by decide) ?_
                      refine lv_iadd hx hb dX6_differs_196 ?_
                      refine lv_topi (fun x_129 ex_129 => ?_)
                      obtain rfl : x_129 = nI (acc.2 + 1) := by
                        rw [ex_129]
                        exact nI_add _ _
                      refine lv_istore_n (lv' := [(1, .int (nI (acc.2 + 1))), (6, .int (nI ((pK P i % 32768) - (pK Qm j % 32768)))), (5, .int (nI (3300 + j))), (4, .int (nI i)), (0, .ref m), (2, .int (nI i)), (3, .int (nI j))]) hx hb dX6_differs_197 rfl hl (by decide) rfl (fun ls hl => ?_)
                      refine lv_goto (tgt := 248) hx hb dX6_differs_198 (by decide) ?_
                      refine lv_iload hx hb dX6_differs_248 (lv_at hl 1 rfl) ?_
                      refine lv_if_gt (tgt := 257) hx hb dX6_differs_250 (by decide) (fun c_250 => ?_) (fun c_250 => ?_)
                      · change nI 0 < nI ((pK P i % 32768) - (pK Qm j % 32768)) at c_250
                        replace c_250 : 0 < ((pK P i % 32768) - (pK Qm j % 32768)) := (nI_ltI (by omega) (by omega)).mp c_250
                        refine lv_iload hx hb dX6_differs_257 (lv_at hl 1 rfl) ?_
                        refine lv_if_lt (tgt := 266) hx hb dX6_differs_259 (by decide) (fun c_259 => ?_) (fun c_259 => ?_)
                        · exact absurd c_259 (by first | exact nI_pos (by omega) | exact fun h9 => h9 (nI_pos' (by omega)))
                        · change ¬ (nI ((pK P i % 32768) - (pK Qm j % 32768)) < nI 0) at c_259
                          replace c_259 : ¬ ((pK P i % 32768) - (pK Qm j % 32768)) < 0 := fun h9 => c_259 ((nI_ltI (by omega) (by omega)).mpr h9)
                          refine lv_iload_n hx hb dX6_differs_262 rfl (lv_at hl 6 rfl) ?_
                          refine lv_iconst (v := nI 1) hx hb dX6_differs_263 (by decide) ?_
                          refine lv_iadd hx hb dX6_differs_264 ?_
                          refine lv_topi (fun x_130 ex_130 => ?_)
                          obtain rfl : x_130 = nI (j + 1) := by
                            rw [ex_130]
                            exact nI_add _ _
                          refine lv_istore_n (lv' := [(3, .int (nI (j + 1))), (1, .int (nI (acc.2 + 1))), (6, .int (nI ((pK P i % 32768) - (pK Qm j % 32768)))), (5, .int (nI (3300 + j))), (4, .int (nI i)), (0, .ref m), (2, .int (nI i))]) hx hb dX6_differs_265 rfl hl (by decide) rfl (fun ls hl => ?_)
                          refine lv_goto (tgt := 21) hx hb dX6_differs_266 (by decide) ?_
                          exact ih21 i (j + 1) (dAdd acc (pK Qm j) (-1)) rx2 ry2 rv2 (by omega) (by omega) (by rw [← h4, difA_gt hi hj hlt]) (by exact hra) (by exact dA_len hmn) (by show acc.2 + 1 ≤ _; omega) (by omega) _ _ hP hD hS ls (lv_sub hl [5, 1, 6, 0] rfl)
                      · change ¬ (nI 0 < nI ((pK P i % 32768) - (pK Qm j % 32768))) at c_250
                        replace c_250 : ¬ 0 < ((pK P i % 32768) - (pK Qm j % 32768)) := fun h9 => c_250 ((nI_ltI (by omega) (by omega)).mpr h9)
                        omega
                  · exact absurd c_133 (by first | exact nI_pos (by omega) | exact fun h9 => h9 (nI_pos' (by omega)))
                · replace c_93 : ¬ (pK P i / 32768) = (pK Qm j / 32768) := fun h9 => c_93 ((nI_eq (by omega) (by omega)).mpr h9)
                  refine lv_aload_n hx hb dX6_differs_96 rfl (lv_at hl 2 rfl) ?_
                  refine va_get (D := X.1) (ci := 6) (v := .ref xr) (C := RX6) (T := TX6) (N := 25) hx hb hts hin6 hown hK hP 0 rfl rfl 5 (by decide) lk13 (fun _ h9 => h9) rfl dX6_differs_97 ?_
                  refine lv_iload hx hb dX6_differs_100 (lv_at hl 1 rfl) ?_
                  have hi_131 : vp_in (nI i) 6600 := vp_in_nI (by omega) (by omega)
                  refine va_iald hx hb hK hP 2 0 rfl rfl hi_131 dX6_differs_102 ?_
                  refine lv_topi (fun x_132 ex_132 => ?_)
                  obtain rfl : x_132 = xf i := by
                    rw [ex_132]
                    rw [nI_clamp (by omega)]
                  refine lv_topi (fun x_133 ex_133 => ?_)
                  obtain rfl : x_133 = nI (pK P i / 32768) := by
                    rw [ex_133]
                    have e9 := (h0.X i (by omega)).1
                    first | exact e9 | (rw [Nat.mul_zero, Nat.zero_add] at e9; exact e9) | (rw [Nat.mul_one] at e9; exact e9)
                  refine lv_aload_n hx hb dX6_differs_103 rfl (lv_at hl 2 rfl) ?_
                  refine va_get (D := X.1) (ci := 6) (v := .ref xr) (C := RX6) (T := TX6) (N := 25) hx hb hts hin6 hown hK hP 0 rfl rfl 5 (by decide) lk13 (fun _ h9 => h9) rfl dX6_differs_104 ?_
                  refine lv_iload hx hb dX6_differs_107 (lv_at hl 0 rfl) ?_
                  have hi_134 : vp_in (nI (3300 + j)) 6600 := vp_in_nI (by omega) (by omega)
                  refine va_iald hx hb hK hP 2 0 rfl rfl hi_134 dX6_differs_109 ?_
                  refine lv_topi (fun x_135 ex_135 => ?_)
                  obtain rfl : x_135 = xf (3300 + j) := by
                    rw [ex_135]
                    rw [nI_clamp (by omega)]
                  refine lv_topi (fun x_136 ex_136 => ?_)
                  obtain rfl : x_136 = nI (pK Qm j / 32768) := by
                    rw [ex_136]
                    have e9 := (h1.X j (by omega)).1
                    first | exact e9 | (rw [Nat.mul_zero, Nat.zero_add] at e9; exact e9) | (rw [Nat.mul_one] at e9; exact e9)
                  refine lv_isub hx hb dX6_differs_110 ?_
                  refine lv_topi (fun x_137 ex_137 => ?_)
                  obtain rfl : x_137 = nI ((pK P i / 32768) - (pK Qm j / 32768)) := by
                    rw [ex_137]
                    exact pk_sub (by omega)
                  refine lv_goto (tgt := 129) hx hb dX6_differs_111 (by decide) ?_
                  refine lv_istore (lv' := [(6, .int (nI ((pK P i / 32768) - (pK Qm j / 32768)))), (5, .int (nI (3300 + j))), (4, .int (nI i)), (0, .ref m), (1, .int (nI acc.2)), (2, .int (nI i)), (3, .int (nI j))]) hx hb dX6_differs_129 hl (by decide) rfl (fun ls hl => ?_)
                  refine lv_iload hx hb dX6_differs_131 (lv_at hl 0 rfl) ?_
                  refine lv_if_ge (tgt := 169) hx hb dX6_differs_133 (by decide) (fun c_133 => ?_) (fun c_133 => ?_)
                  · change nI 0 ≤ nI ((pK P i / 32768) - (pK Qm j / 32768)) at c_133
                    replace c_133 : 0 ≤ ((pK P i / 32768) - (pK Qm j / 32768)) := (nI_leI (by omega) (by omega)).mp c_133
                    refine lv_iload hx hb dX6_differs_169 (lv_at hl 0 rfl) ?_
                    refine lv_if_le (tgt := 201) hx hb dX6_differs_171 (by decide) (fun c_171 => ?_) (fun c_171 => ?_)
                    · change nI ((pK P i / 32768) - (pK Qm j / 32768)) ≤ nI 0 at c_171
                      replace c_171 : ((pK P i / 32768) - (pK Qm j / 32768)) ≤ 0 := (nI_leI (by omega) (by omega)).mp c_171
                      omega
                    · change ¬ (nI ((pK P i / 32768) - (pK Qm j / 32768)) ≤ nI 0) at c_171
                      replace c_171 : ¬ ((pK P i / 32768) - (pK Qm j / 32768)) ≤ 0 := fun h9 => c_171 ((nI_leI (by omega) (by omega)).mpr h9)
                      refine lv_aload_n hx hb dX6_differs_174 rfl (lv_at hl 3 rfl) ?_
                      refine lv_iload_n hx hb dX6_differs_175 rfl (lv_at hl 4 rfl) ?_
                      refine lv_aload_n hx hb dX6_differs_176 rfl (lv_at hl 3 rfl) ?_
                      refine va_get (D := X.1) (ci := 6) (v := .ref xr) (C := RX6) (T := TX6) (N := 25) hx hb hts hin6 hown hK hP 0 rfl rfl 5 (by decide) lk13 (fun _ h9 => h9) rfl dX6_differs_177 ?_
                      refine lv_iload hx hb dX6_differs_180 (lv_at hl 1 rfl) ?_
                      have hi_138 : vp_in (nI (3300 + j)) 6600 := vp_in_nI (by omega) (by omega)
                      refine va_iald hx hb hK hP 2 0 rfl rfl hi_138 dX6_differs_182 ?_
                      refine lv_topi (fun x_139 ex_139 => ?_)
                      obtain rfl : x_139 = xf (3300 + j) := by
                        rw [ex_139]
                        rw [nI_clamp (by omega)]
                      refine lv_topi (fun x_140 ex_140 => ?_)
                      obtain rfl : x_140 = nI (pK Qm j / 32768) := by
                        rw [ex_140]
                        have e9 := (h1.X j (by omega)).1
                        first | exact e9 | (rw [Nat.mul_zero, Nat.zero_add] at e9; exact e9) | (rw [Nat.mul_one] at e9; exact e9)
                      refine lv_aload_n hx hb dX6_differs_183 rfl (lv_at hl 3 rfl) ?_
                      refine va_get (D := X.1) (ci := 6) (v := .ref yr) (C := RX6) (T := TX6) (N := 25) hx hb hts hin6 hown hK hP 0 rfl rfl 6 (by decide) lk16 (fun _ h9 => h9) rfl dX6_differs_184 ?_
                      refine lv_iload hx hb dX6_differs_187 (lv_at hl 1 rfl) ?_
                      have hi_141 : vp_in (nI (3300 + j)) 6600 := vp_in_nI (by omega) (by omega)
                      refine va_iald hx hb hK hP 3 0 rfl rfl hi_141 dX6_differs_189 ?_
                      refine lv_topi (fun x_142 ex_142 => ?_)
                      obtain rfl : x_142 = yf (3300 + j) := by
                        rw [ex_142]
                        rw [nI_clamp (by omega)]
                      refine lv_topi (fun x_143 ex_143 => ?_)
                      obtain rfl : x_143 = nI (pK Qm j % 32768) := by
                        rw [ex_143]
                        have e9 := (h1.X j (by omega)).2
                        first | exact e9 | (rw [Nat.mul_zero, Nat.zero_add] at e9; exact e9) | (rw [Nat.mul_one] at e9; exact e9)
                      refine lv_iconst (v := (-1)) hx hb dX6_differs_190 (by decide) ?_
                      refine ckVv (As := [.int (nI acc.2), .int (nI (pK Qm j / 32768)), .int (nI (pK Qm j % 32768)), .int (-1)]) (rest := []) 0 [0, 5, 6, 7] (c_X6_tells l X m bl bk b sp mn xr yr vr cr wr nc wl wc rx ry rv fr (nI 0) f_ar f_wt f_lv f_fi f_en f_cd acc.2 (pK Qm j) (-1) rx1 ry1 rv1 acc.1 hr1 hmn (by omega)) ⟨hx, hb, hml, hown, hts⟩ (cwV 4 hts gX6_differs_X6_tells rfl rfl rfl (by decide +kernel) ⟨Nat.le_of_ble_eq_true rfl, Nat.le_of_ble_eq_true rfl⟩) hK hN hP hD hS (by decide) rfl (ci := 6) rfl rfl (fun _ => rfl) rfl hl.1 rfl (Nat.le_of_ble_eq_true rfl) dX6_differs_191 ⟨Nat.zero_le _, Nat.zero_le _⟩ (fun u_144 H locs hra hP hD hS => ?_)
                      obtain ⟨rx2, ry2, rv2⟩ := u_144
                      have hP : va_P X.1 vwCl [(m, .inr (6, [.int (nI bl), .int (nI bk), .int (nI b), .int (nI sp), .ref mn, .ref xr, .ref yr, .ref vr, .ref cr, .ref wr, .int (nI nc), .int (nI 0), .int f_ar, .ref wl, .ref wc, .int f_wt, .int f_lv, .int f_fi, .int f_en, .long f_cd, .ref rx, .ref ry, .ref rv, .ref fr, .int (nI ((rsAdd acc.1 (pK Qm j) (-1)).length))])), (mn, .inl (X.2.1, 2, .inl mf)), (xr, .inl (X.2.1, 6600, .inl xf)), (yr, .inl (X.2.1, 6600, .inl yf)), (vr, .inl (X.2.1, 6600, .inl vf)), (rx, .inl (X.2.1, 150, .inl rx2)), (ry, .inl (X.2.1, 150, .inl ry2)), (rv, .inl (X.2.1, 150, .inl rv2))] H := hP
                      have hD : va_D A_ [(m, .inr (6, [.int (nI bl), .int (nI bk), .int (nI b), .int (nI sp), .ref mn, .ref xr, .ref yr, .ref vr, .ref cr, .ref wr, .int (nI nc), .int (nI 0), .int f_ar, .ref wl, .ref wc, .int f_wt, .int f_lv, .int f_fi, .int f_en, .long f_cd, .ref rx, .ref ry, .ref rv, .ref fr, .int (nI ((rsAdd acc.1 (pK Qm j) (-1)).length))])), (mn, .inl (X.2.1, 2, .inl mf)), (xr, .inl (X.2.1, 6600, .inl xf)), (yr, .inl (X.2.1, 6600, .inl yf)), (vr, .inl (X.2.1, 6600, .inl vf)), (rx, .inl (X.2.1, 150, .inl rx2)), (ry, .inl (X.2.1, 150, .inl ry2)), (rv, .inl (X.2.1, 150, .inl rv2))] := hD
                      try dsimp only at hra
                      refine lv_iload_n hx hb dX6_differs_194 rfl (lv_at hl 4 rfl) ?_
                      refine lv_iconst (v := nI 1) hx hb dX6_differs_195 (by decide) ?_
                      refine lv_iadd hx hb dX6_differs_196 ?_
                      refine lv_topi (fun x_146 ex_146 => ?_)
                      obtain rfl : x_146 = nI (acc.2 + 1) := by
                        rw [ex_146]
                        exact nI_add _ _
                      refine lv_istore_n (lv' := [(1, .int (nI (acc.2 + 1))), (6, .int (nI ((pK P i / 32768) - (pK Qm j / 32768)))), (5, .int (nI (3300 + j))), (4, .int (nI i)), (0, .ref m), (2, .int (nI i)), (3, .int (nI j))]) hx hb dX6_differs_197 rfl hl (by decide) rfl (fun ls hl => ?_)
                      refine lv_goto (tgt := 248) hx hb dX6_differs_198 (by decide) ?_
                      refine lv_iload hx hb dX6_differs_248 (lv_at hl 1 rfl) ?_
                      refine lv_if_gt (tgt := 257) hx hb dX6_differs_250 (by decide) (fun c_250 => ?_) (fun c_250 => ?_)
                      · change nI 0 < nI ((pK P i / 32768) - (pK Qm j / 32768)) at c_250
                        replace c_250 : 0 < ((pK P i / 32768) - (pK Qm j / 32768)) := (nI_ltI (by omega) (by omega)).mp c_250
                        refine lv_iload hx hb dX6_differs_257 (lv_at hl 1 rfl) ?_
                        refine lv_if_lt (tgt := 266) hx hb dX6_differs_259 (by decide) (fun c_259 => ?_) (fun c_259 => ?_)
                        · exact absurd c_259 (by first | exact nI_pos (by omega) | exact fun h9 => h9 (nI_pos' (by omega)))
                        · change ¬ (nI ((pK P i / 32768) - (pK Qm j / 32768)) < nI 0) at c_259
                          replace c_259 : ¬ ((pK P i / 32768) - (pK Qm j / 32768)) < 0 := fun h9 => c_259 ((nI_ltI (by omega) (by omega)).mpr h9)
                          refine lv_iload_n hx hb dX6_differs_262 rfl (lv_at hl 6 rfl) ?_
                          refine lv_iconst (v := nI 1) hx hb dX6_differs_263 (by decide) ?_
                          refine lv_iadd hx hb dX6_differs_264 ?_
                          refine lv_topi (fun x_147 ex_147 => ?_)
                          obtain rfl : x_147 = nI (j + 1) := by
                            rw [ex_147]
                            exact nI_add _ _
                          refine lv_istore_n (lv' := [(3, .int (nI (j + 1))), (1, .int (nI (acc.2 + 1))), (6, .int (nI ((pK P i / 32768) - (pK Qm j / 32768)))), (5, .int (nI (3300 + j))), (4, .int (nI i)), (0, .ref m), (2, .int (nI i))]) hx hb dX6_differs_265 rfl hl (by decide) rfl (fun ls hl => ?_)
                          refine lv_goto (tgt := 21) hx hb dX6_differs_266 (by decide) ?_
                          exact ih21 i (j + 1) (dAdd acc (pK Qm j) (-1)) rx2 ry2 rv2 (by omega) (by omega) (by rw [← h4, difA_gt hi hj hlt]) (by exact hra) (by exact dA_len hmn) (by show acc.2 + 1 ≤ _; omega) (by omega) _ _ hP hD hS ls (lv_sub hl [5, 1, 6, 0] rfl)
                      · change ¬ (nI 0 < nI ((pK P i / 32768) - (pK Qm j / 32768))) at c_250
                        replace c_250 : ¬ 0 < ((pK P i / 32768) - (pK Qm j / 32768)) := fun h9 => c_250 ((nI_ltI (by omega) (by omega)).mpr h9)
                        omega
                  · exact absurd c_133 (by first | exact nI_pos (by omega) | exact fun h9 => h9 (nI_pos' (by omega)))
              · replace c_72 : j = Qm.length := (nI_eq (by omega) (by omega)).mp c_72
                omega
            · replace c_58 : i = P.length := (nI_eq (by omega) (by omega)).mp c_58
              omega
          · replace c_28 : ¬ i < P.length := fun h9 => c_28 ((nI_ltI (by omega) (by omega)).mpr h9)
            omega
        · skip
          have hb1 := h0.L.kb hi
          have hb2 := h1.L.kb hj
          have hb3 := h0.L.vb hi
          have hb4 := h1.L.vb hj
          refine lv_iload_n hx hb dX6_differs_21 rfl (lv_at hl 2 rfl) ?_
          refine lv_aload_n hx hb dX6_differs_22 rfl (lv_at hl 0 rfl) ?_
          refine va_get (D := X.1) (ci := 6) (v := .ref mn) (C := RX6) (T := TX6) (N := 25) hx hb hts hin6 hown hK hP 0 rfl rfl 4 (by decide) lk7 (fun _ h9 => h9) rfl dX6_differs_23 ?_
          refine lv_iconst (v := nI 0) hx hb dX6_differs_26 (by decide) ?_
          have hi_148 : vp_in (nI 0) 2 := vp_in_nI (by omega) (by omega)
          refine va_iald hx hb hK hP 1 0 rfl rfl hi_148 dX6_differs_27 ?_
          refine lv_topi (fun x_149 ex_149 => ?_)
          obtain rfl : x_149 = mf 0 := by
            rw [ex_149]
            rw [nI_clamp (by omega)]
          refine lv_topi (fun x_150 ex_150 => ?_)
          obtain rfl : x_150 = nI P.length := by
            rw [ex_150]
            exact h0.m
          refine lv_icmp_lt (tgt := 41) hx hb dX6_differs_28 (by decide) (fun c_28 => ?_) (fun c_28 => ?_)
          · replace c_28 : i < P.length := (nI_ltI (by omega) (by omega)).mp c_28
            refine lv_iload_n hx hb dX6_differs_41 rfl (lv_at hl 2 rfl) ?_
            refine lv_istore (lv' := [(4, .int (nI i)), (0, .ref m), (1, .int (nI acc.2)), (2, .int (nI i)), (3, .int (nI j))]) hx hb dX6_differs_42 hl (by decide) rfl (fun ls hl => ?_)
            refine lv_sipush (v := nI 3300) hx hb dX6_differs_44 (by decide) ?_
            refine lv_iload_n hx hb dX6_differs_47 rfl (lv_at hl 4 rfl) ?_
            refine lv_iadd hx hb dX6_differs_48 ?_
            refine lv_topi (fun x_151 ex_151 => ?_)
            obtain rfl : x_151 = nI (3300 + j) := by
              rw [ex_151]
              exact nI_add _ _
            refine lv_istore (lv' := [(5, .int (nI (3300 + j))), (4, .int (nI i)), (0, .ref m), (1, .int (nI acc.2)), (2, .int (nI i)), (3, .int (nI j))]) hx hb dX6_differs_49 hl (by decide) rfl (fun ls hl => ?_)
            refine lv_iload_n hx hb dX6_differs_51 rfl (lv_at hl 4 rfl) ?_
            refine lv_aload_n hx hb dX6_differs_52 rfl (lv_at hl 2 rfl) ?_
            refine va_get (D := X.1) (ci := 6) (v := .ref mn) (C := RX6) (T := TX6) (N := 25) hx hb hts hin6 hown hK hP 0 rfl rfl 4 (by decide) lk7 (fun _ h9 => h9) rfl dX6_differs_53 ?_
            refine lv_iconst (v := nI 0) hx hb dX6_differs_56 (by decide) ?_
            have hi_152 : vp_in (nI 0) 2 := vp_in_nI (by omega) (by omega)
            refine va_iald hx hb hK hP 1 0 rfl rfl hi_152 dX6_differs_57 ?_
            refine lv_topi (fun x_153 ex_153 => ?_)
            obtain rfl : x_153 = mf 0 := by
              rw [ex_153]
              rw [nI_clamp (by omega)]
            refine lv_topi (fun x_154 ex_154 => ?_)
            obtain rfl : x_154 = nI P.length := by
              rw [ex_154]
              exact h0.m
            refine lv_icmp_ne (tgt := 65) hx hb dX6_differs_58 (by decide) (fun c_58 => ?_) (fun c_58 => ?_)
            · replace c_58 : ¬ i = P.length := fun h9 => c_58 ((nI_eq (by omega) (by omega)).mpr h9)
              refine lv_iload_n hx hb dX6_differs_65 rfl (lv_at hl 5 rfl) ?_
              refine lv_aload_n hx hb dX6_differs_66 rfl (lv_at hl 2 rfl) ?_
              refine va_get (D := X.1) (ci := 6) (v := .ref mn) (C := RX6) (T := TX6) (N := 25) hx hb hts hin6 hown hK hP 0 rfl rfl 4 (by decide) lk7 (fun _ h9 => h9) rfl dX6_differs_67 ?_
              refine lv_iconst (v := nI 1) hx hb dX6_differs_70 (by decide) ?_
              have hi_155 : vp_in (nI 1) 2 := vp_in_nI (by omega) (by omega)
              refine va_iald hx hb hK hP 1 0 rfl rfl hi_155 dX6_differs_71 ?_
              refine lv_topi (fun x_156 ex_156 => ?_)
              obtain rfl : x_156 = mf 1 := by
                rw [ex_156]
                rw [nI_clamp (by omega)]
              refine lv_topi (fun x_157 ex_157 => ?_)
              obtain rfl : x_157 = nI Qm.length := by
                rw [ex_157]
                exact h1.m
              refine lv_icmp_ne (tgt := 79) hx hb dX6_differs_72 (by decide) (fun c_72 => ?_) (fun c_72 => ?_)
              · replace c_72 : ¬ j = Qm.length := fun h9 => c_72 ((nI_eq (by omega) (by omega)).mpr h9)
                refine lv_aload_n hx hb dX6_differs_79 rfl (lv_at hl 2 rfl) ?_
                refine va_get (D := X.1) (ci := 6) (v := .ref xr) (C := RX6) (T := TX6) (N := 25) hx hb hts hin6 hown hK hP 0 rfl rfl 5 (by decide) lk13 (fun _ h9 => h9) rfl dX6_differs_80 ?_
                refine lv_iload hx hb dX6_differs_83 (lv_at hl 1 rfl) ?_
                have hi_158 : vp_in (nI i) 6600 := vp_in_nI (by omega) (by omega)
                refine va_iald hx hb hK hP 2 0 rfl rfl hi_158 dX6_differs_85 ?_
                refine lv_topi (fun x_159 ex_159 => ?_)
                obtain rfl : x_159 = xf i := by
                  rw [ex_159]
                  rw [nI_clamp (by omega)]
                refine lv_topi (fun x_160 ex_160 => ?_)
                obtain rfl : x_160 = nI (pK P i / 32768) := by
                  rw [ex_160]
                  have e9 := (h0.X i (by omega)).1
                  first | exact e9 | (rw [Nat.mul_zero, Nat.zero_add] at e9; exact e9) | (rw [Nat.mul_one] at e9; exact e9)
                refine lv_aload_n hx hb dX6_differs_86 rfl (lv_at hl 2 rfl) ?_
                refine va_get (D := X.1) (ci := 6) (v := .ref xr) (C := RX6) (T := TX6) (N := 25) hx hb hts hin6 hown hK hP 0 rfl rfl 5 (by decide) lk13 (fun _ h9 => h9) rfl dX6_differs_87 ?_
                refine lv_iload hx hb dX6_differs_90 (lv_at hl 0 rfl) ?_
                have hi_161 : vp_in (nI (3300 + j)) 6600 := vp_in_nI (by omega) (by omega)
                refine va_iald hx hb hK hP 2 0 rfl rfl hi_161 dX6_differs_92 ?_
                refine lv_topi (fun x_162 ex_162 => ?_)
                obtain rfl : x_162 = xf (3300 + j) := by
                  rw [ex_162]
                  rw [nI_clamp (by omega)]
                refine lv_topi (fun x_163 ex_163 => ?_)
                obtain rfl : x_163 = nI (pK Qm j / 32768) := by
                  rw [ex_163]
                  have e9 := (h1.X j (by omega)).1
                  first | exact e9 | (rw [Nat.mul_zero, Nat.zero_add] at e9; exact e9) | (rw [Nat.mul_one] at e9; exact e9)
                refine lv_icmp_eq (tgt := 114) hx hb dX6_differs_93 (by decide) (fun c_93 => ?_) (fun c_93 => ?_)
                · replace c_93 : (pK P i / 32768) = (pK Qm j / 32768) := (nI_eq (by omega) (by omega)).mp c_93
                  refine lv_aload_n hx hb dX6_differs_114 rfl (lv_at hl 2 rfl) ?_
                  refine va_get (D := X.1) (ci := 6) (v := .ref yr) (C := RX6) (T := TX6) (N := 25) hx hb hts hin6 hown hK hP 0 rfl rfl 6 (by decide) lk16 (fun _ h9 => h9) rfl dX6_differs_115 ?_
                  refine lv_iload hx hb dX6_differs_118 (lv_at hl 1 rfl) ?_
                  have hi_164 : vp_in (nI i) 6600 := vp_in_nI (by omega) (by omega)
                  refine va_iald hx hb hK hP 3 0 rfl rfl hi_164 dX6_differs_120 ?_
                  refine lv_topi (fun x_165 ex_165 => ?_)
                  obtain rfl : x_165 = yf i := by
                    rw [ex_165]
                    rw [nI_clamp (by omega)]
                  refine lv_topi (fun x_166 ex_166 => ?_)
                  obtain rfl : x_166 = nI (pK P i % 32768) := by
                    rw [ex_166]
                    have e9 := (h0.X i (by omega)).2
                    first | exact e9 | (rw [Nat.mul_zero, Nat.zero_add] at e9; exact e9) | (rw [Nat.mul_one] at e9; exact e9)
                  refine lv_aload_n hx hb dX6_differs_121 rfl (lv_at hl 2 rfl) ?_
                  refine va_get (D := X.1) (ci := 6) (v := .ref yr) (C := RX6) (T := TX6) (N := 25) hx hb hts hin6 hown hK hP 0 rfl rfl 6 (by decide) lk16 (fun _ h9 => h9) rfl dX6_differs_122 ?_
                  refine lv_iload hx hb dX6_differs_125 (lv_at hl 0 rfl) ?_
                  have hi_167 : vp_in (nI (3300 + j)) 6600 := vp_in_nI (by omega) (by omega)
                  refine va_iald hx hb hK hP 3 0 rfl rfl hi_167 dX6_differs_127 ?_
                  refine lv_topi (fun x_168 ex_168 => ?_)
                  obtain rfl : x_168 = yf (3300 + j) := by
                    rw [ex_168]
                    rw [nI_clamp (by omega)]
                  refine lv_topi (fun x_169 ex_169 => ?_)
                  obtain rfl : x_169 = nI (pK Qm j % 32768) := by
                    rw [ex_169]
                    have e9 := (h1.X j (by omega)).2
                    first | exact e9 | (rw [Nat.mul_zero, Nat.zero_add] at e9; exact e9) | (rw [Nat.mul_one] at e9; exact e9)
                  refine lv_isub hx hb dX6_differs_128 ?_
                  refine lv_topi (fun x_170 ex_170 => ?_)
                  obtain rfl : x_170 = nI ((pK P i % 32768) - (pK Qm j % 32768)) := by
                    rw [ex_170]
                    exact pk_sub (by omega)
                  refine lv_istore (lv' := [(6, .int (nI ((pK P i % 32768) - (pK Qm j % 32768)))), (5, .int (nI (3300 + j))), (4, .int (nI i)), (0, .ref m), (1, .int (nI acc.2)), (2, .int (nI i)), (3, .int (nI j))]) hx hb dX6_differs_129 hl (by decide) rfl (fun ls hl => ?_)
                  refine lv_iload hx hb dX6_differs_131 (lv_at hl 0 rfl) ?_
                  refine lv_if_ge (tgt := 169) hx hb dX6_differs_133 (by decide) (fun c_133 => ?_) (fun c_133 => ?_)
                  · change nI 0 ≤ nI ((pK P i % 32768) - (pK Qm j % 32768)) at c_133
                    replace c_133 : 0 ≤ ((pK P i % 32768) - (pK Qm j % 32768)) := (nI_leI (by omega) (by omega)).mp c_133
                    refine lv_iload hx hb dX6_differs_169 (lv_at hl 0 rfl) ?_
                    refine lv_if_le (tgt := 201) hx hb dX6_differs_171 (by decide) (fun c_171 => ?_) (fun c_171 => ?_)
                    · change nI ((pK P i % 32768) - (pK Qm j % 32768)) ≤ nI 0 at c_171
                      replace c_171 : ((pK P i % 32768) - (pK Qm j % 32768)) ≤ 0 := (nI_leI (by omega) (by omega)).mp c_171
                      refine lv_aload_n hx hb dX6_differs_201 rfl (lv_at hl 3 rfl) ?_
                      refine va_get (D := X.1) (ci := 6) (v := .ref vr) (C := RX6) (T := TX6) (N := 25) hx hb hts hin6 hown hK hP 0 rfl rfl 7 (by decide) lk19 (fun _ h9 => h9) rfl dX6_differs_202 ?_
                      refine lv_iload hx hb dX6_differs_205 (lv_at hl 2 rfl) ?_
                      have hi_171 : vp_in (nI i) 6600 := vp_in_nI (by omega) (by omega)
                      refine va_iald hx hb hK hP 4 0 rfl rfl hi_171 dX6_differs_207 ?_
                      refine lv_topi (fun x_172 ex_172 => ?_)
                      obtain rfl : x_172 = vf i := by
                        rw [ex_172]
                        rw [nI_clamp (by omega)]
                      refine lv_topi (fun x_173 ex_173 => ?_)
                      obtain rfl : x_173 = nI (pV P i) := by
                        rw [ex_173]
                        have e9 := h0.V i (by omega)
                        first | exact e9 | (rw [Nat.mul_zero, Nat.zero_add] at e9; exact e9) | (rw [Nat.mul_one] at e9; exact e9)
                      refine lv_aload_n hx hb dX6_differs_208 rfl (lv_at hl 3 rfl) ?_
                      refine va_get (D := X.1) (ci := 6) (v := .ref vr) (C := RX6) (T := TX6) (N := 25) hx hb hts hin6 hown hK hP 0 rfl rfl 7 (by decide) lk19 (fun _ h9 => h9) rfl dX6_differs_209 ?_
                      refine lv_iload hx hb dX6_differs_212 (lv_at hl 1 rfl) ?_
                      have hi_174 : vp_in (nI (3300 + j)) 6600 := vp_in_nI (by omega) (by omega)
                      refine va_iald hx hb hK hP 4 0 rfl rfl hi_174 dX6_differs_214 ?_
                      refine lv_topi (fun x_175 ex_175 => ?_)
                      obtain rfl : x_175 = vf (3300 + j) := by
                        rw [ex_175]
                        rw [nI_clamp (by omega)]
                      refine lv_topi (fun x_176 ex_176 => ?_)
                      obtain rfl : x_176 = nI (pV Qm j) := by
                        rw [ex_176]
                        have e9 := h1.V j (by omega)
                        first | exact e9 | (rw [Nat.mul_zero, Nat.zero_add] at e9; exact e9) | (rw [Nat.mul_one] at e9; exact e9)
                      refine lv_icmp_eq (tgt := 248) hx hb dX6_differs_215 (by decide) (fun c_215 => ?_) (fun c_215 => ?_)
                      · replace c_215 : (pV P i) = (pV Qm j) := (nI_eq (by omega) (by omega)).mp c_215
                        refine lv_iload hx hb dX6_differs_248 (lv_at hl 0 rfl) ?_
                        refine lv_if_gt (tgt := 257) hx hb dX6_differs_250 (by decide) (fun c_250 => ?_) (fun c_250 => ?_)
                        · change nI 0 < nI ((pK P i % 32768) - (pK Qm j % 32768)) at c_250
                          replace c_250 : 0 < ((pK P i % 32768) - (pK Qm j % 32768)) := (nI_ltI (by omega) (by omega)).mp c_250
                          omega
                        · change ¬ (nI 0 < nI ((pK P i % 32768) - (pK Qm j % 32768))) at c_250
                          replace c_250 : ¬ 0 < ((pK P i % 32768) - (pK Qm j % 32768)) := fun h9 => c_250 ((nI_ltI (by omega) (by omega)).mpr h9)
                          refine lv_iload_n hx hb dX6_differs_253 rfl (lv_at hl 5 rfl) ?_
                          refine lv_iconst (v := nI 1) hx hb dX6_differs_254 (by decide) ?_
                          refine lv_iadd hx hb dX6_differs_255 ?_
                          refine lv_topi (fun x_177 ex_177 => ?_)
                          obtain rfl : x_177 = nI (i + 1) := by
                            rw [ex_177]
                            exact nI_add _ _
                          refine lv_istore_n (lv' := [(2, .int (nI (i + 1))), (6, .int (nI ((pK P i % 32768) - (pK Qm j % 32768)))), (5, .int (nI (3300 + j))), (4, .int (nI i)), (0, .ref m), (1, .int (nI acc.2)), (3, .int (nI j))]) hx hb dX6_differs_256 rfl hl (by decide) rfl (fun ls hl => ?_)
                          refine lv_iload hx hb dX6_differs_257 (lv_at hl 1 rfl) ?_
                          refine lv_if_lt (tgt := 266) hx hb dX6_differs_259 (by decide) (fun c_259 => ?_) (fun c_259 => ?_)
                          · exact absurd c_259 (by first | exact nI_pos (by omega) | exact fun h9 => h9 (nI_pos' (by omega)))
                          · change ¬ (nI ((pK P i % 32768) - (pK Qm j % 32768)) < nI 0) at c_259
                            replace c_259 : ¬ ((pK P i % 32768) - (pK Qm j % 32768)) < 0 := fun h9 => c_259 ((nI_ltI (by omega) (by omega)).mpr h9)
                            refine lv_iload_n hx hb dX6_differs_262 rfl (lv_at hl 6 rfl) ?_
                            refine lv_iconst (v := nI 1) hx hb dX6_differs_263 (by decide) ?_
                            refine lv_iadd hx hb dX6_differs_264 ?_
                            refine lv_topi (fun x_178 ex_178 => ?_)
                            obtain rfl : x_178 = nI (j + 1) := by
                              rw [ex_178]
                              exact nI_add _ _
                            refine lv_istore_n (lv' := [(3, .int (nI (j + 1))), (2, .int (nI (i + 1))), (6, .int (nI ((pK P i % 32768) - (pK Qm j % 32768)))), (5, .int (nI (3300 + j))), (4, .int (nI i)), (0, .ref m), (1, .int (nI acc.2))]) hx hb dX6_differs_265 rfl hl (by decide) rfl (fun ls hl => ?_)
                            refine lv_goto (tgt := 21) hx hb dX6_differs_266 (by decide) ?_
                            exact ih21 (i + 1) (j + 1) acc rx1 ry1 rv1 (by omega) (by omega) (by rw [← h4, difA_eq hi hj hlt, if_pos c_215]) (by exact hr1) (by exact hmn) (by omega) (by omega) _ _ hP hD hS ls (lv_sub hl [5, 6, 1, 0] rfl)
                      · replace c_215 : ¬ (pV P i) = (pV Qm j) := fun h9 => c_215 ((nI_eq (by omega) (by omega)).mpr h9)
                        refine lv_aload_n hx hb dX6_differs_218 rfl (lv_at hl 3 rfl) ?_
                        refine lv_iload_n hx hb dX6_differs_219 rfl (lv_at hl 4 rfl) ?_
                        refine lv_aload_n hx hb dX6_differs_220 rfl (lv_at hl 3 rfl) ?_
                        refine va_get (D := X.1) (ci := 6) (v := .ref xr) (C := RX6) (T := TX6) (N := 25) hx hb hts hin6 hown hK hP 0 rfl rfl 5 (by decide) lk13 (fun _ h9 => h9) rfl dX6_differs_221 ?_
                        refine lv_iload hx hb dX6_differs_224 (lv_at hl 2 rfl) ?_
                        have hi_179 : vp_in (nI i) 6600 := vp_in_nI (by omega) (by omega)
                        refine va_iald hx hb hK hP 2 0 rfl rfl hi_179 dX6_differs_226 ?_
                        refine lv_topi (fun x_180 ex_180 => ?_)
                        obtain rfl : x_180 = xf i := by
                          rw [ex_180]
                          rw [nI_clamp (by omega)]
                        refine lv_topi (fun x_181 ex_181 => ?_)
                        obtain rfl : x_181 = nI (pK P i / 32768) := by
                          rw [ex_181]
                          have e9 := (h0.X i (by omega)).1
                          first | exact e9 | (rw [Nat.mul_zero, Nat.zero_add] at e9; exact e9) | (rw [Nat.mul_one] at e9; exact e9)
                        refine lv_aload_n hx hb dX6_differs_227 rfl (lv_at hl 3 rfl) ?_
                        refine va_get (D := X.1) (ci := 6) (v := .ref yr) (C := RX6) (T := TX6) (N := 25) hx hb hts hin6 hown hK hP 0 rfl rfl 6 (by decide) lk16 (fun _ h9 => h9) rfl dX6_differs_228 ?_
                        refine lv_iload hx hb dX6_differs_231 (lv_at hl 2 rfl) ?_
                        have hi_182 : vp_in (nI i) 6600 := vp_in_nI (by omega) (by omega)
                        refine va_iald hx hb hK hP 3 0 rfl rfl hi_182 dX6_differs_233 ?_
                        refine lv_topi (fun x_183 ex_183 => ?_)
                        obtain rfl : x_183 = yf i := by
                          rw [ex_183]
                          rw [nI_clamp (by omega)]
                        refine lv_topi (fun x_184 ex_184 => ?_)
                        obtain rfl : x_184 = nI (pK P i % 32768) := by
                          rw [ex_184]
                          have e9 := (h0.X i (by omega)).2
                          first | exact e9 | (rw [Nat.mul_zero, Nat.zero_add] at e9; exact e9) | (rw [Nat.mul_one] at e9; exact e9)
                        refine lv_aload_n hx hb dX6_differs_234 rfl (lv_at hl 3 rfl) ?_
                        refine va_get (D := X.1) (ci := 6) (v := .ref vr) (C := RX6) (T := TX6) (N := 25) hx hb hts hin6 hown hK hP 0 rfl rfl 7 (by decide) lk19 (fun _ h9 => h9) rfl dX6_differs_235 ?_
                        refine lv_iload hx hb dX6_differs_238 (lv_at hl 2 rfl) ?_
                        have hi_185 : vp_in (nI i) 6600 := vp_in_nI (by omega) (by omega)
                        refine va_iald hx hb hK hP 4 0 rfl rfl hi_185 dX6_differs_240 ?_
                        refine lv_topi (fun x_186 ex_186 => ?_)
                        obtain rfl : x_186 = vf i := by
                          rw [ex_186]
                          rw [nI_clamp (by omega)]
                        refine lv_topi (fun x_187 ex_187 => ?_)
                        obtain rfl : x_187 = nI (pV P i) := by
                          rw [ex_187]
                          have e9 := h0.V i (by omega)
                          first | exact e9 | (rw [Nat.mul_zero, Nat.zero_add] at e9; exact e9) | (rw [Nat.mul_one] at e9; exact e9)
                        refine ckVv (As := [.int (nI acc.2), .int (nI (pK P i / 32768)), .int (nI (pK P i % 32768)), .int (nI (pV P i))]) (rest := []) 0 [0, 5, 6, 7] (c_X6_tells l X m bl bk b sp mn xr yr vr cr wr nc wl wc rx ry rv fr (nI 0) f_ar f_wt f_lv f_fi f_en f_cd acc.2 (pK P i) (nI (pV P i)) rx1 ry1 rv1 acc.1 hr1 hmn (by omega)) ⟨hx, hb, hml, hown, hts⟩ (cwV 4 hts gX6_differs_X6_tells rfl rfl rfl (by decide +kernel) ⟨Nat.le_of_ble_eq_true rfl, Nat.le_of_ble_eq_true rfl⟩) hK hN hP hD hS (by decide) rfl (ci := 6) rfl rfl (fun _ => rfl) rfl hl.1 rfl (Nat.le_of_ble_eq_true rfl) dX6_differs_241 ⟨Nat.zero_le _, Nat.zero_le _⟩ (fun u_188 H locs hra hP hD hS => ?_)
                        obtain ⟨rx2, ry2, rv2⟩ := u_188
                        have hP : va_P X.1 vwCl [(m, .inr (6, [.int (nI bl), .int (nI bk), .int (nI b), .int (nI sp), .ref mn, .ref xr, .ref yr, .ref vr, .ref cr, .ref wr, .int (nI nc), .int (nI 0), .int f_ar, .ref wl, .ref wc, .int f_wt, .int f_lv, .int f_fi, .int f_en, .long f_cd, .ref rx, .ref ry, .ref rv, .ref fr, .int (nI ((rsAdd acc.1 (pK P i) (nI (pV P i))).length))])), (mn, .inl (X.2.1, 2, .inl mf)), (xr, .inl (X.2.1, 6600, .inl xf)), (yr, .inl (X.2.1, 6600, .inl yf)), (vr, .inl (X.2.1, 6600, .inl vf)), (rx, .inl (X.2.1, 150, .inl rx2)), (ry, .inl (X.2.1, 150, .inl ry2)), (rv, .inl (X.2.1, 150, .inl rv2))] H := hP
                        have hD : va_D A_ [(m, .inr (6, [.int (nI bl), .int (nI bk), .int (nI b), .int (nI sp), .ref mn, .ref xr, .ref yr, .ref vr, .ref cr, .ref wr, .int (nI nc), .int (nI 0), .int f_ar, .ref wl, .ref wc, .int f_wt, .int f_lv, .int f_fi, .int f_en, .long f_cd, .ref rx, .ref ry, .ref rv, .ref fr, .int (nI ((rsAdd acc.1 (pK P i) (nI (pV P i))).length))])), (mn, .inl (X.2.1, 2, .inl mf)), (xr, .inl (X.2.1, 6600, .inl xf)), (yr, .inl (X.2.1, 6600, .inl yf)), (vr, .inl (X.2.1, 6600, .inl vf)), (rx, .inl (X.2.1, 150, .inl rx2)), (ry, .inl (X.2.1, 150, .inl ry2)), (rv, .inl (X.2.1, 150, .inl rv2))] := hD
                        try dsimp only at hra
                        refine lv_iload_n hx hb dX6_differs_244 rfl (lv_at hl 4 rfl) ?_
                        refine lv_iconst (v := nI 1) hx hb dX6_differs_245 (by decide) ?_
                        refine lv_iadd hx hb dX6_differs_246 ?_
                        refine lv_topi (fun x_190 ex_190 => ?_)
                        obtain rfl : x_190 = nI (acc.2 + 1) := by
                          rw [ex_190]
                          exact nI_add _ _
                        refine lv_istore_n (lv' := [(1, .int (nI (acc.2 + 1))), (6, .int (nI ((pK P i % 32768) - (pK Qm j % 32768)))), (5, .int (nI (3300 + j))), (4, .int (nI i)), (0, .ref m), (2, .int (nI i)), (3, .int (nI j))]) hx hb dX6_differs_247 rfl hl (by decide) rfl (fun ls hl => ?_)
                        refine lv_iload hx hb dX6_differs_248 (lv_at hl 1 rfl) ?_
                        refine lv_if_gt (tgt := 257) hx hb dX6_differs_250 (by decide) (fun c_250 => ?_) (fun c_250 => ?_)
                        · change nI 0 < nI ((pK P i % 32768) - (pK Qm j % 32768)) at c_250
                          replace c_250 : 0 < ((pK P i % 32768) - (pK Qm j % 32768)) := (nI_ltI (by omega) (by omega)).mp c_250
                          omega
                        · change ¬ (nI 0 < nI ((pK P i % 32768) - (pK Qm j % 32768))) at c_250
                          replace c_250 : ¬ 0 < ((pK P i % 32768) - (pK Qm j % 32768)) := fun h9 => c_250 ((nI_ltI (by omega) (by omega)).mpr h9)
                          refine lv_iload_n hx hb dX6_differs_253 rfl (lv_at hl 5 rfl) ?_
                          refine lv_iconst (v := nI 1) hx hb dX6_differs_254 (by decide) ?_
                          refine lv_iadd hx hb dX6_differs_255 ?_
                          refine lv_topi (fun x_191 ex_191 => ?_)
                          obtain rfl : x_191 = nI (i + 1) := by
                            rw [ex_191]
                            exact nI_add _ _
                          refine lv_istore_n (lv' := [(2, .int (nI (i + 1))), (1, .int (nI (acc.2 + 1))), (6, .int (nI ((pK P i % 32768) - (pK Qm j % 32768)))), (5, .int (nI (3300 + j))), (4, .int (nI i)), (0, .ref m), (3, .int (nI j))]) hx hb dX6_differs_256 rfl hl (by decide) rfl (fun ls hl => ?_)
                          refine lv_iload hx hb dX6_differs_257 (lv_at hl 2 rfl) ?_
                          refine lv_if_lt (tgt := 266) hx hb dX6_differs_259 (by decide) (fun c_259 => ?_) (fun c_259 => ?_)
                          · exact absurd c_259 (by first | exact nI_pos (by omega) | exact fun h9 => h9 (nI_pos' (by omega)))
                          · change ¬ (nI ((pK P i % 32768) - (pK Qm j % 32768)) < nI 0) at c_259
                            replace c_259 : ¬ ((pK P i % 32768) - (pK Qm j % 32768)) < 0 := fun h9 => c_259 ((nI_ltI (by omega) (by omega)).mpr h9)
                            refine lv_iload_n hx hb dX6_differs_262 rfl (lv_at hl 6 rfl) ?_
                            refine lv_iconst (v := nI 1) hx hb dX6_differs_263 (by decide) ?_
                            refine lv_iadd hx hb dX6_differs_264 ?_
                            refine lv_topi (fun x_192 ex_192 => ?_)
                            obtain rfl : x_192 = nI (j + 1) := by
                              rw [ex_192]
                              exact nI_add _ _
                            refine lv_istore_n (lv' := [(3, .int (nI (j + 1))), (2, .int (nI (i + 1))), (1, .int (nI (acc.2 + 1))), (6, .int (nI ((pK P i % 32768) - (pK Qm j % 32768)))), (5, .int (nI (3300 + j))), (4, .int (nI i)), (0, .ref m)]) hx hb dX6_differs_265 rfl hl (by decide) rfl (fun ls hl => ?_)
                            refine lv_goto (tgt := 21) hx hb dX6_differs_266 (by decide) ?_
                            exact ih21 (i + 1) (j + 1) (dAdd acc (pK P i) (nI (pV P i))) rx2 ry2 rv2 (by omega) (by omega) (by rw [← h4, difA_eq hi hj hlt, if_neg c_215]) (by exact hra) (by exact dA_len hmn) (by show acc.2 + 1 ≤ _; omega) (by omega) _ _ hP hD hS ls (lv_sub hl [6, 2, 1, 0] rfl)
                    · change ¬ (nI ((pK P i % 32768) - (pK Qm j % 32768)) ≤ nI 0) at c_171
                      replace c_171 : ¬ ((pK P i % 32768) - (pK Qm j % 32768)) ≤ 0 := fun h9 => c_171 ((nI_leI (by omega) (by omega)).mpr h9)
                      omega
                  · exact absurd c_133 (by first | exact nI_pos (by omega) | exact fun h9 => h9 (nI_pos' (by omega)))
                · replace c_93 : ¬ (pK P i / 32768) = (pK Qm j / 32768) := fun h9 => c_93 ((nI_eq (by omega) (by omega)).mpr h9)
                  omega
              · replace c_72 : j = Qm.length := (nI_eq (by omega) (by omega)).mp c_72
                omega
            · replace c_58 : i = P.length := (nI_eq (by omega) (by omega)).mp c_58
              omega
          · replace c_28 : ¬ i < P.length := fun h9 => c_28 ((nI_ltI (by omega) (by omega)).mpr h9)
            omega
        · skip
          skip
          refine lv_iload_n hx hb dX6_differs_21 rfl (lv_at hl 2 rfl) ?_
          refine lv_aload_n hx hb dX6_differs_22 rfl (lv_at hl 0 rfl) ?_
          refine va_get (D := X.1) (ci := 6) (v := .ref mn) (C := RX6) (T := TX6) (N := 25) hx hb hts hin6 hown hK hP 0 rfl rfl 4 (by decide) lk7 (fun _ h9 => h9) rfl dX6_differs_23 ?_
          refine lv_iconst (v := nI 0) hx hb dX6_differs_26 (by decide) ?_
          have hi_193 : vp_in (nI 0) 2 := vp_in_nI (by omega) (by omega)
          refine va_iald hx hb hK hP 1 0 rfl rfl hi_193 dX6_differs_27 ?_
          refine lv_topi (fun x_194 ex_194 => ?_)
          obtain rfl : x_194 = mf 0 := by
            rw [ex_194]
            rw [nI_clamp (by omega)]
          refine lv_topi (fun x_195 ex_195 => ?_)
          obtain rfl : x_195 = nI P.length := by
            rw [ex_195]
            exact h0.m
          refine lv_icmp_lt (tgt := 41) hx hb dX6_differs_28 (by decide) (fun c_28 => ?_) (fun c_28 => ?_)
          · replace c_28 : i < P.length := (nI_ltI (by omega) (by omega)).mp c_28
            omega
          · replace c_28 : ¬ i < P.length := fun h9 => c_28 ((nI_ltI (by omega) (by omega)).mpr h9)
            refine lv_iload_n hx hb dX6_differs_31 rfl (lv_at hl 3 rfl) ?_
            refine lv_aload_n hx hb dX6_differs_32 rfl (lv_at hl 0 rfl) ?_
            refine va_get (D := X.1) (ci := 6) (v := .ref mn) (C := RX6) (T := TX6) (N := 25) hx hb hts hin6 hown hK hP 0 rfl rfl 4 (by decide) lk7 (fun _ h9 => h9) rfl dX6_differs_33 ?_
            refine lv_iconst (v := nI 1) hx hb dX6_differs_36 (by decide) ?_
            have hi_196 : vp_in (nI 1) 2 := vp_in_nI (by omega) (by omega)
            refine va_iald hx hb hK hP 1 0 rfl rfl hi_196 dX6_differs_37 ?_
            refine lv_topi (fun x_197 ex_197 => ?_)
            obtain rfl : x_197 = mf 1 := by
              rw [ex_197]
              rw [nI_clamp (by omega)]
            refine lv_topi (fun x_198 ex_198 => ?_)
            obtain rfl : x_198 = nI Qm.length := by
              rw [ex_198]
              exact h1.m
            refine lv_icmp_ge (tgt := 269) hx hb dX6_differs_38 (by decide) (fun c_38 => ?_) (fun c_38 => ?_)
            · replace c_38 : Qm.length ≤ j := (nI_leI (by omega) (by omega)).mp c_38
              refine lv_iload_n hx hb dX6_differs_269 rfl (lv_at hl 1 rfl) ?_
              refine wM hQ ?_
              exact rtI (rx1, ry1, rv1, acc.1) hx hb hr hlocks hP hS (⟨hr1, by rw [← h4, difA_end (by omega) (by omega)]⟩) dX6_differs_270
            · replace c_38 : ¬ Qm.length ≤ j := fun h9 => c_38 ((nI_leI (by omega) (by omega)).mpr h9)
              omega
    exact loop_21 _ 0 0 (([] : RSL), 0) rxf ryf rvf (by omega) (by omega) (by rfl) (by exact mR_nil) (by rfl) (by exact Nat.le_refl _) (Nat.lt_succ_self _) _ _ hP hD hS ls (lv_sub hl [3, 2, 1, 0] rfl)
  · exact absurd c_4 (by decide)
