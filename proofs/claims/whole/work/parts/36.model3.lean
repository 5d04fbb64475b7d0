/-! PointStoreModel: the walk: contracts, laid by program (wip/gen/spec_m3.py) -/
set_option maxHeartbeats 4000000 in
set_option maxRecDepth 100000 in
theorem c_X6_begins (l : Launch) (X : kX) (m bl bk b sp mn xr yr vr cr wr nc wl wc rx ry rv fr : Nat) (f_of f_ar f_wt f_lv f_fi f_en f_rs : Int32) (f_cd : Int64) (lf : Nat → Int32) (kf : Nat → Int64) : CWv l X yX6_begins wsX6_begins 0 [.ref m] [(m, .inr (6, [.int (nI bl), .int (nI bk), .int (nI b), .int (nI sp), .ref mn, .ref xr, .ref yr, .ref vr, .ref cr, .ref wr, .int (nI nc), .int f_of, .int f_ar, .ref wl, .ref wc, .int f_wt, .int f_lv, .int f_fi, .int f_en, .long f_cd, .ref rx, .ref ry, .ref rv, .ref fr, .int f_rs])), (wl, .inl (X.2.1, 80, .inl lf)), (wc, .inl (X.2.2, 80, .inr (.inl kf)))] (S := (Nat → Int32) × (Nat → Int64)) (fun u => u.1 0 = nI 0 ∧ u.2 0 = lN 0) (fun ⟨lf2, kf2⟩ => [(m, .inr (6, [.int (nI bl), .int (nI bk), .int (nI b), .int (nI sp), .ref mn, .ref xr, .ref yr, .ref vr, .ref cr, .ref wr, .int (nI nc), .int f_of, .int f_ar, .ref wl, .ref wc, .int (nI 1), .int f_lv, .int f_fi, .int f_en, .long f_cd, .ref rx, .ref ry, .ref rv, .ref fr, .int f_rs])), (wl, .inl (X.2.1, 80, .inl lf2)), (wc, .inl (X.2.2, 80, .inr (.inl kf2)))]) := by
  refine Met.ofW (cc := cX6_begins) (maxL := 1) (ret := none) (by decide) rfl ?_
  intro pz ez sz mz args below meth cz s₁ Bz hml hv
  obtain ⟨rfl, hP, hK, hD0, hN⟩ := hv
  have hx := Bz.exec
  have hb := Bz.bytes
  have hr := Bz.returns
  have hts := atoms_spec (ws := wsX6_begins) Bz.pre
  have hown : sz.vm.findClass RX6 = some mz.cls := findClass_of_methodNamed Bz.named
  have hlocks := Bz.notSynchronized
  have hD := inW.self hD0
  have hS : va_S (inW [(m, .inr (6, [.int (nI bl), .int (nI bk), .int (nI b), .int (nI sp), .ref mn, .ref xr, .ref yr, .ref vr, .ref cr, .ref wr, .int (nI nc), .int f_of, .int f_ar, .ref wl, .ref wc, .int f_wt, .int f_lv, .int f_fi, .int f_en, .long f_cd, .ref rx, .ref ry, .ref rv, .ref fr, .int f_rs])), (wl, .inl (X.2.1, 80, .inl lf)), (wc, .inl (X.2.2, 80, .inr (.inl kf)))]) sz.heap sz.heap [] := va_S.rf
  have hl := lv_entry ([.ref m]) (n := 1) (Nat.le_of_ble_eq_true rfl)
  rw [lg_entry_eq]
  generalize (lg_sl ([.ref m]) ++ List.replicate (1 - (lg_sl ([.ref m])).length) Slot.unset).toArray = ls at hl ⊢
  have hl : lv_has ls 1 [(0, .ref m)] := hl
  have lk33 := hts (.fieldLink RX6 33 "PointStoreModel" "waitLevel" "[I") (by decide +kernel)
  have lk36 := hts (.fieldLink RX6 36 "PointStoreModel" "waitCode" "[J") (by decide +kernel)
  have lk74 := hts (.fieldLink RX6 74 "PointStoreModel" "waits" "I") (by decide +kernel)
  have hin6 : ∀ w ∈ u_ws RX6 TX6 25, w ∈ wsX6_begins := by decide +kernel
  refine wQ (fun Q hQ => ?_)
  generalize hAe : inW [(m, .inr (6, [.int (nI bl), .int (nI bk), .int (nI b), .int (nI sp), .ref mn, .ref xr, .ref yr, .ref vr, .ref cr, .ref wr, .int (nI nc), .int f_of, .int f_ar, .ref wl, .ref wc, .int f_wt, .int f_lv, .int f_fi, .int f_en, .long f_cd, .ref rx, .ref ry, .ref rv, .ref fr, .int f_rs])), (wl, .inl (X.2.1, 80, .inl lf)), (wc, .inl (X.2.2, 80, .inr (.inl kf)))] = A_ at hD hS hQ
  refine lv_aload_n hx hb dX6_begins_0 rfl (lv_at hl 0 rfl) ?_
  refine lv_iconst (v := nI 1) hx hb dX6_begins_1 (by decide) ?_
  refine va_put (D := X.1) (ci := 6) (v := .int (nI 1)) (ty := .int) (C := RX6) (T := TX6) (N := 25) hx hb hts hin6 tyX6 tyX6_ok nmX6 hown hK hP hD hS 0 rfl rfl 15 (by decide) lk74 (fun _ h9 => h9) rfl (by decide +kernel) rfl rfl (Nat.le_of_ble_eq_true rfl) dX6_begins_2 (fun H locs hP hD hS => ?_)
  have hP : va_P X.1 vwCl [(m, .inr (6, [.int (nI bl), .int (nI bk), .int (nI b), .int (nI sp), .ref mn, .ref xr, .ref yr, .ref vr, .ref cr, .ref wr, .int (nI nc), .int f_of, .int f_ar, .ref wl, .ref wc, .int (nI 1), .int f_lv, .int f_fi, .int f_en, .long f_cd, .ref rx, .ref ry, .ref rv, .ref fr, .int f_rs])), (wl, .inl (X.2.1, 80, .inl lf)), (wc, .inl (X.2.2, 80, .inr (.inl kf)))] H := hP
  have hD : va_D A_ [(m, .inr (6, [.int (nI bl), .int (nI bk), .int (nI b), .int (nI sp), .ref mn, .ref xr, .ref yr, .ref vr, .ref cr, .ref wr, .int (nI nc), .int f_of, .int f_ar, .ref wl, .ref wc, .int (nI 1), .int f_lv, .int f_fi, .int f_en, .long f_cd, .ref rx, .ref ry, .ref rv, .ref fr, .int f_rs])), (wl, .inl (X.2.1, 80, .inl lf)), (wc, .inl (X.2.2, 80, .inr (.inl kf)))] := hD
  refine lv_aload_n hx hb dX6_begins_5 rfl (lv_at hl 0 rfl) ?_
  refine va_get (D := X.1) (ci := 6) (v := .ref wl) (C := RX6) (T := TX6) (N := 25) hx hb hts hin6 hown hK hP 0 rfl rfl 13 (by decide) lk33 (fun _ h9 => h9) rfl dX6_begins_6 ?_
  refine lv_iconst (v := nI 0) hx hb dX6_begins_9 (by decide) ?_
  refine lv_iconst (v := nI 0) hx hb dX6_begins_10 (by decide) ?_
  have hi_1 : vp_in (nI 0) 80 := vp_in_nI (by omega) (by omega)
  refine va_iast hx hb hK hP hD hS 1 0 rfl rfl hi_1 dX6_begins_11 (fun H locs hP hD hS => ?_)
  rw [nI_clamp (by omega)] at hP hD
  have hP : va_P X.1 vwCl [(m, .inr (6, [.int (nI bl), .int (nI bk), .int (nI b), .int (nI sp), .ref mn, .ref xr, .ref yr, .ref vr, .ref cr, .ref wr, .int (nI nc), .int f_of, .int f_ar, .ref wl, .ref wc, .int (nI 1), .int f_lv, .int f_fi, .int f_en, .long f_cd, .ref rx, .ref ry, .ref rv, .ref fr, .int f_rs])), (wl, .inl (X.2.1, 80, .inl (upd lf 0 (nI 0)))), (wc, .inl (X.2.2, 80, .inr (.inl kf)))] H := hP
  have hD : va_D A_ [(m, .inr (6, [.int (nI bl), .int (nI bk), .int (nI b), .int (nI sp), .ref mn, .ref xr, .ref yr, .ref vr, .ref cr, .ref wr, .int (nI nc), .int f_of, .int f_ar, .ref wl, .ref wc, .int (nI 1), .int f_lv, .int f_fi, .int f_en, .long f_cd, .ref rx, .ref ry, .ref rv, .ref fr, .int f_rs])), (wl, .inl (X.2.1, 80, .inl (upd lf 0 (nI 0)))), (wc, .inl (X.2.2, 80, .inr (.inl kf)))] := hD
  refine lv_aload_n hx hb dX6_begins_12 rfl (lv_at hl 0 rfl) ?_
  refine va_get (D := X.1) (ci := 6) (v := .ref wc) (C := RX6) (T := TX6) (N := 25) hx hb hts hin6 hown hK hP 0 rfl rfl 14 (by decide) lk36 (fun _ h9 => h9) rfl dX6_begins_13 ?_
  refine lv_iconst (v := nI 0) hx hb dX6_begins_16 (by decide) ?_
  refine lv_lconst (v := lN 0) hx hb dX6_begins_17 (by decide) ?_
  have hi_2 : vp_in (nI 0) 80 := vp_in_nI (by omega) (by omega)
  refine va_last hx hb hK hP hD hS 2 1 rfl rfl hi_2 dX6_begins_18 (fun H locs hP hD hS => ?_)
  rw [nI_clamp (by omega)] at hP hD
  have hP : va_P X.1 vwCl [(m, .inr (6, [.int (nI bl), .int (nI bk), .int (nI b), .int (nI sp), .ref mn, .ref xr, .ref yr, .ref vr, .ref cr, .ref wr, .int (nI nc), .int f_of, .int f_ar, .ref wl, .ref wc, .int (nI 1), .int f_lv, .int f_fi, .int f_en, .long f_cd, .ref rx, .ref ry, .ref rv, .ref fr, .int f_rs])), (wl, .inl (X.2.1, 80, .inl (upd lf 0 (nI 0)))), (wc, .inl (X.2.2, 80, .inr (.inl (vp_updL kf 0 (lN 0)))))] H := hP
  have hD : va_D A_ [(m, .inr (6, [.int (nI bl), .int (nI bk), .int (nI b), .int (nI sp), .ref mn, .ref xr, .ref yr, .ref vr, .ref cr, .ref wr, .int (nI nc), .int f_of, .int f_ar, .ref wl, .ref wc, .int (nI 1), .int f_lv, .int f_fi, .int f_en, .long f_cd, .ref rx, .ref ry, .ref rv, .ref fr, .int f_rs])), (wl, .inl (X.2.1, 80, .inl (upd lf 0 (nI 0)))), (wc, .inl (X.2.2, 80, .inr (.inl (vp_updL kf 0 (lN 0)))))] := hD
  refine wM hQ ?_
  exact rtV (upd lf 0 (nI 0), vp_updL kf 0 (lN 0)) hx hb hr hlocks hP hS (⟨(pk_us : upd lf 0 (nI 0) 0 = nI 0), (pk_uLs : vp_updL kf 0 (lN 0) 0 = lN 0)⟩) dX6_begins_19
set_option maxHeartbeats 4000000 in
set_option maxRecDepth 100000 in
theorem c_X6_next (l : Launch) (X : kX) (m bl bk b sp mn xr yr vr cr wr nc wl wc rx ry rv fr : Nat) (f_of f_ar f_wt f_fi f_en f_rs : Int32) (d X_ Y_ : Nat) (hb1 : b ≤ 15) (hrg : rgOk b (d, X_, Y_)) : CRl l X yX6_next wsX6_next 0 [.ref m] [(m, .inr (6, [.int (nI bl), .int (nI bk), .int (nI b), .int (nI sp), .ref mn, .ref xr, .ref yr, .ref vr, .ref cr, .ref wr, .int (nI nc), .int f_of, .int f_ar, .ref wl, .ref wc, .int f_wt, .int (nI (b - d)), .int f_fi, .int f_en, .long (lN (cdR b (d, X_, Y_))), .ref rx, .ref ry, .ref rv, .ref fr, .int f_rs]))] (fun r => r = lN (cdR b (d, X_, Y_) + 4 ^ d)) := by
  refine Met.ofW (cc := cX6_next) (maxL := 1) (ret := some (.long)) (by decide) rfl ?_
  intro pz ez sz mz args below meth cz s₁ Bz hml hv
  obtain ⟨rfl, hP, hK, hD0, hN⟩ := hv
  have hx := Bz.exec
  have hb := Bz.bytes
  have hr := Bz.returns
  have hts := atoms_spec (ws := wsX6_next) Bz.pre
  have hown : sz.vm.findClass RX6 = some mz.cls := findClass_of_methodNamed Bz.named
  have hlocks := Bz.notSynchronized
  have hD := inW.self hD0
  have hS : va_S (inW [(m, .inr (6, [.int (nI bl), .int (nI bk), .int (nI b), .int (nI sp), .ref mn, .ref xr, .ref yr, .ref vr, .ref cr, .ref wr, .int (nI nc), .int f_of, .int f_ar, .ref wl, .ref wc, .int f_wt, .int (nI (b - d)), .int f_fi, .int f_en, .long (lN (cdR b (d, X_, Y_))), .ref rx, .ref ry, .ref rv, .ref fr, .int f_rs]))]) sz.heap sz.heap [] := va_S.rf
  have hl := lv_entry ([.ref m]) (n := 1) (Nat.le_of_ble_eq_true rfl)
  rw [lg_entry_eq]
  generalize (lg_sl ([.ref m]) ++ List.replicate (1 - (lg_sl ([.ref m])).length) Slot.unset).toArray = ls at hl ⊢
  have hl : lv_has ls 1 [(0, .ref m)] := hl
  have lk57 := hts (.fieldLink RX6 57 "PointStoreModel" "bits" "I") (by decide +kernel)
  have lk77 := hts (.fieldLink RX6 77 "PointStoreModel" "code" "J") (by decide +kernel)
  have lk81 := hts (.fieldLink RX6 81 "PointStoreModel" "level" "I") (by decide +kernel)
  have hin6 : ∀ w ∈ u_ws RX6 TX6 25, w ∈ wsX6_next := by decide +kernel
  refine wQ (fun Q hQ => ?_)
  generalize hAe : inW [(m, .inr (6, [.int (nI bl), .int (nI bk), .int (nI b), .int (nI sp), .ref mn, .ref xr, .ref yr, .ref vr, .ref cr, .ref wr, .int (nI nc), .int f_of, .int f_ar, .ref wl, .ref wc, .int f_wt, .int (nI (b - d)), .int f_fi, .int f_en, .long (lN (cdR b (d, X_, Y_))), .ref rx, .ref ry, .ref rv, .ref fr, .int f_rs]))] = A_ at hD hS
  have hd : d ≤ b := hrg.1
  refine lv_aload_n hx hb dX6_next_0 rfl (lv_at hl 0 rfl) ?_
  refine va_get (D := X.1) (ci := 6) (v := .long (lN (cdR b (d, X_, Y_)))) (C := RX6) (T := TX6) (N := 25) hx hb hts hin6 hown hK hP 0 rfl rfl 19 (by decide) lk77 (fun _ h9 => h9) rfl dX6_next_1 ?_
  refine lv_lconst (v := lN 1) hx hb dX6_next_4 (by decide) ?_
  refine lv_iconst (v := nI 2) hx hb dX6_next_5 (by decide) ?_
  refine lv_aload_n hx hb dX6_next_6 rfl (lv_at hl 0 rfl) ?_
  refine va_get (D := X.1) (ci := 6) (v := .int (nI b)) (C := RX6) (T := TX6) (N := 25) hx hb hts hin6 hown hK hP 0 rfl rfl 2 (by decide) lk57 (fun _ h9 => h9) rfl dX6_next_7 ?_
  refine lv_aload_n hx hb dX6_next_10 rfl (lv_at hl 0 rfl) ?_
  refine va_get (D := X.1) (ci := 6) (v := .int (nI (b - d))) (C := RX6) (T := TX6) (N := 25) hx hb hts hin6 hown hK hP 0 rfl rfl 16 (by decide) lk81 (fun _ h9 => h9) rfl dX6_next_11 ?_
  refine lv_isub hx hb dX6_next_14 ?_
  refine lv_topi (fun x_1 ex_1 => ?_)
  obtain rfl : x_1 = nI d := by
    rw [ex_1]
    rw [pk_sub (by omega)]
    congr 1
    omega
  refine lv_imul hx hb dX6_next_15 ?_
  refine lv_topi (fun x_2 ex_2 => ?_)
  obtain rfl : x_2 = nI (2 * d) := by
    rw [ex_2]
    exact pk_mul _ _
  refine lv_lshl (v := (lN 1) <<< ((nI (2 * d)).toInt64 &&& 63)) hx hb dX6_next_16 rfl ?_
  refine lv_topl (fun x_3 ex_3 => ?_)
  obtain rfl : x_3 = lN (4 ^ d) := by
    rw [ex_3]
    rw [wb_shl _ (by omega), Nat.one_mul, p4]
  refine lv_ladd hx hb dX6_next_17 ?_
  refine lv_topl (fun x_4 ex_4 => ?_)
  obtain rfl : x_4 = lN ((cdR b (d, X_, Y_)) + (4 ^ d)) := by
    rw [ex_4]
    exact lN_add _ _
  refine wM hQ ?_
  exact rtRL hx hb hr hlocks (rfl) dX6_next_18
set_option maxHeartbeats 4000000 in
set_option maxRecDepth 100000 in
theorem c_X6_part (l : Launch) (X : kX) (m bl bk b sp mn xr yr vr cr wr nc wl wc rx ry rv fr : Nat) (f_of f_ar f_wt f_fi f_en f_rs : Int32) (q d X_ Y_ : Nat) (s : Nat) (mf : Nat → Int32) (cf : Nat → Int64) (L Z : PL) (hs : s ≤ 1) (hm : mf s = nI Z.length) (hC : mC cf s Z) (hz : zOk b L Z) (hi : insd b L) (hL : lOk L) (hb1 : b ≤ 15) (hrg : rgOk b (d + 1, X_, Y_)) (hq : q < 4) : CRi l X yX6_part wsX6_part 1 [.ref m, .int (nI s), .int (nI q)] [(m, .inr (6, [.int (nI bl), .int (nI bk), .int (nI b), .int (nI sp), .ref mn, .ref xr, .ref yr, .ref vr, .ref cr, .ref wr, .int (nI nc), .int f_of, .int f_ar, .ref wl, .ref wc, .int f_wt, .int (nI (b - (d + 1))), .int f_fi, .int f_en, .long (lN (cdR b (d + 1, X_, Y_))), .ref rx, .ref ry, .ref rv, .ref fr, .int f_rs])), (mn, .inl (X.2.1, 2, .inl mf)), (cr, .inl (X.2.2, 6600, .inr (.inl cf)))] (fun r => r = nI (flt L d (2 * X_ + q % 2) (2 * Y_ + q / 2)).length) := by
  refine Met.ofW (cc := cX6_part) (maxL := 5) (ret := some (.int)) (by decide) rfl ?_
  intro pz ez sz mz args below meth cz s₁ Bz hml hv
  obtain ⟨rfl, hP, hK, hD0, hN⟩ := hv
  have hx := Bz.exec
  have hb := Bz.bytes
  have hr := Bz.returns
  have hts := atoms_spec (ws := wsX6_part) Bz.pre
  have hown : sz.vm.findClass RX6 = some mz.cls := findClass_of_methodNamed Bz.named
  have hlocks := Bz.notSynchronized
  have hD := inW.self hD0
  have hS : va_S (inW [(m, .inr (6, [.int (nI bl), .int (nI bk), .int (nI b), .int (nI sp), .ref mn, .ref xr, .ref yr, .ref vr, .ref cr, .ref wr, .int (nI nc), .int f_of, .int f_ar, .ref wl, .ref wc, .int f_wt, .int (nI (b - (d + 1))), .int f_fi, .int f_en, .long (lN (cdR b (d + 1, X_, Y_))), .ref rx, .ref ry, .ref rv, .ref fr, .int f_rs])), (mn, .inl (X.2.1, 2, .inl mf)), (cr, .inl (X.2.2, 6600, .inr (.inl cf)))]) sz.heap sz.heap [] := va_S.rf
  have hl := lv_entry ([.ref m, .int (nI s), .int (nI q)]) (n := 5) (Nat.le_of_ble_eq_true rfl)
  rw [lg_entry_eq]
  generalize (lg_sl ([.ref m, .int (nI s), .int (nI q)]) ++ List.replicate (5 - (lg_sl ([.ref m, .int (nI s), .int (nI q)])).length) Slot.unset).toArray = ls at hl ⊢
  have hl : lv_has ls 5 [(0, .ref m), (1, .int (nI s)), (2, .int (nI q))] := hl
  have lk57 := hts (.fieldLink RX6 57 "PointStoreModel" "bits" "I") (by decide +kernel)
  have lk77 := hts (.fieldLink RX6 77 "PointStoreModel" "code" "J") (by decide +kernel)
  have lk81 := hts (.fieldLink RX6 81 "PointStoreModel" "level" "I") (by decide +kernel)
  have hin6 : ∀ w ∈ u_ws RX6 TX6 25, w ∈ wsX6_part := by decide +kernel
  refine wQ (fun Q hQ => ?_)
  generalize hAe : inW [(m, .inr (6, [.int (nI bl), .int (nI bk), .int (nI b), .int (nI sp), .ref mn, .ref xr, .ref yr, .ref vr, .ref cr, .ref wr, .int (nI nc), .int f_of, .int f_ar, .ref wl, .ref wc, .int f_wt, .int (nI (b - (d + 1))), .int f_fi, .int f_en, .long (lN (cdR b (d + 1, X_, Y_))), .ref rx, .ref ry, .ref rv, .ref fr, .int f_rs])), (mn, .inl (X.2.1, 2, .inl mf)), (cr, .inl (X.2.2, 6600, .inr (.inl cf)))] = A_ at hD hS
  have hd : d + 1 ≤ b := hrg.1
  have hcl : cdR b (d + 1, X_, Y_) + 4 ^ (d + 1) ≤ 4 ^ b := cdR_lt hrg
  have h4 : 4 ^ b ≤ 4 ^ 15 := Nat.pow_le_pow_right (by decide) hb1
  have hpw : 4 ^ (d + 1) = 4 * 4 ^ d := by rw [Nat.pow_succ]; omega
  have hqm : q * 4 ^ d ≤ 3 * 4 ^ d := Nat.mul_le_mul_right _ (by omega)
  have hqm1 : (q + 1) * 4 ^ d = q * 4 ^ d + 4 ^ d := by rw [Nat.add_mul, Nat.one_mul]
  have hch := reg_rk hz hi (ch_ok hrg hq)
  have hchc : cdR b (d, 2 * X_ + q % 2, 2 * Y_ + q / 2) = cdR b (d + 1, X_, Y_) + q * 4 ^ d := ch_cd hd hq
  rw [hchc] at hch
  have hzl : rk Z (cdR b (d + 1, X_, Y_) + q * 4 ^ d) + (flt L d (2 * X_ + q % 2) (2 * Y_ + q / 2)).length ≤ 512 := by
    have e1 := rk_le Z (cdR b (d + 1, X_, Y_) + q * 4 ^ d + 4 ^ d)
    rw [hch, hz.len] at e1
    have := hL.1
    omega
  refine lv_lconst (v := lN 1) hx hb dX6_part_0 (by decide) ?_
  refine lv_iconst (v := nI 2) hx hb dX6_part_1 (by decide) ?_
  refine lv_aload_n hx hb dX6_part_2 rfl (lv_at hl 0 rfl) ?_
  refine va_get (D := X.1) (ci := 6) (v := .int (nI b)) (C := RX6) (T := TX6) (N := 25) hx hb hts hin6 hown hK hP 0 rfl rfl 2 (by decide) lk57 (fun _ h9 => h9) rfl dX6_part_3 ?_
  refine lv_aload_n hx hb dX6_part_6 rfl (lv_at hl 0 rfl) ?_
  refine va_get (D := X.1) (ci := 6) (v := .int (nI (b - (d + 1)))) (C := RX6) (T := TX6) (N := 25) hx hb hts hin6 hown hK hP 0 rfl rfl 16 (by decide) lk81 (fun _ h9 => h9) rfl dX6_part_7 ?_
  refine lv_isub hx hb dX6_part_10 ?_
  refine lv_topi (fun x_1 ex_1 => ?_)
  obtain rfl : x_1 = nI (d + 1) := by
    rw [ex_1]
    rw [pk_sub (by omega)]
    congr 1
    omega
  refine lv_iconst (v := nI 1) hx hb dX6_part_11 (by decide) ?_
  refine lv_isub hx hb dX6_part_12 ?_
  refine lv_topi (fun x_2 ex_2 => ?_)
  obtain rfl : x_2 = nI d := by
    rw [ex_2]
    rw [pk_sub (by omega)]
    congr 1
  refine lv_imul hx hb dX6_part_13 ?_
  refine lv_topi (fun x_3 ex_3 => ?_)
  obtain rfl : x_3 = nI (2 * d) := by
    rw [ex_3]
    exact pk_mul _ _
  refine lv_lshl (v := (lN 1) <<< ((nI (2 * d)).toInt64 &&& 63)) hx hb dX6_part_14 rfl ?_
  refine lv_topl (fun x_4 ex_4 => ?_)
  obtain rfl : x_4 = lN (4 ^ d) := by
    rw [ex_4]
    rw [wb_shl _ (by omega), Nat.one_mul, p4]
  refine lv_lstore_n (lv' := [(3, .long (lN (4 ^ d))), (0, .ref m), (1, .int (nI s)), (2, .int (nI q))]) hx hb dX6_part_15 rfl hl (by decide) rfl (fun ls hl => ?_)
  refine lv_aload_n hx hb dX6_part_16 rfl (lv_at hl 1 rfl) ?_
  refine lv_iload_n hx hb dX6_part_17 rfl (lv_at hl 2 rfl) ?_
  refine lv_aload_n hx hb dX6_part_18 rfl (lv_at hl 1 rfl) ?_
  refine va_get (D := X.1) (ci := 6) (v := .long (lN (cdR b (d + 1, X_, Y_)))) (C := RX6) (T := TX6) (N := 25) hx hb hts hin6 hown hK hP 0 rfl rfl 19 (by decide) lk77 (fun _ h9 => h9) rfl dX6_part_19 ?_
  refine lv_iload_n hx hb dX6_part_22 rfl (lv_at hl 3 rfl) ?_
  refine lv_iconst (v := nI 1) hx hb dX6_part_23 (by decide) ?_
  refine lv_iadd hx hb dX6_part_24 ?_
  refine lv_topi (fun x_5 ex_5 => ?_)
  obtain rfl : x_5 = nI (q + 1) := by
    rw [ex_5]
    exact nI_add _ _
  refine lv_i2l (v := lN (q + 1)) hx hb dX6_part_25 (nI_l (by omega)) ?_
  refine lv_lload_n hx hb dX6_part_26 rfl (lv_at hl 0 rfl) ?_
  refine lv_lmul hx hb dX6_part_27 ?_
  refine lv_topl (fun x_6 ex_6 => ?_)
  obtain rfl : x_6 = lN ((q + 1) * (4 ^ d)) := by
    rw [ex_6]
    exact lN_mul _ _
  refine lv_ladd hx hb dX6_part_28 ?_
  refine lv_topl (fun x_7 ex_7 => ?_)
  obtain rfl : x_7 = lN (cdR b (d + 1, X_, Y_) + q * 4 ^ d + 4 ^ d) := by
    rw [ex_7]
    rw [lN_add]
    rw [show cdR b (d + 1, X_, Y_) + (q + 1) * 4 ^ d = cdR b (d + 1, X_, Y_) + q * 4 ^ d + 4 ^ d by omega]
  refine ckVRi (As := [.int (nI s), .long (lN (cdR b (d + 1, X_, Y_) + q * 4 ^ d + 4 ^ d))]) (rest := []) 0 [0, 1, 2] (c_X6_below l X m bl bk b sp mn xr yr vr cr wr nc wl wc rx ry rv fr f_of f_ar f_wt (nI (b - (d + 1))) f_fi f_en f_rs (lN (cdR b (d + 1, X_, Y_))) s (cdR b (d + 1, X_, Y_) + q * 4 ^ d + 4 ^ d) mf cf Z hs (by omega) hm hC hz.1 (by rw [hz.len]; exact hL.1) (hz.b hb1)) ⟨hx, hb, hml, hown, hts⟩ (cwV 2 hts gX6_part_X6_below rfl rfl rfl (by decide +kernel) ⟨Nat.le_of_ble_eq_true rfl, Nat.le_of_ble_eq_true rfl⟩) hK hN hP hD (by decide) rfl (ci := 6) rfl rfl rfl hl.1 rfl (Nat.le_of_ble_eq_true rfl) dX6_part_29 ⟨Nat.zero_le _, Nat.zero_le _⟩ (fun r_8 hc_29 => ?_)
  subst hc_29
  refine lv_aload_n hx hb dX6_part_32 rfl (lv_at hl 1 rfl) ?_
  refine lv_iload_n hx hb dX6_part_33 rfl (lv_at hl 2 rfl) ?_
  refine lv_aload_n hx hb dX6_part_34 rfl (lv_at hl 1 rfl) ?_
  refine va_get (D := X.1) (ci := 6) (v := .long (lN (cdR b (d + 1, X_, Y_)))) (C := RX6) (T := TX6) (N := 25) hx hb hts hin6 hown hK hP 0 rfl rfl 19 (by decide) lk77 (fun _ h9 => h9) rfl dX6_part_35 ?_
  refine lv_iload_n hx hb dX6_part_38 rfl (lv_at hl 3 rfl) ?_
  refine lv_i2l (v := lN q) hx hb dX6_part_39 (nI_l (by omega)) ?_
  refine lv_lload_n hx hb dX6_part_40 rfl (lv_at hl 0 rfl) ?_
  refine lv_lmul hx hb dX6_part_41 ?_
  refine lv_topl (fun x_9 ex_9 => ?_)
  obtain rfl : x_9 = lN (q * (4 ^ d)) := by
    rw [ex_9]
    exact lN_mul _ _
  refine lv_ladd hx hb dX6_part_42 ?_
  refine lv_topl (fun x_10 ex_10 => ?_)
  obtain rfl : x_10 = lN ((cdR b (d + 1, X_, Y_)) + (q * (4 ^ d))) := by
    rw [ex_10]
    exact lN_add _ _
  refine ckVRi (As := [.int (nI s), .long (lN ((cdR b (d + 1, X_, Y_)) + (q * (4 ^ d))))]) (rest := [.int (nI (rk Z (cdR b (d + 1, X_, Y_) + q * 4 ^ d + 4 ^ d)))]) 0 [0, 1, 2] (c_X6_below l X m bl bk b sp mn xr yr vr cr wr nc wl wc rx ry rv fr f_of f_ar f_wt (nI (b - (d + 1))) f_fi f_en f_rs (lN (cdR b (d + 1, X_, Y_))) s ((cdR b (d + 1, X_, Y_)) + (q * (4 ^ d))) mf cf Z hs (by omega) hm hC hz.1 (by rw [hz.len]; exact hL.1) (hz.b hb1)) ⟨hx, hb, hml, hown, hts⟩ (cwV 2 hts gX6_part_X6_below rfl rfl rfl (by decide +kernel) ⟨Nat.le_of_ble_eq_true rfl, Nat.le_of_ble_eq_true rfl⟩) hK hN hP hD (by decide) rfl (ci := 6) rfl rfl rfl hl.1 rfl (Nat.le_of_ble_eq_true rfl) dX6_part_43 ⟨Nat.zero_le _, Nat.zero_le _⟩ (fun r_11 hc_43 => ?_)
  subst hc_43
  refine lv_isub hx hb dX6_part_46 ?_
  refine lv_topi (fun x_12 ex_12 => ?_)
  obtain rfl : x_12 = nI ((flt L d (2 * X_ + q % 2) (2 * Y_ + q / 2)).length) := by
    rw [ex_12]
    rw [hch, pk_sub (by omega)]
    congr 1
    omega
  refine wM hQ ?_
  exact rtRI hx hb hr hlocks (rfl) dX6_part_47
set_option maxHeartbeats 4000000 in
set_option maxRecDepth 100000 in
theorem c_X6_comes_0 (l : Launch) (X : kX) (m bl bk b sp mn xr yr vr cr wr nc wl wc rx ry rv fr : Nat) (f_of f_ar f_lv f_fi f_en f_rs : Int32) (f_cd : Int64) (s : Nat) : CRi l X yX6_comes wsX6_comes 3 [.ref m, .int (nI s)] [(m, .inr (6, [.int (nI bl), .int (nI bk), .int (nI b), .int (nI sp), .ref mn, .ref xr, .ref yr, .ref vr, .ref cr, .ref wr, .int (nI nc), .int f_of, .int f_ar, .ref wl, .ref wc, .int (nI 0), .int f_lv, .int f_fi, .int f_en, .long f_cd, .ref rx, .ref ry, .ref rv, .ref fr, .int f_rs]))] (fun r => r = nI 0) := by
  refine Met.ofW (cc := cX6_comes) (maxL := 3) (ret := some (.boolean)) (by decide) rfl ?_
  intro pz ez sz mz args below meth cz s₁ Bz hml hv
  obtain ⟨rfl, hP, hK, hD0, hN⟩ := hv
  have hx := Bz.exec
  have hb := Bz.bytes
  have hr := Bz.returns
  have hts := atoms_spec (ws := wsX6_comes) Bz.pre
  have hown : sz.vm.findClass RX6 = some mz.cls := findClass_of_methodNamed Bz.named
  have hlocks := Bz.notSynchronized
  have hD := inW.self hD0
  have hS : va_S (inW [(m, .inr (6, [.int (nI bl), .int (nI bk), .int (nI b), .int (nI sp), .ref mn, .ref xr, .ref yr, .ref vr, .ref cr, .ref wr, .int (nI nc), .int f_of, .int f_ar, .ref wl, .ref wc, .int (nI 0), .int f_lv, .int f_fi, .int f_en, .long f_cd, .ref rx, .ref ry, .ref rv, .ref fr, .int f_rs]))]) sz.heap sz.heap [] := va_S.rf
  have hl := lv_entry ([.ref m, .int (nI s)]) (n := 3) (Nat.le_of_ble_eq_true rfl)
  rw [lg_entry_eq]
  generalize (lg_sl ([.ref m, .int (nI s)]) ++ List.replicate (3 - (lg_sl ([.ref m, .int (nI s)])).length) Slot.unset).toArray = ls at hl ⊢
  have hl : lv_has ls 3 [(0, .ref m), (1, .int (nI s))] := hl
  have lk74 := hts (.fieldLink RX6 74 "PointStoreModel" "waits" "I") (by decide +kernel)
  have hin6 : ∀ w ∈ u_ws RX6 TX6 25, w ∈ wsX6_comes := by decide +kernel
  refine wQ (fun Q hQ => ?_)
  generalize hAe : inW [(m, .inr (6, [.int (nI bl), .int (nI bk), .int (nI b), .int (nI sp), .ref mn, .ref xr, .ref yr, .ref vr, .ref cr, .ref wr, .int (nI nc), .int f_of, .int f_ar, .ref wl, .ref wc, .int (nI 0), .int f_lv, .int f_fi, .int f_en, .long f_cd, .ref rx, .ref ry, .ref rv, .ref fr, .int f_rs]))] = A_ at hD hS
  refine lv_aload_n hx hb dX6_comes_0 rfl (lv_at hl 0 rfl) ?_
  refine va_get (D := X.1) (ci := 6) (v := .int (nI 0)) (C := RX6) (T := TX6) (N := 25) hx hb hts hin6 hown hK hP 0 rfl rfl 15 (by decide) lk74 (fun _ h9 => h9) rfl dX6_comes_1 ?_
  refine lv_if_ne (tgt := 9) hx hb dX6_comes_4 (by decide) (fun c_4 => ?_) (fun c_4 => ?_)
  · exact absurd c_4 (by decide)
  · skip
    refine lv_iconst (v := nI 0) hx hb dX6_comes_7 (by decide) ?_
    refine wM hQ ?_
    exact rtRZ hx hb hr hlocks (by decide) (rfl) dX6_comes_8
set_option maxHeartbeats 4000000 in
set_option maxRecDepth 100000 in
theorem c_X6_comes_z (l : Launch) (X : kX) (m bl bk b sp mn xr yr vr cr wr nc wl wc rx ry rv fr : Nat) (f_of f_ar f_lv f_fi f_en f_rs : Int32) (f_cd : Int64) (X_ Y_ : Nat) (s : Nat) (mf : Nat → Int32) (cf : Nat → Int64) (L Z : PL) (hs : s ≤ 1) (hm : mf s = nI Z.length) (hC : mC cf s Z) (hz : zOk b L Z) (hi : insd b L) (hL : lOk L) (hb1 : b ≤ 15) (W0 : List Rg) (lf : Nat → Int32) (kf : Nat → Int64) (hW : wOk b lf kf (W0 ++ [(0, X_, Y_)])) (hbk : 1 ≤ bk) (hbk2 : bk ≤ 8) : CWi l X yX6_comes wsX6_comes 3 [.ref m, .int (nI s)] [(m, .inr (6, [.int (nI bl), .int (nI bk), .int (nI b), .int (nI sp), .ref mn, .ref xr, .ref yr, .ref vr, .ref cr, .ref wr, .int (nI nc), .int f_of, .int f_ar, .ref wl, .ref wc, .int (nI (W0.length + 1)), .int f_lv, .int f_fi, .int f_en, .long f_cd, .ref rx, .ref ry, .ref rv, .ref fr, .int f_rs])), (mn, .inl (X.2.1, 2, .inl mf)), (cr, .inl (X.2.2, 6600, .inr (.inl cf))), (wl, .inl (X.2.1, 80, .inl lf)), (wc, .inl (X.2.2, 80, .inr (.inl kf)))] (S := (Nat → Int32) × (Nat → Int64) × List Rg) (fun r u => r = nI 1 ∧ wOk b u.1 u.2.1 u.2.2 ∧ rem bk L u.2.2 = (trR bk L (0, X_, Y_)).tail ++ rem bk L W0) (fun ⟨lf2, kf2, W2⟩ => [(m, .inr (6, [.int (nI bl), .int (nI bk), .int (nI b), .int (nI sp), .ref mn, .ref xr, .ref yr, .ref vr, .ref cr, .ref wr, .int (nI nc), .int f_of, .int f_ar, .ref wl, .ref wc, .int (nI ((W2).length)), .int (nI (b - (0))), .int (nI (rk Z (cdR b (0, X_, Y_)))), .int (nI (rk Z (cdR b (0, X_, Y_) + 4 ^ (0)))), .long (lN (cdR b (0, X_, Y_))), .ref rx, .ref ry, .ref rv, .ref fr, .int f_rs])), (mn, .inl (X.2.1, 2, .inl mf)), (cr, .inl (X.2.2, 6600, .inr (.inl cf))), (wl, .inl (X.2.1, 80, .inl lf2)), (wc, .inl (X.2.2, 80, .inr (.inl kf2)))]) := by
  refine Met.ofW (cc := cX6_comes) (maxL := 3) (ret := some (.boolean)) (by decide) rfl ?_
  intro pz ez sz mz args below meth cz s₁ Bz hml hv
  obtain ⟨rfl, hP, hK, hD0, hN⟩ := hv
  have hx := Bz.exec
  have hb := Bz.bytes
  have hr := Bz.returns
  have hts := atoms_spec (ws := wsX6_comes) Bz.pre
  have hown : sz.vm.findClass RX6 = some mz.cls := findClass_of_methodNamed Bz.named
  have hlocks := Bz.notSynchronized
  have hD := inW.self hD0
  have hS : va_S (inW [(m, .inr (6, [.int (nI bl), .int (nI bk), .int (nI b), .int (nI sp), .ref mn, .ref xr, .ref yr, .ref vr, .ref cr, .ref wr, .int (nI nc), .int f_of, .int f_ar, .ref wl, .ref wc, .int (nI (W0.length + 1)), .int f_lv, .int f_fi, .int f_en, .long f_cd, .ref rx, .ref ry, .ref rv, .ref fr, .int f_rs])), (mn, .inl (X.2.1, 2, .inl mf)), (cr, .inl (X.2.2, 6600, .inr (.inl cf))), (wl, .inl (X.2.1, 80, .inl lf)), (wc, .inl (X.2.2, 80, .inr (.inl kf)))]) sz.heap sz.heap [] := va_S.rf
  have hl := lv_entry ([.ref m, .int (nI s)]) (n := 3) (Nat.le_of_ble_eq_true rfl)
  rw [lg_entry_eq]
  generalize (lg_sl ([.ref m, .int (nI s)]) ++ List.replicate (3 - (lg_sl ([.ref m, .int (nI s)])).length) Slot.unset).toArray = ls at hl ⊢
  have hl : lv_has ls 3 [(0, .ref m), (1, .int (nI s))] := hl
  have lk33 := hts (.fieldLink RX6 33 "PointStoreModel" "waitLevel" "[I") (by decide +kernel)
  have lk36 := hts (.fieldLink RX6 36 "PointStoreModel" "waitCode" "[J") (by decide +kernel)
  have lk54 := hts (.fieldLink RX6 54 "PointStoreModel" "bucket" "I") (by decide +kernel)
  have lk74 := hts (.fieldLink RX6 74 "PointStoreModel" "waits" "I") (by decide +kernel)
  have lk77 := hts (.fieldLink RX6 77 "PointStoreModel" "code" "J") (by decide +kernel)
  have lk81 := hts (.fieldLink RX6 81 "PointStoreModel" "level" "I") (by decide +kernel)
  have lk84 := hts (.fieldLink RX6 84 "PointStoreModel" "first" "I") (by decide +kernel)
  have lk91 := hts (.fieldLink RX6 91 "PointStoreModel" "end" "I") (by decide +kernel)
  have hin6 : ∀ w ∈ u_ws RX6 TX6 25, w ∈ wsX6_comes := by decide +kernel
  refine wQ (fun Q hQ => ?_)
  generalize hAe : inW [(m, .inr (6, [.int (nI bl), .int (nI bk), .int (nI b), .int (nI sp), .ref mn, .ref xr, .ref yr, .ref vr, .ref cr, .ref wr, .int (nI nc), .int f_of, .int f_ar, .ref wl, .ref wc, .int (nI (W0.length + 1)), .int f_lv, .int f_fi, .int f_en, .long f_cd, .ref rx, .ref ry, .ref rv, .ref fr, .int f_rs])), (mn, .inl (X.2.1, 2, .inl mf)), (cr, .inl (X.2.2, 6600, .inr (.inl cf))), (wl, .inl (X.2.1, 80, .inl lf)), (wc, .inl (X.2.2, 80, .inr (.inl kf)))] = A_ at hD hS hQ
  have hrr := hW W0.length (by simp)
  rw [rg_get] at hrr
  obtain ⟨hr1, hr2, hrg, hr3⟩ := hrr
  have hd : 0 ≤ b := hrg.1
  have hr3 : W0.length ≤ 3 * (b - (0)) := hr3
  have hcl : cdR b (0, X_, Y_) + 4 ^ (0) ≤ 4 ^ b := cdR_lt hrg
  have h4 : 4 ^ b ≤ 4 ^ 15 := Nat.pow_le_pow_right (by decide) hb1
  have hrk := reg_rk hz hi hrg
  have hpos4 : 0 < 4 ^ (0) := Nat.pow_pos (by decide)
  have hzl : rk Z (cdR b (0, X_, Y_)) + (flt L (0) X_ Y_).length ≤ 512 := by
    have e1 := rk_le Z (cdR b (0, X_, Y_) + 4 ^ (0))
    rw [hrk, hz.len] at e1
    have := hL.1
    omega
  refine lv_aload_n hx hb dX6_comes_0 rfl (lv_at hl 0 rfl) ?_
  refine va_get (D := X.1) (ci := 6) (v := .int (nI (W0.length + 1))) (C := RX6) (T := TX6) (N := 25) hx hb hts hin6 hown hK hP 0 rfl rfl 15 (by decide) lk74 (fun _ h9 => h9) rfl dX6_comes_1 ?_
  refine lv_if_ne (tgt := 9) hx hb dX6_comes_4 (by decide) (fun c_4 => ?_) (fun c_4 => ?_)
  · change ¬ nI (W0.length + 1) = nI 0 at c_4
    replace c_4 : ¬ (W0.length + 1) = 0 := fun h9 => c_4 ((nI_eq (by omega) (by omega)).mpr h9)
    refine lv_aload_n hx hb dX6_comes_9 rfl (lv_at hl 0 rfl) ?_
    refine lv_aload_n hx hb dX6_comes_10 rfl (lv_at hl 0 rfl) ?_
    refine va_get (D := X.1) (ci := 6) (v := .int (nI (W0.length + 1))) (C := RX6) (T := TX6) (N := 25) hx hb hts hin6 hown hK hP 0 rfl rfl 15 (by decide) lk74 (fun _ h9 => h9) rfl dX6_comes_11 ?_
    refine lv_iconst (v := nI 1) hx hb dX6_comes_14 (by decide) ?_
    refine lv_isub hx hb dX6_comes_15 ?_
    refine lv_topi (fun x_1 ex_1 => ?_)
    obtain rfl : x_1 = nI W0.length := by
      rw [ex_1]
      rw [pk_sub (by omega)]
      congr 1
    refine va_put (D := X.1) (ci := 6) (v := .int (nI W0.length)) (ty := .int) (C := RX6) (T := TX6) (N := 25) hx hb hts hin6 tyX6 tyX6_ok nmX6 hown hK hP hD hS 0 rfl rfl 15 (by decide) lk74 (fun _ h9 => h9) rfl (by decide +kernel) rfl rfl (Nat.le_of_ble_eq_true rfl) dX6_comes_16 (fun H locs hP hD hS => ?_)
    have hP : va_P X.1 vwCl [(m, .inr (6, [.int (nI bl), .int (nI bk), .int (nI b), .int (nI sp), .ref mn, .ref xr, .ref yr, .ref vr, .ref cr, .ref wr, .int (nI nc), .int f_of, .int f_ar, .ref wl, .ref wc, .int (nI W0.length), .int f_lv, .int f_fi, .int f_en, .long f_cd, .ref rx, .ref ry, .ref rv, .ref fr, .int f_rs])), (mn, .inl (X.2.1, 2, .inl mf)), (cr, .inl (X.2.2, 6600, .inr (.inl cf))), (wl, .inl (X.2.1, 80, .inl lf)), (wc, .inl (X.2.2, 80, .inr (.inl kf)))] H := hP
    have hD : va_D A_ [(m, .inr (6, [.int (nI bl), .int (nI bk), .int (nI b), .int (nI sp), .ref mn, .ref xr, .ref yr, .ref vr, .ref cr, .ref wr, .int (nI nc), .int f_of, .int f_ar, .ref wl, .ref wc, .int (nI W0.length), .int f_lv, .int f_fi, .int f_en, .long f_cd, .ref rx, .ref ry, .ref rv, .ref fr, .int f_rs])), (mn, .inl (X.2.1, 2, .inl mf)), (cr, .inl (X.2.2, 6600, .inr (.inl cf))), (wl, .inl (X.2.1, 80, .inl lf)), (wc, .inl (X.2.2, 80, .inr (.inl kf)))] := hD
    refine lv_aload_n hx hb dX6_comes_19 rfl (lv_at hl 0 rfl) ?_
    refine lv_aload_n hx hb dX6_comes_20 rfl (lv_at hl 0 rfl) ?_
    refine va_get (D := X.1) (ci := 6) (v := .ref wl) (C := RX6) (T := TX6) (N := 25) hx hb hts hin6 hown hK hP 0 rfl rfl 13 (by decide) lk33 (fun _ h9 => h9) rfl dX6_comes_21 ?_
    refine lv_aload_n hx hb dX6_comes_24 rfl (lv_at hl 0 rfl) ?_
    refine va_get (D := X.1) (ci := 6) (v := .int (nI W0.length)) (C := RX6) (T := TX6) (N := 25) hx hb hts hin6 hown hK hP 0 rfl rfl 15 (by decide) lk74 (fun _ h9 => h9) rfl dX6_comes_25 ?_
    have hi_2 : vp_in (nI W0.length) 80 := vp_in_nI (by omega) (by omega)
    refine va_iald hx hb hK hP 3 0 rfl rfl hi_2 dX6_comes_28 ?_
    refine lv_topi (fun x_3 ex_3 => ?_)
    obtain rfl : x_3 = lf W0.length := by
      rw [ex_3]
      rw [nI_clamp (by omega)]
    refine lv_topi (fun x_4 ex_4 => ?_)
    obtain rfl : x_4 = nI (b - (0)) := by
      rw [ex_4]
      exact hr1
    refine va_put (D := X.1) (ci := 6) (v := .int (nI (b - (0)))) (ty := .int) (C := RX6) (T := TX6) (N := 25) hx hb hts hin6 tyX6 tyX6_ok nmX6 hown hK hP hD hS 0 rfl rfl 16 (by decide) lk81 (fun _ h9 => h9) rfl (by decide +kernel) rfl rfl (Nat.le_of_ble_eq_true rfl) dX6_comes_29 (fun H locs hP hD hS => ?_)
    have hP : va_P X.1 vwCl [(m, .inr (6, [.int (nI bl), .int (nI bk), .int (nI b), .int (nI sp), .ref mn, .ref xr, .ref yr, .ref vr, .ref cr, .ref wr, .int (nI nc), .int f_of, .int f_ar, .ref wl, .ref wc, .int (nI W0.length), .int (nI (b - (0))), .int f_fi, .int f_en, .long f_cd, .ref rx, .ref ry, .ref rv, .ref fr, .int f_rs])), (mn, .inl (X.2.1, 2, .inl mf)), (cr, .inl (X.2.2, 6600, .inr (.inl cf))), (wl, .inl (X.2.1, 80, .inl lf)), (wc, .inl (X.2.2, 80, .inr (.inl kf)))] H := hP
    have hD : va_D A_ [(m, .inr (6, [.int (nI bl), .int (nI bk), .int (nI b), .int (nI sp), .ref mn, .ref xr, .ref yr, .ref vr, .ref cr, .ref wr, .int (nI nc), .int f_of, .int f_ar, .ref wl, .ref wc, .int (nI W0.length), .int (nI (b - (0))), .int f_fi, .int f_en, .long f_cd, .ref rx, .ref ry, .ref rv, .ref fr, .int f_rs])), (mn, .inl (X.2.1, 2, .inl mf)), (cr, .inl (X.2.2, 6600, .inr (.inl cf))), (wl, .inl (X.2.1, 80, .inl lf)), (wc, .inl (X.2.2, 80, .inr (.inl kf)))] := hD
    refine lv_aload_n hx hb dX6_comes_32 rfl (lv_at hl 0 rfl) ?_
    refine lv_aload_n hx hb dX6_comes_33 rfl (lv_at hl 0 rfl) ?_
    refine va_get (D := X.1) (ci := 6) (v := .ref wc) (C := RX6) (T := TX6) (N := 25) hx hb hts hin6 hown hK hP 0 rfl rfl 14 (by decide) lk36 (fun _ h9 => h9) rfl dX6_comes_34 ?_
    refine lv_aload_n hx hb dX6_comes_37 rfl (lv_at hl 0 rfl) ?_
    refine va_get (D := X.1) (ci := 6) (v := .int (nI W0.length)) (C := RX6) (T := TX6) (N := 25) hx hb hts hin6 hown hK hP 0 rfl rfl 15 (by decide) lk74 (fun _ h9 => h9) rfl dX6_comes_38 ?_
    have hi_5 : vp_in (nI W0.length) 80 := vp_in_nI (by omega) (by omega)
    refine va_lald hx hb hK hP 4 1 rfl rfl hi_5 dX6_comes_41 ?_
    refine lv_topl (fun x_6 ex_6 => ?_)
    obtain rfl : x_6 = kf W0.length := by
      rw [ex_6]
      rw [nI_clamp (by omega)]
    refine lv_topl (fun x_7 ex_7 => ?_)
    obtain rfl : x_7 = lN (cdR b (0, X_, Y_)) := by
      rw [ex_7]
      exact hr2
    refine va_put (D := X.1) (ci := 6) (v := .long (lN (cdR b (0, X_, Y_)))) (ty := .long) (C := RX6) (T := TX6) (N := 25) hx hb hts hin6 tyX6 tyX6_ok nmX6 hown hK hP hD hS 0 rfl rfl 19 (by decide) lk77 (fun _ h9 => h9) rfl (by decide +kernel) rfl rfl (Nat.le_of_ble_eq_true rfl) dX6_comes_42 (fun H locs hP hD hS => ?_)
    have hP : va_P X.1 vwCl [(m, .inr (6, [.int (nI bl), .int (nI bk), .int (nI b), .int (nI sp), .ref mn, .ref xr, .ref yr, .ref vr, .ref cr, .ref wr, .int (nI nc), .int f_of, .int f_ar, .ref wl, .ref wc, .int (nI W0.length), .int (nI (b - (0))), .int f_fi, .int f_en, .long (lN (cdR b (0, X_, Y_))), .ref rx, .ref ry, .ref rv, .ref fr, .int f_rs])), (mn, .inl (X.2.1, 2, .inl mf)), (cr, .inl (X.2.2, 6600, .inr (.inl cf))), (wl, .inl (X.2.1, 80, .inl lf)), (wc, .inl (X.2.2, 80, .inr (.inl kf)))] H := hP
    have hD : va_D A_ [(m, .inr (6, [.int (nI bl), .int (nI bk), .int (nI b), .int (nI sp), .ref mn, .ref xr, .ref yr, .ref vr, .ref cr, .ref wr, .int (nI nc), .int f_of, .int f_ar, .ref wl, .ref wc, .int (nI W0.length), .int (nI (b - (0))), .int f_fi, .int f_en, .long (lN (cdR b (0, X_, Y_))), .ref rx, .ref ry, .ref rv, .ref fr, .int f_rs])), (mn, .inl (X.2.1, 2, .inl mf)), (cr, .inl (X.2.2, 6600, .inr (.inl cf))), (wl, .inl (X.2.1, 80, .inl lf)), (wc, .inl (X.2.2, 80, .inr (.inl kf)))] := hD
    refine lv_aload_n hx hb dX6_comes_45 rfl (lv_at hl 0 rfl) ?_
    refine lv_aload_n hx hb dX6_comes_46 rfl (lv_at hl 0 rfl) ?_
    refine lv_iload_n hx hb dX6_comes_47 rfl (lv_at hl 1 rfl) ?_
    refine lv_aload_n hx hb dX6_comes_48 rfl (lv_at hl 0 rfl) ?_
    refine va_get (D := X.1) (ci := 6) (v := .long (lN (cdR b (0, X_, Y_)))) (C := RX6) (T := TX6) (N := 25) hx hb hts hin6 hown hK hP 0 rfl rfl 19 (by decide) lk77 (fun _ h9 => h9) rfl dX6_comes_49 ?_
    refine ckVRi (As := [.int (nI s), .long (lN (cdR b (0, X_, Y_)))]) (rest := [.ref m]) 0 [0, 1, 2] (c_X6_below l X m bl bk b sp mn xr yr vr cr wr nc wl wc rx ry rv fr f_of f_ar (nI W0.length) (nI (b - (0))) f_fi f_en f_rs (lN (cdR b (0, X_, Y_))) s (cdR b (0, X_, Y_)) mf cf Z hs (by omega) hm hC hz.1 (by rw [hz.len]; exact hL.1) (hz.b hb1)) ⟨hx, hb, hml, hown, hts⟩ (cwV 2 hts gX6_comes_X6_below rfl rfl rfl (by decide +kernel) ⟨Nat.le_of_ble_eq_true rfl, Nat.le_of_ble_eq_true rfl⟩) hK hN hP hD (by decide) rfl (ci := 6) rfl rfl rfl hl.1 rfl (Nat.le_of_ble_eq_true rfl) dX6_comes_52 ⟨Nat.zero_le _, Nat.zero_le _⟩ (fun r_8 hc_52 => ?_)
    subst hc_52
    refine va_put (D := X.1) (ci := 6) (v := .int (nI (rk Z (cdR b (0, X_, Y_))))) (ty := .int) (C := RX6) (T := TX6) (N := 25) hx hb hts hin6 tyX6 tyX6_ok nmX6 hown hK hP hD hS 0 rfl rfl 17 (by decide) lk84 (fun _ h9 => h9) rfl (by decide +kernel) rfl rfl (Nat.le_of_ble_eq_true rfl) dX6_comes_55 (fun H locs hP hD hS => ?_)
    have hP : va_P X.1 vwCl [(m, .inr (6, [.int (nI bl), .int (nI bk), .int (nI b), .int (nI sp), .ref mn, .ref xr, .ref yr, .ref vr, .ref cr, .ref wr, .int (nI nc), .int f_of, .int f_ar, .ref wl, .ref wc, .int (nI W0.length), .int (nI (b - (0))), .int (nI (rk Z (cdR b (0, X_, Y_)))), .int f_en, .long (lN (cdR b (0, X_, Y_))), .ref rx, .ref ry, .ref rv, .ref fr, .int f_rs])), (mn, .inl (X.2.1, 2, .inl mf)), (cr, .inl (X.2.2, 6600, .inr (.inl cf))), (wl, .inl (X.2.1, 80, .inl lf)), (wc, .inl (X.2.2, 80, .inr (.inl kf)))] H := hP
    have hD : va_D A_ [(m, .inr (6, [.int (nI bl), .int (nI bk), .int (nI b), .int (nI sp), .ref mn, .ref xr, .ref yr, .ref vr, .ref cr, .ref wr, .int (nI nc), .int f_of, .int f_ar, .ref wl, .ref wc, .int (nI W0.length), .int (nI (b - (0))), .int (nI (rk Z (cdR b (0, X_, Y_)))), .int f_en, .long (lN (cdR b (0, X_, Y_))), .ref rx, .ref ry, .ref rv, .ref fr, .int f_rs])), (mn, .inl (X.2.1, 2, .inl mf)), (cr, .inl (X.2.2, 6600, .inr (.inl cf))), (wl, .inl (X.2.1, 80, .inl lf)), (wc, .inl (X.2.2, 80, .inr (.inl kf)))] := hD
    refine lv_aload_n hx hb dX6_comes_58 rfl (lv_at hl 0 rfl) ?_
    refine lv_aload_n hx hb dX6_comes_59 rfl (lv_at hl 0 rfl) ?_
    refine lv_iload_n hx hb dX6_comes_60 rfl (lv_at hl 1 rfl) ?_
    refine lv_aload_n hx hb dX6_comes_61 rfl (lv_at hl 0 rfl) ?_
    refine ckVRl (As := []) (rest := [.int (nI s), .ref m, .ref m]) 0 [0] (c_X6_next l X m bl bk b sp mn xr yr vr cr wr nc wl wc rx ry rv fr f_of f_ar (nI W0.length) (nI (rk Z (cdR b (0, X_, Y_)))) f_en f_rs 0 X_ Y_ hb1 hrg) ⟨hx, hb, hml, hown, hts⟩ (cwV 0 hts gX6_comes_X6_next rfl rfl rfl (by decide +kernel) ⟨Nat.le_of_ble_eq_true rfl, Nat.le_of_ble_eq_true rfl⟩) hK hN hP hD (by decide) rfl (ci := 6) rfl rfl rfl hl.1 rfl (Nat.le_of_ble_eq_true rfl) dX6_comes_62 ⟨Nat.zero_le _, Nat.zero_le _⟩ (fun r_9 hc_62 => ?_)
    subst hc_62
    refine ckVRi (As := [.int (nI s), .long (lN (cdR b (0, X_, Y_) + 4 ^ (0)))]) (rest := [.ref m]) 0 [0, 1, 2] (c_X6_below l X m bl bk b sp mn xr yr vr cr wr nc wl wc rx ry rv fr f_of f_ar (nI W0.length) (nI (b - (0))) (nI (rk Z (cdR b (0, X_, Y_)))) f_en f_rs (lN (cdR b (0, X_, Y_))) s (cdR b (0, X_, Y_) + 4 ^ (0)) mf cf Z hs (by omega) hm hC hz.1 (by rw [hz.len]; exact hL.1) (hz.b hb1)) ⟨hx, hb, hml, hown, hts⟩ (cwV 2 hts gX6_comes_X6_below rfl rfl rfl (by decide +kernel) ⟨Nat.le_of_ble_eq_true rfl, Nat.le_of_ble_eq_true rfl⟩) hK hN hP hD (by decide) rfl (ci := 6) rfl rfl rfl hl.1 rfl (Nat.le_of_ble_eq_true rfl) dX6_comes_65 ⟨Nat.zero_le _, Nat.zero_le _⟩ (fun r_10 hc_65 => ?_)
    subst hc_65
    refine va_put (D := X.1) (ci := 6) (v := .int (nI (rk Z (cdR b (0, X_, Y_) + 4 ^ (0))))) (ty := .int) (C := RX6) (T := TX6) (N := 25) hx hb hts hin6 tyX6 tyX6_ok nmX6 hown hK hP hD hS 0 rfl rfl 18 (by decide) lk91 (fun _ h9 => h9) rfl (by decide +kernel) rfl rfl (Nat.le_of_ble_eq_true rfl) dX6_comes_68 (fun H locs hP hD hS => ?_)
    have hP : va_P X.1 vwCl [(m, .inr (6, [.int (nI bl), .int (nI bk), .int (nI b), .int (nI sp), .ref mn, .ref xr, .ref yr, .ref vr, .ref cr, .ref wr, .int (nI nc), .int f_of, .int f_ar, .ref wl, .ref wc, .int (nI W0.length), .int (nI (b - (0))), .int (nI (rk Z (cdR b (0, X_, Y_)))), .int (nI (rk Z (cdR b (0, X_, Y_) + 4 ^ (0)))), .long (lN (cdR b (0, X_, Y_))), .ref rx, .ref ry, .ref rv, .ref fr, .int f_rs])), (mn, .inl (X.2.1, 2, .inl mf)), (cr, .inl (X.2.2, 6600, .inr (.inl cf))), (wl, .inl (X.2.1, 80, .inl lf)), (wc, .inl (X.2.2, 80, .inr (.inl kf)))] H := hP
    have hD : va_D A_ [(m, .inr (6, [.int (nI bl), .int (nI bk), .int (nI b), .int (nI sp), .ref mn, .ref xr, .ref yr, .ref vr, .ref cr, .ref wr, .int (nI nc), .int f_of, .int f_ar, .ref wl, .ref wc, .int (nI W0.length), .int (nI (b - (0))), .int (nI (rk Z (cdR b (0, X_, Y_)))), .int (nI (rk Z (cdR b (0, X_, Y_) + 4 ^ (0)))), .long (lN (cdR b (0, X_, Y_))), .ref rx, .ref ry, .ref rv, .ref fr, .int f_rs])), (mn, .inl (X.2.1, 2, .inl mf)), (cr, .inl (X.2.2, 6600, .inr (.inl cf))), (wl, .inl (X.2.1, 80, .inl lf)), (wc, .inl (X.2.2, 80, .inr (.inl kf)))] := hD
    refine lv_aload_n hx hb dX6_comes_71 rfl (lv_at hl 0 rfl) ?_
    refine va_get (D := X.1) (ci := 6) (v := .int (nI (rk Z (cdR b (0, X_, Y_) + 4 ^ (0))))) (C := RX6) (T := TX6) (N := 25) hx hb hts hin6 hown hK hP 0 rfl rfl 18 (by decide) lk91 (fun _ h9 => h9) rfl dX6_comes_72 ?_
    refine lv_aload_n hx hb dX6_comes_75 rfl (lv_at hl 0 rfl) ?_
    refine va_get (D := X.1) (ci := 6) (v := .int (nI (rk Z (cdR b (0, X_, Y_))))) (C := RX6) (T := TX6) (N := 25) hx hb hts hin6 hown hK hP 0 rfl rfl 17 (by decide) lk84 (fun _ h9 => h9) rfl dX6_comes_76 ?_
    refine lv_isub hx hb dX6_comes_79 ?_
    refine lv_topi (fun x_11 ex_11 => ?_)
    obtain rfl : x_11 = nI ((flt L (0) X_ Y_).length) := by
      rw [ex_11]
      rw [hrk, pk_sub (by omega)]
      congr 1
      omega
    refine lv_aload_n hx hb dX6_comes_80 rfl (lv_at hl 0 rfl) ?_
    refine va_get (D := X.1) (ci := 6) (v := .int (nI bk)) (C := RX6) (T := TX6) (N := 25) hx hb hts hin6 hown hK hP 0 rfl rfl 1 (by decide) lk54 (fun _ h9 => h9) rfl dX6_comes_81 ?_
    refine lv_icmp_gt (tgt := 89) hx hb dX6_comes_84 (by decide) (fun c_84 => ?_) (fun c_84 => ?_)
    · replace c_84 : bk < ((flt L (0) X_ Y_).length) := (nI_ltI (by omega) (by omega)).mp c_84
      have hf1 := flt_1 (b := b) hL.2.1 X_ Y_
      omega
    · replace c_84 : ¬ bk < ((flt L (0) X_ Y_).length) := fun h9 => c_84 ((nI_ltI (by omega) (by omega)).mpr h9)
      refine lv_iconst (v := nI 1) hx hb dX6_comes_87 (by decide) ?_
      refine wM hQ ?_
      exact rtZ (lf, kf, W0) hx hb hr hlocks (by decide) hP hS (⟨rfl, wOk_pop hW, by show rem bk L W0 = _; rw [tr_leaf (show (flt L (0) X_ Y_).length ≤ bk by omega)]; rfl⟩) dX6_comes_88
  · change nI (W0.length + 1) = nI 0 at c_4
    replace c_4 : (W0.length + 1) = 0 := (nI_eq (by omega) (by omega)).mp c_4
    omega
set_option maxHeartbeats 4000000 in
set_option maxRecDepth 100000 in
theorem c_X6_comes_s (l : Launch) (X : kX) (m bl bk b sp mn xr yr vr cr wr nc wl wc rx ry rv fr : Nat) (f_of f_ar f_lv f_fi f_en f_rs : Int32) (f_cd : Int64) (d X_ Y_ : Nat) (s : Nat) (mf : Nat → Int32) (cf : Nat → Int64) (L Z : PL) (hs : s ≤ 1) (hm : mf s = nI Z.length) (hC : mC cf s Z) (hz : zOk b L Z) (hi : insd b L) (hL : lOk L) (hb1 : b ≤ 15) (W0 : List Rg) (lf : Nat → Int32) (kf : Nat → Int64) (hW : wOk b lf kf (W0 ++ [(d + 1, X_, Y_)])) (hbk : 1 ≤ bk) (hbk2 : bk ≤ 8) : CWi l X yX6_comes wsX6_comes 3 [.ref m, .int (nI s)] [(m, .inr (6, [.int (nI bl), .int (nI bk), .int (nI b), .int (nI sp), .ref mn, .ref xr, .ref yr, .ref vr, .ref cr, .ref wr, .int (nI nc), .int f_of, .int f_ar, .ref wl, .ref wc, .int (nI (W0.length + 1)), .int f_lv, .int f_fi, .int f_en, .long f_cd, .ref rx, .ref ry, .ref rv, .ref fr, .int f_rs])), (mn, .inl (X.2.1, 2, .inl mf)), (cr, .inl (X.2.2, 6600, .inr (.inl cf))), (wl, .inl (X.2.1, 80, .inl lf)), (wc, .inl (X.2.2, 80, .inr (.inl kf)))] (S := (Nat → Int32) × (Nat → Int64) × List Rg) (fun r u => r = nI 1 ∧ wOk b u.1 u.2.1 u.2.2 ∧ rem bk L u.2.2 = (trR bk L (d + 1, X_, Y_)).tail ++ rem bk L W0) (fun ⟨lf2, kf2, W2⟩ => [(m, .inr (6, [.int (nI bl), .int (nI bk), .int (nI b), .int (nI sp), .ref mn, .ref xr, .ref yr, .ref vr, .ref cr, .ref wr, .int (nI nc), .int f_of, .int f_ar, .ref wl, .ref wc, .int (nI ((W2).length)), .int (nI (b - (d + 1))), .int (nI (rk Z (cdR b (d + 1, X_, Y_)))), .int (nI (rk Z (cdR b (d + 1, X_, Y_) + 4 ^ (d + 1)))), .long (lN (cdR b (d + 1, X_, Y_))), .ref rx, .ref ry, .ref rv, .ref fr, .int f_rs])), (mn, .inl (X.2.1, 2, .inl mf)), (cr, .inl (X.2.2, 6600, .inr (.inl cf))), (wl, .inl (X.2.1, 80, .inl lf2)), (wc, .inl (X.2.2, 80, .inr (.inl kf2)))]) := by
  refine Met.ofW (cc := cX6_comes) (maxL := 3) (ret := some (.boolean)) (by decide) rfl ?_
  intro pz ez sz mz args below meth cz s₁ Bz hml hv
  obtain ⟨rfl, hP, hK, hD0, hN⟩ := hv
  have hx := Bz.exec
  have hb := Bz.bytes
  have hr := Bz.returns
  have hts := atoms_spec (ws := wsX6_comes) Bz.pre
  have hown : sz.vm.findClass RX6 = some mz.cls := findClass_of_methodNamed Bz.named
  have hlocks := Bz.notSynchronized
  have hD := inW.self hD0
  have hS : va_S (inW [(m, .inr (6, [.int (nI bl), .int (nI bk), .int (nI b), .int (nI sp), .ref mn, .ref xr, .ref yr, .ref vr, .ref cr, .ref wr, .int (nI nc), .int f_of, .int f_ar, .ref wl, .ref wc, .int (nI (W0.length + 1)), .int f_lv, .int f_fi, .int f_en, .long f_cd, .ref rx, .ref ry, .ref rv, .ref fr, .int f_rs])), (mn, .inl (X.2.1, 2, .inl mf)), (cr, .inl (X.2.2, 6600, .inr (.inl cf))), (wl, .inl (X.2.1, 80, .inl lf)), (wc, .inl (X.2.2, 80, .inr (.inl kf)))]) sz.heap sz.heap [] := va_S.rf
  have hl := lv_entry ([.ref m, .int (nI s)]) (n := 3) (Nat.le_of_ble_eq_true rfl)
  rw [lg_entry_eq]
  generalize (lg_sl ([.ref m, .int (nI s)]) ++ List.replicate (3 - (lg_sl ([.ref m, .int (nI s)])).length) Slot.unset).toArray = ls at hl ⊢
  have hl : lv_has ls 3 [(0, .ref m), (1, .int (nI s))] := hl
  have lk33 := hts (.fieldLink RX6 33 "PointStoreModel" "waitLevel" "[I") (by decide +kernel)
  have lk36 := hts (.fieldLink RX6 36 "PointStoreModel" "waitCode" "[J") (by decide +kernel)
  have lk54 := hts (.fieldLink RX6 54 "PointStoreModel" "bucket" "I") (by decide +kernel)
  have lk57 := hts (.fieldLink RX6 57 "PointStoreModel" "bits" "I") (by decide +kernel)
  have lk74 := hts (.fieldLink RX6 74 "PointStoreModel" "waits" "I") (by decide +kernel)
  have lk77 := hts (.fieldLink RX6 77 "PointStoreModel" "code" "J") (by decide +kernel)
  have lk81 := hts (.fieldLink RX6 81 "PointStoreModel" "level" "I") (by decide +kernel)
  have lk84 := hts (.fieldLink RX6 84 "PointStoreModel" "first" "I") (by decide +kernel)
  have lk91 := hts (.fieldLink RX6 91 "PointStoreModel" "end" "I") (by decide +kernel)
  have hin6 : ∀ w ∈ u_ws RX6 TX6 25, w ∈ wsX6_comes := by decide +kernel
  refine wQ (fun Q hQ => ?_)
  generalize hAe : inW [(m, .inr (6, [.int (nI bl), .int (nI bk), .int (nI b), .int (nI sp), .ref mn, .ref xr, .ref yr, .ref vr, .ref cr, .ref wr, .int (nI nc), .int f_of, .int f_ar, .ref wl, .ref wc, .int (nI (W0.length + 1)), .int f_lv, .int f_fi, .int f_en, .long f_cd, .ref rx, .ref ry, .ref rv, .ref fr, .int f_rs])), (mn, .inl (X.2.1, 2, .inl mf)), (cr, .inl (X.2.2, 6600, .inr (.inl cf))), (wl, .inl (X.2.1, 80, .inl lf)), (wc, .inl (X.2.2, 80, .inr (.inl kf)))] = A_ at hD hS hQ
  have hrr := hW W0.length (by simp)
  rw [rg_get] at hrr
  obtain ⟨hr1, hr2, hrg, hr3⟩ := hrr
  have hd : d + 1 ≤ b := hrg.1
  have hr3 : W0.length ≤ 3 * (b - (d + 1)) := hr3
  have hcl : cdR b (d + 1, X_, Y_) + 4 ^ (d + 1) ≤ 4 ^ b := cdR_lt hrg
  have h4 : 4 ^ b ≤ 4 ^ 15 := Nat.pow_le_pow_right (by decide) hb1
  have hrk := reg_rk hz hi hrg
  have hpos4 : 0 < 4 ^ (d + 1) := Nat.pow_pos (by decide)
  have hzl : rk Z (cdR b (d + 1, X_, Y_)) + (flt L (d + 1) X_ Y_).length ≤ 512 := by
    have e1 := rk_le Z (cdR b (d + 1, X_, Y_) + 4 ^ (d + 1))
    rw [hrk, hz.len] at e1
    have := hL.1
    omega
  refine lv_aload_n hx hb dX6_comes_0 rfl (lv_at hl 0 rfl) ?_
  refine va_get (D := X.1) (ci := 6) (v := .int (nI (W0.length + 1))) (C := RX6) (T := TX6) (N := 25) hx hb hts hin6 hown hK hP 0 rfl rfl 15 (by decide) lk74 (fun _ h9 => h9) rfl dX6_comes_1 ?_
  refine lv_if_ne (tgt := 9) hx hb dX6_comes_4 (by decide) (fun c_4 => ?_) (fun c_4 => ?_)
  · change ¬ nI (W0.length + 1) = nI 0 at c_4
    replace c_4 : ¬ (W0.length + 1) = 0 := fun h9 => c_4 ((nI_eq (by omega) (by omega)).mpr h9)
    refine lv_aload_n hx hb dX6_comes_9 rfl (lv_at hl 0 rfl) ?_
    refine lv_aload_n hx hb dX6_comes_10 rfl (lv_at hl 0 rfl) ?_
    refine va_get (D := X.1) (ci := 6) (v := .int (nI (W0.length + 1))) (C := RX6) (T := TX6) (N := 25) hx hb hts hin6 hown hK hP 0 rfl rfl 15 (by decide) lk74 (fun _ h9 => h9) rfl dX6_comes_11 ?_
    refine lv_iconst (v := nI 1) hx hb dX6_comes_14 (by decide) ?_
    refine lv_isub hx hb dX6_comes_15 ?_
    refine lv_topi (fun x_1 ex_1 => ?_)
    obtain rfl : x_1 = nI W0.length := by
      rw [ex_1]
      rw [pk_sub (by omega)]
      congr 1
    refine va_put (D := X.1) (ci := 6) (v := .int (nI W0.length)) (ty := .int) (C := RX6) (T := TX6) (N := 25) hx hb hts hin6 tyX6 tyX6_ok nmX6 hown hK hP hD hS 0 rfl rfl 15 (by decide) lk74 (fun _ h9 => h9) rfl (by decide +kernel) rfl rfl (Nat.le_of_ble_eq_true rfl) dX6_comes_16 (fun H locs hP hD hS => ?_)
    have hP : va_P X.1 vwCl [(m, .inr (6, [.int (nI bl), .int (nI bk), .int (nI b), .int (nI sp), .ref mn, .ref xr, .ref yr, .ref vr, .ref cr, .ref wr, .int (nI nc), .int f_of, .int f_ar, .ref wl, .ref wc, .int (nI W0.length), .int f_lv, .int f_fi, .int f_en, .long f_cd, .ref rx, .ref ry, .ref rv, .ref fr, .int f_rs])), (mn, .inl (X.2.1, 2, .inl mf)), (cr, .inl (X.2.2, 6600, .inr (.inl cf))), (wl, .inl (X.2.1, 80, .inl lf)), (wc, .inl (X.2.2, 80, .inr (.inl kf)))] H := hP
    have hD : va_D A_ [(m, .inr (6, [.int (nI bl), .int (nI bk), .int (nI b), .int (nI sp), .ref mn, .ref xr, .ref yr, .ref vr, .ref cr, .ref wr, .int (nI nc), .int f_of, .int f_ar, .ref wl, .ref wc, .int (nI W0.length), .int f_lv, .int f_fi, .int f_en, .long f_cd, .ref rx, .ref ry, .ref rv, .ref fr, .int f_rs])), (mn, .inl (X.2.1, 2, .inl mf)), (cr, .inl (X.2.2, 6600, .inr (.inl cf))), (wl, .inl (X.2.1, 80, .inl lf)), (wc, .inl (X.2.2, 80, .inr (.inl kf)))] := hD
    refine lv_aload_n hx hb dX6_comes_19 rfl (lv_at hl 0 rfl) ?_
    refine lv_aload_n hx hb dX6_comes_20 rfl (lv_at hl 0 rfl) ?_
    refine va_get (D := X.1) (ci := 6) (v := .ref wl) (C := RX6) (T := TX6) (N := 25) hx hb hts hin6 hown hK hP 0 rfl rfl 13 (by decide) lk33 (fun _ h9 => h9) rfl dX6_comes_21 ?_
    refine lv_aload_n hx hb dX6_comes_24 rfl (lv_at hl 0 rfl) ?_
    refine va_get (D := X.1) (ci := 6) (v := .int (nI W0.length)) (C := RX6) (T := TX6) (N := 25) hx hb hts hin6 hown hK hP 0 rfl rfl 15 (by decide) lk74 (fun _ h9 => h9) rfl dX6_comes_25 ?_
    have hi_2 : vp_in (nI W0.length) 80 := vp_in_nI (by omega) (by omega)
    refine va_iald hx hb hK hP 3 0 rfl rfl hi_2 dX6_comes_28 ?_
    refine lv_topi (fun x_3 ex_3 => ?_)
    obtain rfl : x_3 = lf W0.length := by
      rw [ex_3]
      rw [nI_clamp (by omega)]
    refine lv_topi (fun x_4 ex_4 => ?_)
    obtain rfl : x_4 = nI (b - (d + 1)) := by
      rw [ex_4]
      exact hr1
    refine va_put (D := X.1) (ci := 6) (v := .int (nI (b - (d + 1)))) (ty := .int) (C := RX6) (T := TX6) (N := 25) hx hb hts hin6 tyX6 tyX6_ok nmX6 hown hK hP hD hS 0 rfl rfl 16 (by decide) lk81 (fun _ h9 => h9) rfl (by decide +kernel) rfl rfl (Nat.le_of_ble_eq_true rfl) dX6_comes_29 (fun H locs hP hD hS => ?_)
    have hP : va_P X.1 vwCl [(m, .inr (6, [.int (nI bl), .int (nI bk), .int (nI b), .int (nI sp), .ref mn, .ref xr, .ref yr, .ref vr, .ref cr, .ref wr, .int (nI nc), .int f_of, .int f_ar, .ref wl, .ref wc, .int (nI W0.length), .int (nI (b - (d + 1))), .int f_fi, .int f_en, .long f_cd, .ref rx, .ref ry, .ref rv, .ref fr, .int f_rs])), (mn, .inl (X.2.1, 2, .inl mf)), (cr, .inl (X.2.2, 6600, .inr (.inl cf))), (wl, .inl (X.2.1, 80, .inl lf)), (wc, .inl (X.2.2, 80, .inr (.inl kf)))] H := hP
    have hD : va_D A_ [(m, .inr (6, [.int (nI bl), .int (nI bk), .int (nI b), .int (nI sp), .ref mn, .ref xr, .ref yr, .ref vr, .ref cr, .ref wr, .int (nI nc), .int f_of, .int f_ar, .ref wl, .ref wc, .int (nI W0.length), .int (nI (b - (d + 1))), .int f_fi, .int f_en, .long f_cd, .ref rx, .ref ry, .ref rv, .ref fr, .int f_rs])), (mn, .inl (X.2.1, 2, .inl mf)), (cr, .inl (X.2.2, 6600, .inr (.inl cf))), (wl, .inl (X.2.1, 80, .inl lf)), (wc, .inl (X.2.2, 80, .inr (.inl kf)))] := hD
    refine lv_aload_n hx hb dX6_comes_32 rfl (lv_at hl 0 rfl) ?_
    refine lv_aload_n hx hb dX6_comes_33 rfl (lv_at hl 0 rfl) ?_
    refine va_get (D := X.1) (ci := 6) (v := .ref wc) (C := RX6) (T := TX6) (N := 25) hx hb hts hin6 hown hK hP 0 rfl rfl 14 (by decide) lk36 (fun _ h9 => h9) rfl dX6_comes_34 ?_
    refine lv_aload_n hx hb dX6_comes_37 rfl (lv_at hl 0 rfl) ?_
    refine va_get (D := X.1) (ci := 6) (v := .int (nI W0.length)) (C := RX6) (T := TX6) (N := 25) hx hb hts hin6 hown hK hP 0 rfl rfl 15 (by decide) lk74 (fun _ h9 => h9) rfl dX6_comes_38 ?_
    have hi_5 : vp_in (nI W0.length) 80 := vp_in_nI (by omega) (by omega)
    refine va_lald hx hb hK hP 4 1 rfl rfl hi_5 dX6_comes_41 ?_
    refine lv_topl (fun x_6 ex_6 => ?_)
    obtain rfl : x_6 = kf W0.length := by
      rw [ex_6]
      rw [nI_clamp (by omega)]
    refine lv_topl (fun x_7 ex_7 => ?_)
    obtain rfl : x_7 = lN (cdR b (d + 1, X_, Y_)) := by
      rw [ex_7]
      exact hr2
    refine va_put (D := X.1) (ci := 6) (v := .long (lN (cdR b (d + 1, X_, Y_)))) (ty := .long) (C := RX6) (T := TX6) (N := 25) hx hb hts hin6 tyX6 tyX6_ok nmX6 hown hK hP hD hS 0 rfl rfl 19 (by decide) lk77 (fun _ h9 => h9) rfl (by decide +kernel) rfl rfl (Nat.le_of_ble_eq_true rfl) dX6_comes_42 (fun H locs hP hD hS => ?_)
    have hP : va_P X.1 vwCl [(m, .inr (6, [.int (nI bl), .int (nI bk), .int (nI b), .int (nI sp), .ref mn, .ref xr, .ref yr, .ref vr, .ref cr, .ref wr, .int (nI nc), .int f_of, .int f_ar, .ref wl, .ref wc, .int (nI W0.length), .int (nI (b - (d + 1))), .int f_fi, .int f_en, .long (lN (cdR b (d + 1, X_, Y_))), .ref rx, .ref ry, .ref rv, .ref fr, .int f_rs])), (mn, .inl (X.2.1, 2, .inl mf)), (cr, .inl (X.2.2, 6600, .inr (.inl cf))), (wl, .inl (X.2.1, 80, .inl lf)), (wc, .inl (X.2.2, 80, .inr (.inl kf)))] H := hP
    have hD : va_D A_ [(m, .inr (6, [.int (nI bl), .int (nI bk), .int (nI b), .int (nI sp), .ref mn, .ref xr, .ref yr, .ref vr, .ref cr, .ref wr, .int (nI nc), .int f_of, .int f_ar, .ref wl, .ref wc, .int (nI W0.length), .int (nI (b - (d + 1))), .int f_fi, .int f_en, .long (lN (cdR b (d + 1, X_, Y_))), .ref rx, .ref ry, .ref rv, .ref fr, .int f_rs])), (mn, .inl (X.2.1, 2, .inl mf)), (cr, .inl (X.2.2, 6600, .inr (.inl cf))), (wl, .inl (X.2.1, 80, .inl lf)), (wc, .inl (X.2.2, 80, .inr (.inl kf)))] := hD
    refine lv_aload_n hx hb dX6_comes_45 rfl (lv_at hl 0 rfl) ?_
    refine lv_aload_n hx hb dX6_comes_46 rfl (lv_at hl 0 rfl) ?_
    refine lv_iload_n hx hb dX6_comes_47 rfl (lv_at hl 1 rfl) ?_
    refine lv_aload_n hx hb dX6_comes_48 rfl (lv_at hl 0 rfl) ?_
    refine va_get (D := X.1) (ci := 6) (v := .long (lN (cdR b (d + 1, X_, Y_)))) (C := RX6) (T := TX6) (N := 25) hx hb hts hin6 hown hK hP 0 rfl rfl 19 (by decide) lk77 (fun _ h9 => h9) rfl dX6_comes_49 ?_
    refine ckVRi (As := [.int (nI s), .long (lN (cdR b (d + 1, X_, Y_)))]) (rest := [.ref m]) 0 [0, 1, 2] (c_X6_below l X m bl bk b sp mn xr yr vr cr wr nc wl wc rx ry rv fr f_of f_ar (nI W0.length) (nI (b - (d + 1))) f_fi f_en f_rs (lN (cdR b (d + 1, X_, Y_))) s (cdR b (d + 1, X_, Y_)) mf cf Z hs (by omega) hm hC hz.1 (by rw [hz.len]; exact hL.1) (hz.b hb1)) ⟨hx, hb, hml, hown, hts⟩ (cwV 2 hts gX6_comes_X6_below rfl rfl rfl (by decide +kernel) ⟨Nat.le_of_ble_eq_true rfl, Nat.le_of_ble_eq_true rfl⟩) hK hN hP hD (by decide) rfl (ci := 6) rfl rfl rfl hl.1 rfl (Nat.le_of_ble_eq_true rfl) dX6_comes_52 ⟨Nat.zero_le _, Nat.zero_le _⟩ (fun r_8 hc_52 => ?_)
    subst hc_52
    refine va_put (D := X.1) (ci := 6) (v := .int (nI (rk Z (cdR b (d + 1, X_, Y_))))) (ty := .int) (C := RX6) (T := TX6) (N := 25) hx hb hts hin6 tyX6 tyX6_ok nmX6 hown hK hP hD hS 0 rfl rfl 17 (by decide) lk84 (fun _ h9 => h9) rfl (by decide +kernel) rfl rfl (Nat.le_of_ble_eq_true rfl) dX6_comes_55 (fun H locs hP hD hS => ?_)
    have hP : va_P X.1 vwCl [(m, .inr (6, [.int (nI bl), .int (nI bk), .int (nI b), .int (nI sp), .ref mn, .ref xr, .ref yr, .ref vr, .ref cr, .ref wr, .int (nI nc), .int f_of, .int f_ar, .ref wl, .ref wc, .int (nI W0.length), .int (nI (b - (d + 1))), .int (nI (rk Z (cdR b (d + 1, X_, Y_)))), .int f_en, .long (lN (cdR b (d + 1, X_, Y_))), .ref rx, .ref ry, .ref rv, .ref fr, .int f_rs])), (mn, .inl (X.2.1, 2, .inl mf)), (cr, .inl (X.2.2, 6600, .inr (.inl cf))), (wl, .inl (X.2.1, 80, .inl lf)), (wc, .inl (X.2.2, 80, .inr (.inl kf)))] H := hP
    have hD : va_D A_ [(m, .inr (6, [.int (nI bl), .int (nI bk), .int (nI b), .int (nI sp), .ref mn, .ref xr, .ref yr, .ref vr, .ref cr, .ref wr, .int (nI nc), .int f_of, .int f_ar, .ref wl, .ref wc, .int (nI W0.length), .int (nI (b - (d + 1))), .int (nI (rk Z (cdR b (d + 1, X_, Y_)))), .int f_en, .long (lN (cdR b (d + 1, X_, Y_))), .ref rx, .ref ry, .ref rv, .ref fr, .int f_rs])), (mn, .inl (X.2.1, 2, .inl mf)), (cr, .inl (X.2.2, 6600, .inr (.inl cf))), (wl, .inl (X.2.1, 80, .inl lf)), (wc, .inl (X.2.2, 80, .inr (.inl kf)))] := hD
    refine lv_aload_n hx hb dX6_comes_58 rfl (lv_at hl 0 rfl) ?_
    refine lv_aload_n hx hb dX6_comes_59 rfl (lv_at hl 0 rfl) ?_
    refine lv_iload_n hx hb dX6_comes_60 rfl (lv_at hl 1 rfl) ?_
    refine lv_aload_n hx hb dX6_comes_61 rfl (lv_at hl 0 rfl) ?_
    refine ckVRl (As := []) (rest := [.int (nI s), .ref m, .ref m]) 0 [0] (c_X6_next l X m bl bk b sp mn xr yr vr cr wr nc wl wc rx ry rv fr f_of f_ar (nI W0.length) (nI (rk Z (cdR b (d + 1, X_, Y_)))) f_en f_rs (d + 1) X_ Y_ hb1 hrg) ⟨hx, hb, hml, hown, hts⟩ (cwV 0 hts gX6_comes_X6_next rfl rfl rfl (by decide +kernel) ⟨Nat.le_of_ble_eq_true rfl, Nat.le_of_ble_eq_true rfl⟩) hK hN hP hD (by decide) rfl (ci := 6) rfl rfl rfl hl.1 rfl (Nat.le_of_ble_eq_true rfl) dX6_comes_62 ⟨Nat.zero_le _, Nat.zero_le _⟩ (fun r_9 hc_62 => ?_)
    subst hc_62
    refine ckVRi (As := [.int (nI s), .long (lN (cdR b (d + 1, X_, Y_) + 4 ^ (d + 1)))]) (rest := [.ref m]) 0 [0, 1, 2] (c_X6_below l X m bl bk b sp mn xr yr vr cr wr nc wl wc rx ry rv fr f_of f_ar (nI W0.length) (nI (b - (d + 1))) (nI (rk Z (cdR b (d + 1, X_, Y_)))) f_en f_rs (lN (cdR b (d + 1, X_, Y_))) s (cdR b (d + 1, X_, Y_) + 4 ^ (d + 1)) mf cf Z hs (by omega) hm hC hz.1 (by rw [hz.len]; exact hL.1) (hz.b hb1)) ⟨hx, hb, hml, hown, hts⟩ (cwV 2 hts gX6_comes_X6_below rfl rfl rfl (by decide +kernel) ⟨Nat.le_of_ble_eq_true rfl, Nat.le_of_ble_eq_true rfl⟩) hK hN hP hD (by decide) rfl (ci := 6) rfl rfl rfl hl.1 rfl (Nat.le_of_ble_eq_true rfl) dX6_comes_65 ⟨Nat.zero_le _, Nat.zero_le _⟩ (fun r_10 hc_65 => ?_)
    subst hc_65
    refine va_put (D := X.1) (ci := 6) (v := .int (nI (rk Z (cdR b (d + 1, X_, Y_) + 4 ^ (d + 1))))) (ty := .int) (C := RX6) (T := TX6) (N := 25) hx hb hts hin6 tyX6 tyX6_ok nmX6 hown hK hP hD hS 0 rfl rfl 18 (by decide) lk91 (fun _ h9 => h9) rfl (by decide +kernel) rfl rfl (Nat.le_of_ble_eq_true rfl) dX6_comes_68 (fun H locs hP hD hS => ?_)
    have hP : va_P X.1 vwCl [(m, .inr (6, [.int (nI bl), .int (nI bk), .int (nI b), .int (nI sp), .ref mn, .ref xr, .ref yr, .ref vr, .ref cr, .ref wr, .int (nI nc), .int f_of, .int f_ar, .ref wl, .ref wc, .int (nI W0.length), .int (nI (b - (d + 1))), .int (nI (rk Z (cdR b (d + 1, X_, Y_)))), .int (nI (rk Z (cdR b (d + 1, X_, Y_) + 4 ^ (d + 1)))), .long (lN (cdR b (d + 1, X_, Y_))), .ref rx, .ref ry, .ref rv, .ref fr, .int f_rs])), (mn, .inl (X.2.1, 2, .inl mf)), (cr, .inl (X.2.2, 6600, .inr (.inl cf))), (wl, .inl (X.2.1, 80, .inl lf)), (wc, .inl (X.2.2, 80, .inr (.inl kf)))] H := hP
    have hD : va_D A_ [(m, .inr (6, [.int (nI bl), .int (nI bk), .int (nI b), .int (nI sp), .ref mn, .ref xr, .ref yr, .ref vr, .ref cr, .ref wr, .int (nI nc), .int f_of, .int f_ar, .ref wl, .ref wc, .int (nI W0.length), .int (nI (b - (d + 1))), .int (nI (rk Z (cdR b (d + 1, X_, Y_)))), .int (nI (rk Z (cdR b (d + 1, X_, Y_) + 4 ^ (d + 1)))), .long (lN (cdR b (d + 1, X_, Y_))), .ref rx, .ref ry, .ref rv, .ref fr, .int f_rs])), (mn, .inl (X.2.1, 2, .inl mf)), (cr, .inl (X.2.2, 6600, .inr (.inl cf))), (wl, .inl (X.2.1, 80, .inl lf)), (wc, .inl (X.2.2, 80, .inr (.inl kf)))] := hD
    refine lv_aload_n hx hb dX6_comes_71 rfl (lv_at hl 0 rfl) ?_
    refine va_get (D := X.1) (ci := 6) (v := .int (nI (rk Z (cdR b (d + 1, X_, Y_) + 4 ^ (d + 1))))) (C := RX6) (T := TX6) (N := 25) hx hb hts hin6 hown hK hP 0 rfl rfl 18 (by decide) lk91 (fun _ h9 => h9) rfl dX6_comes_72 ?_
    refine lv_aload_n hx hb dX6_comes_75 rfl (lv_at hl 0 rfl) ?_
    refine va_get (D := X.1) (ci := 6) (v := .int (nI (rk Z (cdR b (d + 1, X_, Y_))))) (C := RX6) (T := TX6) (N := 25) hx hb hts hin6 hown hK hP 0 rfl rfl 17 (by decide) lk84 (fun _ h9 => h9) rfl dX6_comes_76 ?_
    refine lv_isub hx hb dX6_comes_79 ?_
    refine lv_topi (fun x_11 ex_11 => ?_)
    obtain rfl : x_11 = nI ((flt L (d + 1) X_ Y_).length) := by
      rw [ex_11]
      rw [hrk, pk_sub (by omega)]
      congr 1
      omega
    refine lv_aload_n hx hb dX6_comes_80 rfl (lv_at hl 0 rfl) ?_
    refine va_get (D := X.1) (ci := 6) (v := .int (nI bk)) (C := RX6) (T := TX6) (N := 25) hx hb hts hin6 hown hK hP 0 rfl rfl 1 (by decide) lk54 (fun _ h9 => h9) rfl dX6_comes_81 ?_
    refine lv_icmp_gt (tgt := 89) hx hb dX6_comes_84 (by decide) (fun c_84 => ?_) (fun c_84 => ?_)
    · replace c_84 : bk < ((flt L (d + 1) X_ Y_).length) := (nI_ltI (by omega) (by omega)).mp c_84
      refine lv_iconst (v := nI 3) hx hb dX6_comes_89 (by decide) ?_
      refine lv_istore_n (lv' := [(2, .int (nI 3)), (0, .ref m), (1, .int (nI s))]) hx hb dX6_comes_90 rfl hl (by decide) rfl (fun ls hl => ?_)
      have loop_91 : ∀ (fu : Nat) (n : Nat) (lf1 : Nat → Int32) (kf1 : Nat → Int64), (n ≤ 4) → (wOk b lf1 kf1 (W0 ++ kst L d X_ Y_ n)) → 4 - n < fu → ∀ (H : Heap) (locs : List Loc), va_P X.1 vwCl [(m, .inr (6, [.int (nI bl), .int (nI bk), .int (nI b), .int (nI sp), .ref mn, .ref xr, .ref yr, .ref vr, .ref cr, .ref wr, .int (nI nc), .int f_of, .int f_ar, .ref wl, .ref wc, .int (nI ((W0 ++ kst L d X_ Y_ n).length)), .int (nI (b - (d + 1))), .int (nI (rk Z (cdR b (d + 1, X_, Y_)))), .int (nI (rk Z (cdR b (d + 1, X_, Y_) + 4 ^ (d + 1)))), .long (lN (cdR b (d + 1, X_, Y_))), .ref rx, .ref ry, .ref rv, .ref fr, .int f_rs])), (mn, .inl (X.2.1, 2, .inl mf)), (cr, .inl (X.2.2, 6600, .inr (.inl cf))), (wl, .inl (X.2.1, 80, .inl lf1)), (wc, .inl (X.2.2, 80, .inr (.inl kf1)))] H → va_D A_ [(m, .inr (6, [.int (nI bl), .int (nI bk), .int (nI b), .int (nI sp), .ref mn, .ref xr, .ref yr, .ref vr, .ref cr, .ref wr, .int (nI nc), .int f_of, .int f_ar, .ref wl, .ref wc, .int (nI ((W0 ++ kst L d X_ Y_ n).length)), .int (nI (b - (d + 1))), .int (nI (rk Z (cdR b (d + 1, X_, Y_)))), .int (nI (rk Z (cdR b (d + 1, X_, Y_) + 4 ^ (d + 1)))), .long (lN (cdR b (d + 1, X_, Y_))), .ref rx, .ref ry, .ref rv, .ref fr, .int f_rs])), (mn, .inl (X.2.1, 2, .inl mf)), (cr, .inl (X.2.2, 6600, .inr (.inl cf))), (wl, .inl (X.2.1, 80, .inl lf1)), (wc, .inl (X.2.2, 80, .inr (.inl kf1)))] → va_S A_ sz.heap H locs → ∀ (ls : Array Slot), lv_has ls 3 [(0, .ref m), (1, .int (nI s)), (2, .int (im (4 - n)))] → W pz l ez (headSpec wsX6_comes (rmk 3)).room sz mz ([.ref m, .int (nI s)].toArray) below meth cz H locs 0 0 Q (F0 mz 91 ls []) := by
        intro fu
        induction fu with
        | zero => intro n lf1 kf1 hn h1 hfu; exact absurd hfu (Nat.not_lt_zero _)
        | succ fu ih91 =>
          intro n lf1 kf1 hn h1 hfu H locs hP hD hS ls hl
          rcases (show n = 4 ∨ n < 4 by omega) with hn4 | hn4
          · skip
            subst hn4
            rw [show im (4 - 4) = -1 from by decide] at hl
            refine lv_iload_n hx hb dX6_comes_91 rfl (lv_at hl 2 rfl) ?_
            refine lv_if_lt (tgt := 168) hx hb dX6_comes_92 (by decide) (fun c_92 => ?_) (fun c_92 => ?_)
            · skip
              refine lv_iconst (v := nI 1) hx hb dX6_comes_168 (by decide) ?_
              refine wM hQ ?_
              exact rtZ (lf1, kf1, W0 ++ kst L d X_ Y_ 4) hx hb hr hlocks (by decide) hP hS (⟨rfl, h1, by show rem bk L (W0 ++ kst L d X_ Y_ 4) = _; rw [rem_kids, tr_inner (by omega)]; rfl⟩) dX6_comes_169
            · exact absurd c_92 (by decide)
          · skip
            rw [show im (4 - n) = nI (3 - n) from by rw [show 4 - n = 3 - n + 1 by omega]; exact nI_pred _] at hl
            have hkl := kst_len L d X_ Y_ n
            have hwl : (W0 ++ kst L d X_ Y_ n).length ≤ 3 * (b - d) := by
              rw [List.length_append]
              omega
            have hw80 : (W0 ++ kst L d X_ Y_ n).length < 80 := by omega
            refine lv_iload_n hx hb dX6_comes_91 rfl (lv_at hl 2 rfl) ?_
            refine lv_if_lt (tgt := 168) hx hb dX6_comes_92 (by decide) (fun c_92 => ?_) (fun c_92 => ?_)
            · exact absurd c_92 (by first | exact nI_pos (by omega) | exact fun h9 => h9 (nI_pos' (by omega)))
            · change ¬ (nI (3 - n) < nI 0) at c_92
              replace c_92 : ¬ (3 - n) < 0 := fun h9 => c_92 ((nI_ltI (by omega) (by omega)).mpr h9)
              refine lv_aload_n hx hb dX6_comes_95 rfl (lv_at hl 0 rfl) ?_
              refine lv_iload_n hx hb dX6_comes_96 rfl (lv_at hl 1 rfl) ?_
              refine lv_iload_n hx hb dX6_comes_97 rfl (lv_at hl 2 rfl) ?_
              refine ckVRi (As := [.int (nI s), .int (nI (3 - n))]) (rest := []) 0 [0, 1, 2] (c_X6_part l X m bl bk b sp mn xr yr vr cr wr nc wl wc rx ry rv fr f_of f_ar (nI ((W0 ++ kst L d X_ Y_ n).length)) (nI (rk Z (cdR b (d + 1, X_, Y_)))) (nI (rk Z (cdR b (d + 1, X_, Y_) + 4 ^ (d + 1)))) f_rs (3 - n) d X_ Y_ s mf cf L Z hs hm hC hz hi hL hb1 hrg (by omega)) ⟨hx, hb, hml, hown, hts⟩ (cwV 2 hts gX6_comes_X6_part rfl rfl rfl (by decide +kernel) ⟨Nat.le_of_ble_eq_true rfl, Nat.le_of_ble_eq_true rfl⟩) hK hN hP hD (by decide) rfl (ci := 6) rfl rfl rfl hl.1 rfl (Nat.le_of_ble_eq_true rfl) dX6_comes_98 ⟨Nat.zero_le _, Nat.zero_le _⟩ (fun r_12 hc_98 => ?_)
              subst hc_98
              have hfl : (flt L d (2 * X_ + (3 - n) % 2) (2 * Y_ + (3 - n) / 2)).length ≤ 512 := Nat.le_trans (List.length_filter_le _ _) hL.1
              refine lv_if_ne (tgt := 107) hx hb dX6_comes_101 (by decide) (fun c_101 => ?_) (fun c_101 => ?_)
              · change ¬ nI ((flt L d (2 * X_ + (3 - n) % 2) (2 * Y_ + (3 - n) / 2)).length) = nI 0 at c_101
                replace c_101 : ¬ ((flt L d (2 * X_ + (3 - n) % 2) (2 * Y_ + (3 - n) / 2)).length) = 0 := fun h9 => c_101 ((nI_eq (by omega) (by omega)).mpr h9)
                have hk1 : W0 ++ kst L d X_ Y_ (n + 1) = (W0 ++ kst L d X_ Y_ n) ++ [chR d X_ Y_ (3 - n)] := by
                  show W0 ++ (kst L d X_ Y_ n ++ (if _ then _ else _)) = _
                  rw [if_neg c_101, List.append_assoc]
                refine lv_aload_n hx hb dX6_comes_107 rfl (lv_at hl 0 rfl) ?_
                refine va_get (D := X.1) (ci := 6) (v := .ref wl) (C := RX6) (T := TX6) (N := 25) hx hb hts hin6 hown hK hP 0 rfl rfl 13 (by decide) lk33 (fun _ h9 => h9) rfl dX6_comes_108 ?_
                refine lv_aload_n hx hb dX6_comes_111 rfl (lv_at hl 0 rfl) ?_
                refine va_get (D := X.1) (ci := 6) (v := .int (nI ((W0 ++ kst L d X_ Y_ n).length))) (C := RX6) (T := TX6) (N := 25) hx hb hts hin6 hown hK hP 0 rfl rfl 15 (by decide) lk74 (fun _ h9 => h9) rfl dX6_comes_112 ?_
                refine lv_aload_n hx hb dX6_comes_115 rfl (lv_at hl 0 rfl) ?_
                refine va_get (D := X.1) (ci := 6) (v := .int (nI (b - (d + 1)))) (C := RX6) (T := TX6) (N := 25) hx hb hts hin6 hown hK hP 0 rfl rfl 16 (by decide) lk81 (fun _ h9 => h9) rfl dX6_comes_116 ?_
                refine lv_iconst (v := nI 1) hx hb dX6_comes_119 (by decide) ?_
                refine lv_iadd hx hb dX6_comes_120 ?_
                refine lv_topi (fun x_13 ex_13 => ?_)
                obtain rfl : x_13 = nI (b - d) := by
                  rw [ex_13]
                  rw [nI_add]
                  congr 1
                  omega
                have hi_14 : vp_in (nI ((W0 ++ kst L d X_ Y_ n).length)) 80 := vp_in_nI (by omega) (by omega)
                refine va_iast hx hb hK hP hD hS 3 0 rfl rfl hi_14 dX6_comes_121 (fun H locs hP hD hS => ?_)
                rw [nI_clamp (by omega)] at hP hD
                have hP : va_P X.1 vwCl [(m, .inr (6, [.int (nI bl), .int (nI bk), .int (nI b), .int (nI sp), .ref mn, .ref xr, .ref yr, .ref vr, .ref cr, .ref wr, .int (nI nc), .int f_of, .int f_ar, .ref wl, .ref wc, .int (nI ((W0 ++ kst L d X_ Y_ n).length)), .int (nI (b - (d + 1))), .int (nI (rk Z (cdR b (d + 1, X_, Y_)))), .int (nI (rk Z (cdR b (d + 1, X_, Y_) + 4 ^ (d + 1)))), .long (lN (cdR b (d + 1, X_, Y_))), .ref rx, .ref ry, .ref rv, .ref fr, .int f_rs])), (mn, .inl (X.2.1, 2, .inl mf)), (cr, .inl (X.2.2, 6600, .inr (.inl cf))), (wl, .inl (X.2.1, 80, .inl (upd lf1 ((W0 ++ kst L d X_ Y_ n).length) (nI (b - d))))), (wc, .inl (X.2.2, 80, .inr (.inl kf1)))] H := hP
                have hD : va_D A_ [(m, .inr (6, [.int (nI bl), .int (nI bk), .int (nI b), .int (nI sp), .ref mn, .ref xr, .ref yr, .ref vr, .ref cr, .ref wr, .int (nI nc), .int f_of, .int f_ar, .ref wl, .ref wc, .int (nI ((W0 ++ kst L d X_ Y_ n).length)), .int (nI (b - (d + 1))), .int (nI (rk Z (cdR b (d + 1, X_, Y_)))), .int (nI (rk Z (cdR b (d + 1, X_, Y_) + 4 ^ (d + 1)))), .long (lN (cdR b (d + 1, X_, Y_))), .ref rx, .ref ry, .ref rv, .ref fr, .int f_rs])), (mn, .inl (X.2.1, 2, .inl mf)), (cr, .inl (X.2.2, 6600, .inr (.inl cf))), (wl, .inl (X.2.1, 80, .inl (upd lf1 ((W0 ++ kst L d X_ Y_ n).length) (nI (b - d))))), (wc, .inl (X.2.2, 80, .inr (.inl kf1)))] := hD
                refine lv_aload_n hx hb dX6_comes_122 rfl (lv_at hl 0 rfl) ?_
                refine va_get (D := X.1) (ci := 6) (v := .ref wc) (C := RX6) (T := TX6) (N := 25) hx hb hts hin6 hown hK hP 0 rfl rfl 14 (by decide) lk36 (fun _ h9 => h9) rfl dX6_comes_123 ?_
                refine lv_aload_n hx hb dX6_comes_126 rfl (lv_at hl 0 rfl) ?_
                refine va_get (D := X.1) (ci := 6) (v := .int (nI ((W0 ++ kst L d X_ Y_ n).length))) (C := RX6) (T := TX6) (N := 25) hx hb hts hin6 hown hK hP 0 rfl rfl 15 (by decide) lk74 (fun _ h9 => h9) rfl dX6_comes_127 ?_
                refine lv_aload_n hx hb dX6_comes_130 rfl (lv_at hl 0 rfl) ?_
                refine va_get (D := X.1) (ci := 6) (v := .long (lN (cdR b (d + 1, X_, Y_)))) (C := RX6) (T := TX6) (N := 25) hx hb hts hin6 hown hK hP 0 rfl rfl 19 (by decide) lk77 (fun _ h9 => h9) rfl dX6_comes_131 ?_
                refine lv_iload_n hx hb dX6_comes_134 rfl (lv_at hl 2 rfl) ?_
                refine lv_i2l (v := lN (3 - n)) hx hb dX6_comes_135 (nI_l (by omega)) ?_
                refine lv_iconst (v := nI 2) hx hb dX6_comes_136 (by decide) ?_
                refine lv_aload_n hx hb dX6_comes_137 rfl (lv_at hl 0 rfl) ?_
                refine va_get (D := X.1) (ci := 6) (v := .int (nI b)) (C := RX6) (T := TX6) (N := 25) hx hb hts hin6 hown hK hP 0 rfl rfl 2 (by decide) lk57 (fun _ h9 => h9) rfl dX6_comes_138 ?_
                refine lv_aload_n hx hb dX6_comes_141 rfl (lv_at hl 0 rfl) ?_
                refine va_get (D := X.1) (ci := 6) (v := .int (nI (b - (d + 1)))) (C := RX6) (T := TX6) (N := 25) hx hb hts hin6 hown hK hP 0 rfl rfl 16 (by decide) lk81 (fun _ h9 => h9) rfl dX6_comes_142 ?_
                refine lv_isub hx hb dX6_comes_145 ?_
                refine lv_topi (fun x_15 ex_15 => ?_)
                obtain rfl : x_15 = nI (d + 1) := by
                  rw [ex_15]
                  rw [pk_sub (by omega)]
                  congr 1
                  omega
                refine lv_iconst (v := nI 1) hx hb dX6_comes_146 (by decide) ?_
                refine lv_isub hx hb dX6_comes_147 ?_
                refine lv_topi (fun x_16 ex_16 => ?_)
                obtain rfl : x_16 = nI d := by
                  rw [ex_16]
                  rw [pk_sub (by omega)]
                  congr 1
                refine lv_imul hx hb dX6_comes_148 ?_
                refine lv_topi (fun x_17 ex_17 => ?_)
                obtain rfl : x_17 = nI (2 * d) := by
                  rw [ex_17]
                  exact pk_mul _ _
                refine lv_lshl (v := (lN (3 - n)) <<< ((nI (2 * d)).toInt64 &&& 63)) hx hb dX6_comes_149 rfl ?_
                refine lv_topl (fun x_18 ex_18 => ?_)
                obtain rfl : x_18 = lN ((3 - n) * 4 ^ d) := by
                  rw [ex_18]
                  rw [wb_shl _ (by omega), p4]
                refine lv_ladd hx hb dX6_comes_150 ?_
                refine lv_topl (fun x_19 ex_19 => ?_)
                obtain rfl : x_19 = lN (cdR b (chR d X_ Y_ (3 - n))) := by
                  rw [ex_19]
                  rw [lN_add, ← ch_cd hd (by omega)]
                have hi_20 : vp_in (nI ((W0 ++ kst L d X_ Y_ n).length)) 80 := vp_in_nI (by omega) (by omega)
                refine va_last hx hb hK hP hD hS 4 1 rfl rfl hi_20 dX6_comes_151 (fun H locs hP hD hS => ?_)
                rw [nI_clamp (by omega)] at hP hD
                have hP : va_P X.1 vwCl [(m, .inr (6, [.int (nI bl), .int (nI bk), .int (nI b), .int (nI sp), .ref mn, .ref xr, .ref yr, .ref vr, .ref cr, .ref wr, .int (nI nc), .int f_of, .int f_ar, .ref wl, .ref wc, .int (nI ((W0 ++ kst L d X_ Y_ n).length)), .int (nI (b - (d + 1))), .int (nI (rk Z (cdR b (d + 1, X_, Y_)))), .int (nI (rk Z (cdR b (d + 1, X_, Y_) + 4 ^ (d + 1)))), .long (lN (cdR b (d + 1, X_, Y_))), .ref rx, .ref ry, .ref rv, .ref fr, .int f_rs])), (mn, .inl (X.2.1, 2, .inl mf)), (cr, .inl (X.2.2, 6600, .inr (.inl cf))), (wl, .inl (X.2.1, 80, .inl (upd lf1 ((W0 ++ kst L d X_ Y_ n).length) (nI (b - d))))), (wc, .inl (X.2.2, 80, .inr (.inl (vp_updL kf1 ((W0 ++ kst L d X_ Y_ n).length) (lN (cdR b (chR d X_ Y_ (3 - n))))))))] H := hP
                have hD : va_D A_ [(m, .inr (6, [.int (nI bl), .int (nI bk), .int (nI b), .int (nI sp), .ref mn, .ref xr, .ref yr, .ref vr, .ref cr, .ref wr, .int (nI nc), .int f_of, .int f_ar, .ref wl, .ref wc, .int (nI ((W0 ++ kst L d X_ Y_ n).length)), .int (nI (b - (d + 1))), .int (nI (rk Z (cdR b (d + 1, X_, Y_)))), .int (nI (rk Z (cdR b (d + 1, X_, Y_) + 4 ^ (d + 1)))), .long (lN (cdR b (d + 1, X_, Y_))), .ref rx, .ref ry, .ref rv, .ref fr, .int f_rs])), (mn, .inl (X.2.1, 2, .inl mf)), (cr, .inl (X.2.2, 6600, .inr (.inl cf))), (wl, .inl (X.2.1, 80, .inl (upd lf1 ((W0 ++ kst L d X_ Y_ n).length) (nI (b - d))))), (wc, .inl (X.2.2, 80, .inr (.inl (vp_updL kf1 ((W0 ++ kst L d X_ Y_ n).length) (lN (cdR b (chR d X_ Y_ (3 - n))))))))] := hD
                refine lv_aload_n hx hb dX6_comes_152 rfl (lv_at hl 0 rfl) ?_
                refine lv_aload_n hx hb dX6_comes_153 rfl (lv_at hl 0 rfl) ?_
                refine va_get (D := X.1) (ci := 6) (v := .int (nI ((W0 ++ kst L d X_ Y_ n).length))) (C := RX6) (T := TX6) (N := 25) hx hb hts hin6 hown hK hP 0 rfl rfl 15 (by decide) lk74 (fun _ h9 => h9) rfl dX6_comes_154 ?_
                refine lv_iconst (v := nI 1) hx hb dX6_comes_157 (by decide) ?_
                refine lv_iadd hx hb dX6_comes_158 ?_
                refine lv_topi (fun x_21 ex_21 => ?_)
                obtain rfl : x_21 = nI (((W0 ++ kst L d X_ Y_ n).length) + 1) := by
                  rw [ex_21]
                  exact nI_add _ _
                refine va_put (D := X.1) (ci := 6) (v := .int (nI (((W0 ++ kst L d X_ Y_ n).length) + 1))) (ty := .int) (C := RX6) (T := TX6) (N := 25) hx hb hts hin6 tyX6 tyX6_ok nmX6 hown hK hP hD hS 0 rfl rfl 15 (by decide) lk74 (fun _ h9 => h9) rfl (by decide +kernel) rfl rfl (Nat.le_of_ble_eq_true rfl) dX6_comes_159 (fun H locs hP hD hS => ?_)
                have hP : va_P X.1 vwCl [(m, .inr (6, [.int (nI bl), .int (nI bk), .int (nI b), .int (nI sp), .ref mn, .ref xr, .ref yr, .ref vr, .ref cr, .ref wr, .int (nI nc), .int f_of, .int f_ar, .ref wl, .ref wc, .int (nI (((W0 ++ kst L d X_ Y_ n).length) + 1)), .int (nI (b - (d + 1))), .int (nI (rk Z (cdR b (d + 1, X_, Y_)))), .int (nI (rk Z (cdR b (d + 1, X_, Y_) + 4 ^ (d + 1)))), .long (lN (cdR b (d + 1, X_, Y_))), .ref rx, .ref ry, .ref rv, .ref fr, .int f_rs])), (mn, .inl (X.2.1, 2, .inl mf)), (cr, .inl (X.2.2, 6600, .inr (.inl cf))), (wl, .inl (X.2.1, 80, .inl (upd lf1 ((W0 ++ kst L d X_ Y_ n).length) (nI (b - d))))), (wc, .inl (X.2.2, 80, .inr (.inl (vp_updL kf1 ((W0 ++ kst L d X_ Y_ n).length) (lN (cdR b (chR d X_ Y_ (3 - n))))))))] H := hP
                have hD : va_D A_ [(m, .inr (6, [.int (nI bl), .int (nI bk), .int (nI b), .int (nI sp), .ref mn, .ref xr, .ref yr, .ref vr, .ref cr, .ref wr, .int (nI nc), .int f_of, .int f_ar, .ref wl, .ref wc, .int (nI (((W0 ++ kst L d X_ Y_ n).length) + 1)), .int (nI (b - (d + 1))), .int (nI (rk Z (cdR b (d + 1, X_, Y_)))), .int (nI (rk Z (cdR b (d + 1, X_, Y_) + 4 ^ (d + 1)))), .long (lN (cdR b (d + 1, X_, Y_))), .ref rx, .ref ry, .ref rv, .ref fr, .int f_rs])), (mn, .inl (X.2.1, 2, .inl mf)), (cr, .inl (X.2.2, 6600, .inr (.inl cf))), (wl, .inl (X.2.1, 80, .inl (upd lf1 ((W0 ++ kst L d X_ Y_ n).length) (nI (b - d))))), (wc, .inl (X.2.2, 80, .inr (.inl (vp_updL kf1 ((W0 ++ kst L d X_ Y_ n).length) (lN (cdR b (chR d X_ Y_ (3 - n))))))))] := hD
                refine lv_iinc (v := im (4 - (n + 1))) (lv' := [(2, .int (im (4 - (n + 1)))), (0, .ref m), (1, .int (nI s))]) hx hb dX6_comes_162 hl (k := 2) rfl (by show nI (3 - n) + Int32.ofInt (-1) = nI (4 - (n + 1)) - nI 1; rw [show Int32.ofInt (-1) = -nI 1 from by decide, ← Int32.sub_eq_add_neg, show 4 - (n + 1) = 3 - n by omega]) (by decide) rfl (fun ls hl => ?_)
                refine lv_goto (tgt := 91) hx hb dX6_comes_165 (by decide) ?_
                rw [show (W0 ++ kst L d X_ Y_ n).length + 1 = (W0 ++ kst L d X_ Y_ (n + 1)).length from by rw [hk1, List.length_append (as := W0 ++ kst L d X_ Y_ n)]; rfl] at hP hD
                exact ih91 (n + 1) (upd lf1 (W0 ++ kst L d X_ Y_ n).length (nI (b - d))) (vp_updL kf1 (W0 ++ kst L d X_ Y_ n).length (lN (cdR b (chR d X_ Y_ (3 - n))))) (by omega) (by rw [hk1]; exact wOk_push h1 (ch_ok hrg (by omega)) hwl) (by omega) _ _ hP hD hS ls (lv_sub hl [1, 2, 0] rfl)
              · change nI ((flt L d (2 * X_ + (3 - n) % 2) (2 * Y_ + (3 - n) / 2)).length) = nI 0 at c_101
                replace c_101 : ((flt L d (2 * X_ + (3 - n) % 2) (2 * Y_ + (3 - n) / 2)).length) = 0 := (nI_eq (by omega) (by omega)).mp c_101
                refine lv_goto (tgt := 162) hx hb dX6_comes_104 (by decide) ?_
                refine lv_iinc (v := im (4 - (n + 1))) (lv' := [(2, .int (im (4 - (n + 1)))), (0, .ref m), (1, .int (nI s))]) hx hb dX6_comes_162 hl (k := 2) rfl (by show nI (3 - n) + Int32.ofInt (-1) = nI (4 - (n + 1)) - nI 1; rw [show Int32.ofInt (-1) = -nI 1 from by decide, ← Int32.sub_eq_add_neg, show 4 - (n + 1) = 3 - n by omega]) (by decide) rfl (fun ls hl => ?_)
                refine lv_goto (tgt := 91) hx hb dX6_comes_165 (by decide) ?_
                have hk0 : kst L d X_ Y_ (n + 1) = kst L d X_ Y_ n := by
                  show kst L d X_ Y_ n ++ (if _ then _ else _) = _
                  rw [if_pos c_101, List.append_nil]
                rw [← hk0] at hP hD
                exact ih91 (n + 1) lf1 kf1 (by omega) (by rw [hk0]; exact h1) (by omega) _ _ hP hD hS ls (lv_sub hl [1, 2, 0] rfl)
      have hP : va_P X.1 vwCl [(m, .inr (6, [.int (nI bl), .int (nI bk), .int (nI b), .int (nI sp), .ref mn, .ref xr, .ref yr, .ref vr, .ref cr, .ref wr, .int (nI nc), .int f_of, .int f_ar, .ref wl, .ref wc, .int (nI ((W0 ++ kst L d X_ Y_ 0).length)), .int (nI (b - (d + 1))), .int (nI (rk Z (cdR b (d + 1, X_, Y_)))), .int (nI (rk Z (cdR b (d + 1, X_, Y_) + 4 ^ (d + 1)))), .long (lN (cdR b (d + 1, X_, Y_))), .ref rx, .ref ry, .ref rv, .ref fr, .int f_rs])), (mn, .inl (X.2.1, 2, .inl mf)), (cr, .inl (X.2.2, 6600, .inr (.inl cf))), (wl, .inl (X.2.1, 80, .inl lf)), (wc, .inl (X.2.2, 80, .inr (.inl kf)))] H := by
        have e9 : (W0 ++ kst L d X_ Y_ 0).length = W0.length := by simp [kst]
        rw [e9]
        exact hP
      have hD : va_D A_ [(m, .inr (6, [.int (nI bl), .int (nI bk), .int (nI b), .int (nI sp), .ref mn, .ref xr, .ref yr, .ref vr, .ref cr, .ref wr, .int (nI nc), .int f_of, .int f_ar, .ref wl, .ref wc, .int (nI ((W0 ++ kst L d X_ Y_ 0).length)), .int (nI (b - (d + 1))), .int (nI (rk Z (cdR b (d + 1, X_, Y_)))), .int (nI (rk Z (cdR b (d + 1, X_, Y_) + 4 ^ (d + 1)))), .long (lN (cdR b (d + 1, X_, Y_))), .ref rx, .ref ry, .ref rv, .ref fr, .int f_rs])), (mn, .inl (X.2.1, 2, .inl mf)), (cr, .inl (X.2.2, 6600, .inr (.inl cf))), (wl, .inl (X.2.1, 80, .inl lf)), (wc, .inl (X.2.2, 80, .inr (.inl kf)))] := by
        have e9 : (W0 ++ kst L d X_ Y_ 0).length = W0.length := by simp [kst]
        rw [e9]
        exact hD
      exact loop_91 _ 0 lf kf (by omega) (by simpa [kst] using wOk_pop hW) (Nat.lt_succ_self _) _ _ hP hD hS ls (lv_sub hl [1, 2, 0] rfl)
    · replace c_84 : ¬ bk < ((flt L (d + 1) X_ Y_).length) := fun h9 => c_84 ((nI_ltI (by omega) (by omega)).mpr h9)
      refine lv_iconst (v := nI 1) hx hb dX6_comes_87 (by decide) ?_
      refine wM hQ ?_
      exact rtZ (lf, kf, W0) hx hb hr hlocks (by decide) hP hS (⟨rfl, wOk_pop hW, by show rem bk L W0 = _; rw [tr_leaf (show (flt L (d + 1) X_ Y_).length ≤ bk by omega)]; rfl⟩) dX6_comes_88
  · change nI (W0.length + 1) = nI 0 at c_4
    replace c_4 : (W0.length + 1) = 0 := (nI_eq (by omega) (by omega)).mp c_4
    omega
