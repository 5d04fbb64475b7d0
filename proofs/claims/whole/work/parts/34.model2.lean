/-! PointStoreModel: puts, takes, becomes: contracts, laid by program (wip/gen/spec_m2.py) -/
set_option maxHeartbeats 4000000 in
set_option maxRecDepth 100000 in
theorem c_X6_puts (l : Launch) (X : kX) (m bl bk b sp mn xr yr vr cr wr nc wl wc rx ry rv fr : Nat) (f_of f_ar f_wt f_lv f_fi f_en f_rs : Int32) (f_cd : Int64) (k x y v : Nat) (mf xf yf vf wf : Nat → Int32) (cf : Nat → Int64) (P ZP Qm ZQm : PL) (h0 : mSt b mf xf yf vf wf cf 0 P ZP) (h1 : mSt b mf xf yf vf wf cf 1 Qm ZQm) (hk : k = rk P (x * 32768 + y)) (hno : lkp P (x * 32768 + y) = none) (hlt : P.length < 512) (hx0 : x < 2 ^ b) (hy0 : y < 2 ^ b) (hb1 : b ≤ 15) (hv0 : v < 2 ^ 31) : CWv l X yX6_puts wsX6_puts 1 [.ref m, .int (nI k), .int (nI x), .int (nI y), .int (nI v)] [(m, .inr (6, [.int (nI bl), .int (nI bk), .int (nI b), .int (nI sp), .ref mn, .ref xr, .ref yr, .ref vr, .ref cr, .ref wr, .int (nI nc), .int f_of, .int f_ar, .ref wl, .ref wc, .int f_wt, .int f_lv, .int f_fi, .int f_en, .long f_cd, .ref rx, .ref ry, .ref rv, .ref fr, .int f_rs])), (mn, .inl (X.2.1, 2, .inl mf)), (xr, .inl (X.2.1, 6600, .inl xf)), (yr, .inl (X.2.1, 6600, .inl yf)), (vr, .inl (X.2.1, 6600, .inl vf)), (cr, .inl (X.2.2, 6600, .inr (.inl cf))), (wr, .inl (X.2.1, 6600, .inl wf))] (S := (Nat → Int32) × (Nat → Int32) × (Nat → Int32) × (Nat → Int32) × (Nat → Int32) × (Nat → Int64)) (fun u => mSt b u.1 u.2.1 u.2.2.1 u.2.2.2.1 u.2.2.2.2.1 u.2.2.2.2.2 0 (pput P (x * 32768 + y) v) (pput ZP (zk b (x * 32768 + y)) v) ∧ mSt b u.1 u.2.1 u.2.2.1 u.2.2.2.1 u.2.2.2.2.1 u.2.2.2.2.2 1 Qm ZQm) (fun ⟨mf2, xf2, yf2, vf2, wf2, cf2⟩ => [(m, .inr (6, [.int (nI bl), .int (nI bk), .int (nI b), .int (nI sp), .ref mn, .ref xr, .ref yr, .ref vr, .ref cr, .ref wr, .int (nI nc), .int f_of, .int f_ar, .ref wl, .ref wc, .int f_wt, .int f_lv, .int f_fi, .int f_en, .long f_cd, .ref rx, .ref ry, .ref rv, .ref fr, .int f_rs])), (mn, .inl (X.2.1, 2, .inl mf2)), (xr, .inl (X.2.1, 6600, .inl xf2)), (yr, .inl (X.2.1, 6600, .inl yf2)), (vr, .inl (X.2.1, 6600, .inl vf2)), (cr, .inl (X.2.2, 6600, .inr (.inl cf2))), (wr, .inl (X.2.1, 6600, .inl wf2))]) := by
  refine Met.ofW (cc := cX6_puts) (maxL := 9) (ret := none) (by decide) rfl ?_
  intro pz ez sz mz args below meth cz s₁ Bz hml hv
  obtain ⟨rfl, hP, hK, hD0, hN⟩ := hv
  have hx := Bz.exec
  have hb := Bz.bytes
  have hr := Bz.returns
  have hts := atoms_spec (ws := wsX6_puts) Bz.pre
  have hown : sz.vm.findClass RX6 = some mz.cls := findClass_of_methodNamed Bz.named
  have hlocks := Bz.notSynchronized
  have hD := inW.self hD0
  have hS : va_S (inW [(m, .inr (6, [.int (nI bl), .int (nI bk), .int (nI b), .int (nI sp), .ref mn, .ref xr, .ref yr, .ref vr, .ref cr, .ref wr, .int (nI nc), .int f_of, .int f_ar, .ref wl, .ref wc, .int f_wt, .int f_lv, .int f_fi, .int f_en, .long f_cd, .ref rx, .ref ry, .ref rv, .ref fr, .int f_rs])), (mn, .inl (X.2.1, 2, .inl mf)), (xr, .inl (X.2.1, 6600, .inl xf)), (yr, .inl (X.2.1, 6600, .inl yf)), (vr, .inl (X.2.1, 6600, .inl vf)), (cr, .inl (X.2.2, 6600, .inr (.inl cf))), (wr, .inl (X.2.1, 6600, .inl wf))]) sz.heap sz.heap [] := va_S.rf
  have hl := lv_entry ([.ref m, .int (nI k), .int (nI x), .int (nI y), .int (nI v)]) (n := 9) (Nat.le_of_ble_eq_true rfl)
  rw [lg_entry_eq]
  generalize (lg_sl ([.ref m, .int (nI k), .int (nI x), .int (nI y), .int (nI v)]) ++ List.replicate (9 - (lg_sl ([.ref m, .int (nI k), .int (nI x), .int (nI y), .int (nI v)])).length) Slot.unset).toArray = ls at hl ⊢
  have hl : lv_has ls 9 [(0, .ref m), (1, .int (nI k)), (2, .int (nI x)), (3, .int (nI y)), (4, .int (nI v))] := hl
  have lk7 := hts (.fieldLink RX6 7 "PointStoreModel" "many" "[I") (by decide +kernel)
  have lk13 := hts (.fieldLink RX6 13 "PointStoreModel" "xs" "[I") (by decide +kernel)
  have lk16 := hts (.fieldLink RX6 16 "PointStoreModel" "ys" "[I") (by decide +kernel)
  have lk19 := hts (.fieldLink RX6 19 "PointStoreModel" "values" "[I") (by decide +kernel)
  have lk22 := hts (.fieldLink RX6 22 "PointStoreModel" "codes" "[J") (by decide +kernel)
  have lk26 := hts (.fieldLink RX6 26 "PointStoreModel" "codeValues" "[I") (by decide +kernel)
  have hin6 : ∀ w ∈ u_ws RX6 TX6 25, w ∈ wsX6_puts := by decide +kernel
  refine wQ (fun Q hQ => ?_)
  generalize hAe : inW [(m, .inr (6, [.int (nI bl), .int (nI bk), .int (nI b), .int (nI sp), .ref mn, .ref xr, .ref yr, .ref vr, .ref cr, .ref wr, .int (nI nc), .int f_of, .int f_ar, .ref wl, .ref wc, .int f_wt, .int f_lv, .int f_fi, .int f_en, .long f_cd, .ref rx, .ref ry, .ref rv, .ref fr, .int f_rs])), (mn, .inl (X.2.1, 2, .inl mf)), (xr, .inl (X.2.1, 6600, .inl xf)), (yr, .inl (X.2.1, 6600, .inl yf)), (vr, .inl (X.2.1, 6600, .inl vf)), (cr, .inl (X.2.2, 6600, .inr (.inl cf))), (wr, .inl (X.2.1, 6600, .inl wf))] = A_ at hD hS hQ
  subst hk
  have hpb : 2 ^ b ≤ 32768 := Nat.pow_le_pow_right (n := 2) (by decide) hb1
  have hky : (x * 32768 + y) / 32768 = x ∧ (x * 32768 + y) % 32768 = y := by omega
  have hzk : zk b (x * 32768 + y) = zc b x y := by unfold zk; rw [hky.1, hky.2]
  have hzl := zk_lt b (x * 32768 + y)
  have h4 : 4 ^ b ≤ 4 ^ 15 := Nat.pow_le_pow_right (by decide) hb1
  have hrl := rk_le P (x * 32768 + y)
  have hrz := rk_le ZP (zk b (x * 32768 + y))
  have hzn := h0.Z.len
  refine lv_aload_n hx hb dX6_puts_0 rfl (lv_at hl 0 rfl) ?_
  refine lv_iload_n hx hb dX6_puts_1 rfl (lv_at hl 2 rfl) ?_
  refine lv_iload_n hx hb dX6_puts_2 rfl (lv_at hl 3 rfl) ?_
  refine ckVRl (As := [.int (nI x), .int (nI y)]) (rest := []) 0 [0] (c_X6_codeOf l X m bl bk b sp mn xr yr vr cr wr nc wl wc rx ry rv fr f_of f_ar f_wt f_lv f_fi f_en f_rs f_cd x y hb1 (by omega) (by omega)) ⟨hx, hb, hml, hown, hts⟩ (cwV 2 hts gX6_puts_X6_codeOf rfl rfl rfl (by decide +kernel) ⟨Nat.le_of_ble_eq_true rfl, Nat.le_of_ble_eq_true rfl⟩) hK hN hP hD (by decide) rfl (ci := 6) rfl rfl rfl hl.1 rfl (Nat.le_of_ble_eq_true rfl) dX6_puts_3 ⟨Nat.zero_le _, Nat.zero_le _⟩ (fun r_1 hc_3 => ?_)
  obtain rfl : r_1 = lN (zk b (x * 32768 + y)) := hc_3.trans (by rw [hzk])
  refine lv_lstore (lv' := [(5, .long (lN (zk b (x * 32768 + y)))), (0, .ref m), (1, .int (nI (rk P (x * 32768 + y)))), (2, .int (nI x)), (3, .int (nI y)), (4, .int (nI v))]) hx hb dX6_puts_6 hl (by decide) rfl (fun ls hl => ?_)
  refine lv_aload_n hx hb dX6_puts_8 rfl (lv_at hl 1 rfl) ?_
  refine lv_iconst (v := nI 0) hx hb dX6_puts_9 (by decide) ?_
  refine lv_lload hx hb dX6_puts_10 (lv_at hl 0 rfl) ?_
  refine ckVRi (As := [.int (nI 0), .long (lN (zk b (x * 32768 + y)))]) (rest := []) 0 [0, 1, 5] (c_X6_below l X m bl bk b sp mn xr yr vr cr wr nc wl wc rx ry rv fr f_of f_ar f_wt f_lv f_fi f_en f_rs f_cd 0 (zk b (x * 32768 + y)) mf cf ZP (by decide) (by omega) h0.mz h0.C h0.Z.1 (by rw [h0.Z.len]; exact h0.L.1) (h0.Z.b hb1)) ⟨hx, hb, hml, hown, hts⟩ (cwV 2 hts gX6_puts_X6_below rfl rfl rfl (by decide +kernel) ⟨Nat.le_of_ble_eq_true rfl, Nat.le_of_ble_eq_true rfl⟩) hK hN hP hD (by decide) rfl (ci := 6) rfl rfl rfl hl.1 rfl (Nat.le_of_ble_eq_true rfl) dX6_puts_12 ⟨Nat.zero_le _, Nat.zero_le _⟩ (fun r_2 hc_12 => ?_)
  subst hc_12
  refine lv_istore (lv' := [(7, .int (nI (rk ZP (zk b (x * 32768 + y))))), (5, .long (lN (zk b (x * 32768 + y)))), (0, .ref m), (1, .int (nI (rk P (x * 32768 + y)))), (2, .int (nI x)), (3, .int (nI y)), (4, .int (nI v))]) hx hb dX6_puts_15 hl (by decide) rfl (fun ls hl => ?_)
  refine lv_aload_n hx hb dX6_puts_17 rfl (lv_at hl 2 rfl) ?_
  refine va_get (D := X.1) (ci := 6) (v := .ref mn) (C := RX6) (T := TX6) (N := 25) hx hb hts hin6 hown hK hP 0 rfl rfl 4 (by decide) lk7 (fun _ h9 => h9) rfl dX6_puts_18 ?_
  refine lv_iconst (v := nI 0) hx hb dX6_puts_21 (by decide) ?_
  have hi_3 : vp_in (nI 0) 2 := vp_in_nI (by omega) (by omega)
  refine va_iald hx hb hK hP 1 0 rfl rfl hi_3 dX6_puts_22 ?_
  refine lv_topi (fun x_4 ex_4 => ?_)
  obtain rfl : x_4 = mf 0 := by
    rw [ex_4]
    rw [nI_clamp (by omega)]
  refine lv_topi (fun x_5 ex_5 => ?_)
  obtain rfl : x_5 = nI P.length := by
    rw [ex_5]
    exact h0.m
  refine lv_istore (lv' := [(8, .int (nI P.length)), (7, .int (nI (rk ZP (zk b (x * 32768 + y))))), (5, .long (lN (zk b (x * 32768 + y)))), (0, .ref m), (1, .int (nI (rk P (x * 32768 + y)))), (2, .int (nI x)), (3, .int (nI y)), (4, .int (nI v))]) hx hb dX6_puts_23 hl (by decide) rfl (fun ls hl => ?_)
  have loop_25 : ∀ (fu : Nat) (i : Nat), (rk P (x * 32768 + y) ≤ i) → (i ≤ P.length) → i < fu → ∀ (H : Heap) (locs : List Loc), va_P X.1 vwCl [(m, .inr (6, [.int (nI bl), .int (nI bk), .int (nI b), .int (nI sp), .ref mn, .ref xr, .ref yr, .ref vr, .ref cr, .ref wr, .int (nI nc), .int f_of, .int f_ar, .ref wl, .ref wc, .int f_wt, .int f_lv, .int f_fi, .int f_en, .long f_cd, .ref rx, .ref ry, .ref rv, .ref fr, .int f_rs])), (mn, .inl (X.2.1, 2, .inl mf)), (xr, .inl (X.2.1, 6600, .inl (shU xf i P.length))), (yr, .inl (X.2.1, 6600, .inl (shU yf i P.length))), (vr, .inl (X.2.1, 6600, .inl (shU vf i P.length))), (cr, .inl (X.2.2, 6600, .inr (.inl cf))), (wr, .inl (X.2.1, 6600, .inl wf))] H → va_D A_ [(m, .inr (6, [.int (nI bl), .int (nI bk), .int (nI b), .int (nI sp), .ref mn, .ref xr, .ref yr, .ref vr, .ref cr, .ref wr, .int (nI nc), .int f_of, .int f_ar, .ref wl, .ref wc, .int f_wt, .int f_lv, .int f_fi, .int f_en, .long f_cd, .ref rx, .ref ry, .ref rv, .ref fr, .int f_rs])), (mn, .inl (X.2.1, 2, .inl mf)), (xr, .inl (X.2.1, 6600, .inl (shU xf i P.length))), (yr, .inl (X.2.1, 6600, .inl (shU yf i P.length))), (vr, .inl (X.2.1, 6600, .inl (shU vf i P.length))), (cr, .inl (X.2.2, 6600, .inr (.inl cf))), (wr, .inl (X.2.1, 6600, .inl wf))] → va_S A_ sz.heap H locs → ∀ (ls : Array Slot), lv_has ls 9 [(0, .ref m), (1, .int (nI (rk P (x * 32768 + y)))), (2, .int (nI x)), (3, .int (nI y)), (4, .int (nI v)), (5, .long (lN (zk b (x * 32768 + y)))), (7, .int (nI (rk ZP (zk b (x * 32768 + y))))), (8, .int (nI i))] → W pz l ez (headSpec wsX6_puts (rmk 1)).room sz mz ([.ref m, .int (nI (rk P (x * 32768 + y))), .int (nI x), .int (nI y), .int (nI v)].toArray) below meth cz H locs 0 0 Q (F0 mz 25 ls []) := by
    intro fu
    induction fu with
    | zero => intro i hi1 hi2 hfu; exact absurd hfu (Nat.not_lt_zero _)
    | succ fu ih25 =>
      intro i hi1 hi2 hfu H locs hP hD hS ls hl
      refine lv_iload hx hb dX6_puts_25 (lv_at hl 7 rfl) ?_
      refine lv_iload_n hx hb dX6_puts_27 rfl (lv_at hl 1 rfl) ?_
      refine lv_icmp_le (tgt := 85) hx hb dX6_puts_28 (by decide) (fun c_28 => ?_) (fun c_28 => ?_)
      · replace c_28 : i ≤ (rk P (x * 32768 + y)) := (nI_leI (by omega) (by omega)).mp c_28
        obtain rfl : i = rk P (x * 32768 + y) := by omega
        refine lv_aload_n hx hb dX6_puts_85 rfl (lv_at hl 0 rfl) ?_
        refine va_get (D := X.1) (ci := 6) (v := .ref xr) (C := RX6) (T := TX6) (N := 25) hx hb hts hin6 hown hK hP 0 rfl rfl 5 (by decide) lk13 (fun _ h9 => h9) rfl dX6_puts_86 ?_
        refine lv_iload_n hx hb dX6_puts_89 rfl (lv_at hl 1 rfl) ?_
        refine lv_iload_n hx hb dX6_puts_90 rfl (lv_at hl 2 rfl) ?_
        have hi_6 : vp_in (nI (rk P (x * 32768 + y))) 6600 := vp_in_nI (by omega) (by omega)
        refine va_iast hx hb hK hP hD hS 2 0 rfl rfl hi_6 dX6_puts_91 (fun H locs hP hD hS => ?_)
        rw [nI_clamp (by omega)] at hP hD
        have hP : va_P X.1 vwCl [(m, .inr (6, [.int (nI bl), .int (nI bk), .int (nI b), .int (nI sp), .ref mn, .ref xr, .ref yr, .ref vr, .ref cr, .ref wr, .int (nI nc), .int f_of, .int f_ar, .ref wl, .ref wc, .int f_wt, .int f_lv, .int f_fi, .int f_en, .long f_cd, .ref rx, .ref ry, .ref rv, .ref fr, .int f_rs])), (mn, .inl (X.2.1, 2, .inl mf)), (xr, .inl (X.2.1, 6600, .inl (upd (shU xf (rk P (x * 32768 + y)) P.length) (rk P (x * 32768 + y)) (nI x)))), (yr, .inl (X.2.1, 6600, .inl (shU yf (rk P (x * 32768 + y)) P.length))), (vr, .inl (X.2.1, 6600, .inl (shU vf (rk P (x * 32768 + y)) P.length))), (cr, .inl (X.2.2, 6600, .inr (.inl cf))), (wr, .inl (X.2.1, 6600, .inl wf))] H := hP
        have hD : va_D A_ [(m, .inr (6, [.int (nI bl), .int (nI bk), .int (nI b), .int (nI sp), .ref mn, .ref xr, .ref yr, .ref vr, .ref cr, .ref wr, .int (nI nc), .int f_of, .int f_ar, .ref wl, .ref wc, .int f_wt, .int f_lv, .int f_fi, .int f_en, .long f_cd, .ref rx, .ref ry, .ref rv, .ref fr, .int f_rs])), (mn, .inl (X.2.1, 2, .inl mf)), (xr, .inl (X.2.1, 6600, .inl (upd (shU xf (rk P (x * 32768 + y)) P.length) (rk P (x * 32768 + y)) (nI x)))), (yr, .inl (X.2.1, 6600, .inl (shU yf (rk P (x * 32768 + y)) P.length))), (vr, .inl (X.2.1, 6600, .inl (shU vf (rk P (x * 32768 + y)) P.length))), (cr, .inl (X.2.2, 6600, .inr (.inl cf))), (wr, .inl (X.2.1, 6600, .inl wf))] := hD
        refine lv_aload_n hx hb dX6_puts_92 rfl (lv_at hl 0 rfl) ?_
        refine va_get (D := X.1) (ci := 6) (v := .ref yr) (C := RX6) (T := TX6) (N := 25) hx hb hts hin6 hown hK hP 0 rfl rfl 6 (by decide) lk16 (fun _ h9 => h9) rfl dX6_puts_93 ?_
        refine lv_iload_n hx hb dX6_puts_96 rfl (lv_at hl 1 rfl) ?_
        refine lv_iload_n hx hb dX6_puts_97 rfl (lv_at hl 3 rfl) ?_
        have hi_7 : vp_in (nI (rk P (x * 32768 + y))) 6600 := vp_in_nI (by omega) (by omega)
        refine va_iast hx hb hK hP hD hS 3 0 rfl rfl hi_7 dX6_puts_98 (fun H locs hP hD hS => ?_)
        rw [nI_clamp (by omega)] at hP hD
        have hP : va_P X.1 vwCl [(m, .inr (6, [.int (nI bl), .int (nI bk), .int (nI b), .int (nI sp), .ref mn, .ref xr, .ref yr, .ref vr, .ref cr, .ref wr, .int (nI nc), .int f_of, .int f_ar, .ref wl, .ref wc, .int f_wt, .int f_lv, .int f_fi, .int f_en, .long f_cd, .ref rx, .ref ry, .ref rv, .ref fr, .int f_rs])), (mn, .inl (X.2.1, 2, .inl mf)), (xr, .inl (X.2.1, 6600, .inl (upd (shU xf (rk P (x * 32768 + y)) P.length) (rk P (x * 32768 + y)) (nI x)))), (yr, .inl (X.2.1, 6600, .inl (upd (shU yf (rk P (x * 32768 + y)) P.length) (rk P (x * 32768 + y)) (nI y)))), (vr, .inl (X.2.1, 6600, .inl (shU vf (rk P (x * 32768 + y)) P.length))), (cr, .inl (X.2.2, 6600, .inr (.inl cf))), (wr, .inl (X.2.1, 6600, .inl wf))] H := hP
        have hD : va_D A_ [(m, .inr (6, [.int (nI bl), .int (nI bk), .int (nI b), .int (nI sp), .ref mn, .ref xr, .ref yr, .ref vr, .ref cr, .ref wr, .int (nI nc), .int f_of, .int f_ar, .ref wl, .ref wc, .int f_wt, .int f_lv, .int f_fi, .int f_en, .long f_cd, .ref rx, .ref ry, .ref rv, .ref fr, .int f_rs])), (mn, .inl (X.2.1, 2, .inl mf)), (xr, .inl (X.2.1, 6600, .inl (upd (shU xf (rk P (x * 32768 + y)) P.length) (rk P (x * 32768 + y)) (nI x)))), (yr, .inl (X.2.1, 6600, .inl (upd (shU yf (rk P (x * 32768 + y)) P.length) (rk P (x * 32768 + y)) (nI y)))), (vr, .inl (X.2.1, 6600, .inl (shU vf (rk P (x * 32768 + y)) P.length))), (cr, .inl (X.2.2, 6600, .inr (.inl cf))), (wr, .inl (X.2.1, 6600, .inl wf))] := hD
        refine lv_aload_n hx hb dX6_puts_99 rfl (lv_at hl 0 rfl) ?_
        refine va_get (D := X.1) (ci := 6) (v := .ref vr) (C := RX6) (T := TX6) (N := 25) hx hb hts hin6 hown hK hP 0 rfl rfl 7 (by decide) lk19 (fun _ h9 => h9) rfl dX6_puts_100 ?_
        refine lv_iload_n hx hb dX6_puts_103 rfl (lv_at hl 1 rfl) ?_
        refine lv_iload hx hb dX6_puts_104 (lv_at hl 4 rfl) ?_
        have hi_8 : vp_in (nI (rk P (x * 32768 + y))) 6600 := vp_in_nI (by omega) (by omega)
        refine va_iast hx hb hK hP hD hS 4 0 rfl rfl hi_8 dX6_puts_106 (fun H locs hP hD hS => ?_)
        rw [nI_clamp (by omega)] at hP hD
        have hP : va_P X.1 vwCl [(m, .inr (6, [.int (nI bl), .int (nI bk), .int (nI b), .int (nI sp), .ref mn, .ref xr, .ref yr, .ref vr, .ref cr, .ref wr, .int (nI nc), .int f_of, .int f_ar, .ref wl, .ref wc, .int f_wt, .int f_lv, .int f_fi, .int f_en, .long f_cd, .ref rx, .ref ry, .ref rv, .ref fr, .int f_rs])), (mn, .inl (X.2.1, 2, .inl mf)), (xr, .inl (X.2.1, 6600, .inl (upd (shU xf (rk P (x * 32768 + y)) P.length) (rk P (x * 32768 + y)) (nI x)))), (yr, .inl (X.2.1, 6600, .inl (upd (shU yf (rk P (x * 32768 + y)) P.length) (rk P (x * 32768 + y)) (nI y)))), (vr, .inl (X.2.1, 6600, .inl (upd (shU vf (rk P (x * 32768 + y)) P.length) (rk P (x * 32768 + y)) (nI v)))), (cr, .inl (X.2.2, 6600, .inr (.inl cf))), (wr, .inl (X.2.1, 6600, .inl wf))] H := hP
        have hD : va_D A_ [(m, .inr (6, [.int (nI bl), .int (nI bk), .int (nI b), .int (nI sp), .ref mn, .ref xr, .ref yr, .ref vr, .ref cr, .ref wr, .int (nI nc), .int f_of, .int f_ar, .ref wl, .ref wc, .int f_wt, .int f_lv, .int f_fi, .int f_en, .long f_cd, .ref rx, .ref ry, .ref rv, .ref fr, .int f_rs])), (mn, .inl (X.2.1, 2, .inl mf)), (xr, .inl (X.2.1, 6600, .inl (upd (shU xf (rk P (x * 32768 + y)) P.length) (rk P (x * 32768 + y)) (nI x)))), (yr, .inl (X.2.1, 6600, .inl (upd (shU yf (rk P (x * 32768 + y)) P.length) (rk P (x * 32768 + y)) (nI y)))), (vr, .inl (X.2.1, 6600, .inl (upd (shU vf (rk P (x * 32768 + y)) P.length) (rk P (x * 32768 + y)) (nI v)))), (cr, .inl (X.2.2, 6600, .inr (.inl cf))), (wr, .inl (X.2.1, 6600, .inl wf))] := hD
        refine lv_aload_n hx hb dX6_puts_107 rfl (lv_at hl 0 rfl) ?_
        refine va_get (D := X.1) (ci := 6) (v := .ref mn) (C := RX6) (T := TX6) (N := 25) hx hb hts hin6 hown hK hP 0 rfl rfl 4 (by decide) lk7 (fun _ h9 => h9) rfl dX6_puts_108 ?_
        refine lv_iconst (v := nI 0) hx hb dX6_puts_111 (by decide) ?_
        have hi_9 : vp_in (nI 0) 2 := vp_in_nI (by omega) (by omega)
        refine va_iald hx hb hK hP 1 0 rfl rfl hi_9 dX6_puts_112 ?_
        refine lv_topi (fun x_10 ex_10 => ?_)
        obtain rfl : x_10 = mf 0 := by
          rw [ex_10]
          rw [nI_clamp (by omega)]
        refine lv_topi (fun x_11 ex_11 => ?_)
        obtain rfl : x_11 = nI P.length := by
          rw [ex_11]
          exact h0.m
        refine lv_istore (lv' := [(8, .int (nI P.length)), (0, .ref m), (1, .int (nI (rk P (x * 32768 + y)))), (2, .int (nI x)), (3, .int (nI y)), (4, .int (nI v)), (5, .long (lN (zk b (x * 32768 + y)))), (7, .int (nI (rk ZP (zk b (x * 32768 + y)))))]) hx hb dX6_puts_113 hl (by decide) rfl (fun ls hl => ?_)
        have loop_115 : ∀ (fu : Nat) (i : Nat), (rk ZP (zk b (x * 32768 + y)) ≤ i) → (i ≤ P.length) → i < fu → ∀ (H : Heap) (locs : List Loc), va_P X.1 vwCl [(m, .inr (6, [.int (nI bl), .int (nI bk), .int (nI b), .int (nI sp), .ref mn, .ref xr, .ref yr, .ref vr, .ref cr, .ref wr, .int (nI nc), .int f_of, .int f_ar, .ref wl, .ref wc, .int f_wt, .int f_lv, .int f_fi, .int f_en, .long f_cd, .ref rx, .ref ry, .ref rv, .ref fr, .int f_rs])), (mn, .inl (X.2.1, 2, .inl mf)), (xr, .inl (X.2.1, 6600, .inl (upd (shU xf (rk P (x * 32768 + y)) P.length) (rk P (x * 32768 + y)) (nI x)))), (yr, .inl (X.2.1, 6600, .inl (upd (shU yf (rk P (x * 32768 + y)) P.length) (rk P (x * 32768 + y)) (nI y)))), (vr, .inl (X.2.1, 6600, .inl (upd (shU vf (rk P (x * 32768 + y)) P.length) (rk P (x * 32768 + y)) (nI v)))), (cr, .inl (X.2.2, 6600, .inr (.inl (shU cf i P.length)))), (wr, .inl (X.2.1, 6600, .inl (shU wf i P.length)))] H → va_D A_ [(m, .inr (6, [.int (nI bl), .int (nI bk), .int (nI b), .int (nI sp), .ref mn, .ref xr, .ref yr, .ref vr, .ref cr, .ref wr, .int (nI nc), .int f_of, .int f_ar, .ref wl, .ref wc, .int f_wt, .int f_lv, .int f_fi, .int f_en, .long f_cd, .ref rx, .ref ry, .ref rv, .ref fr, .int f_rs])), (mn, .inl (X.2.1, 2, .inl mf)), (xr, .inl (X.2.1, 6600, .inl (upd (shU xf (rk P (x * 32768 + y)) P.length) (rk P (x * 32768 + y)) (nI x)))), (yr, .inl (X.2.1, 6600, .inl (upd (shU yf (rk P (x * 32768 + y)) P.length) (rk P (x * 32768 + y)) (nI y)))), (vr, .inl (X.2.1, 6600, .inl (upd (shU vf (rk P (x * 32768 + y)) P.length) (rk P (x * 32768 + y)) (nI v)))), (cr, .inl (X.2.2, 6600, .inr (.inl (shU cf i P.length)))), (wr, .inl (X.2.1, 6600, .inl (shU wf i P.length)))] → va_S A_ sz.heap H locs → ∀ (ls : Array Slot), lv_has ls 9 [(0, .ref m), (4, .int (nI v)), (5, .long (lN (zk b (x * 32768 + y)))), (7, .int (nI (rk ZP (zk b (x * 32768 + y))))), (8, .int (nI i))] → W pz l ez (headSpec wsX6_puts (rmk 1)).room sz mz ([.ref m, .int (nI (rk P (x * 32768 + y))), .int (nI x), .int (nI y), .int (nI v)].toArray) below meth cz H locs 0 0 Q (F0 mz 115 ls []) := by
          intro fu
          induction fu with
          | zero => intro i hi1 hi2 hfu; exact absurd hfu (Nat.not_lt_zero _)
          | succ fu ih115 =>
            intro i hi1 hi2 hfu H locs hP hD hS ls hl
            refine lv_iload hx hb dX6_puts_115 (lv_at hl 4 rfl) ?_
            refine lv_iload hx hb dX6_puts_117 (lv_at hl 3 rfl) ?_
            refine lv_icmp_le (tgt := 160) hx hb dX6_puts_119 (by decide) (fun c_119 => ?_) (fun c_119 => ?_)
            · replace c_119 : i ≤ (rk ZP (zk b (x * 32768 + y))) := (nI_leI (by omega) (by omega)).mp c_119
              obtain rfl : i = rk ZP (zk b (x * 32768 + y)) := by omega
              refine lv_aload_n hx hb dX6_puts_160 rfl (lv_at hl 0 rfl) ?_
              refine va_get (D := X.1) (ci := 6) (v := .ref cr) (C := RX6) (T := TX6) (N := 25) hx hb hts hin6 hown hK hP 0 rfl rfl 8 (by decide) lk22 (fun _ h9 => h9) rfl dX6_puts_161 ?_
              refine lv_iload hx hb dX6_puts_164 (lv_at hl 3 rfl) ?_
              refine lv_lload hx hb dX6_puts_166 (lv_at hl 2 rfl) ?_
              have hi_12 : vp_in (nI (rk ZP (zk b (x * 32768 + y)))) 6600 := vp_in_nI (by omega) (by omega)
              refine va_last hx hb hK hP hD hS 5 1 rfl rfl hi_12 dX6_puts_168 (fun H locs hP hD hS => ?_)
              rw [nI_clamp (by omega)] at hP hD
              have hP : va_P X.1 vwCl [(m, .inr (6, [.int (nI bl), .int (nI bk), .int (nI b), .int (nI sp), .ref mn, .ref xr, .ref yr, .ref vr, .ref cr, .ref wr, .int (nI nc), .int f_of, .int f_ar, .ref wl, .ref wc, .int f_wt, .int f_lv, .int f_fi, .int f_en, .long f_cd, .ref rx, .ref ry, .ref rv, .ref fr, .int f_rs])), (mn, .inl (X.2.1, 2, .inl mf)), (xr, .inl (X.2.1, 6600, .inl (upd (shU xf (rk P (x * 32768 + y)) P.length) (rk P (x * 32768 + y)) (nI x)))), (yr, .inl (X.2.1, 6600, .inl (upd (shU yf (rk P (x * 32768 + y)) P.length) (rk P (x * 32768 + y)) (nI y)))), (vr, .inl (X.2.1, 6600, .inl (upd (shU vf (rk P (x * 32768 + y)) P.length) (rk P (x * 32768 + y)) (nI v)))), (cr, .inl (X.2.2, 6600, .inr (.inl (vp_updL (shU cf (rk ZP (zk b (x * 32768 + y))) P.length) (rk ZP (zk b (x * 32768 + y))) (lN (zk b (x * 32768 + y))))))), (wr, .inl (X.2.1, 6600, .inl (shU wf (rk ZP (zk b (x * 32768 + y))) P.length)))] H := hP
              have hD : va_D A_ [(m, .inr (6, [.int (nI bl), .int (nI bk), .int (nI b), .int (nI sp), .ref mn, .ref xr, .ref yr, .ref vr, .ref cr, .ref wr, .int (nI nc), .int f_of, .int f_ar, .ref wl, .ref wc, .int f_wt, .int f_lv, .int f_fi, .int f_en, .long f_cd, .ref rx, .ref ry, .ref rv, .ref fr, .int f_rs])), (mn, .inl (X.2.1, 2, .inl mf)), (xr, .inl (X.2.1, 6600, .inl (upd (shU xf (rk P (x * 32768 + y)) P.length) (rk P (x * 32768 + y)) (nI x)))), (yr, .inl (X.2.1, 6600, .inl (upd (shU yf (rk P (x * 32768 + y)) P.length) (rk P (x * 32768 + y)) (nI y)))), (vr, .inl (X.2.1, 6600, .inl (upd (shU vf (rk P (x * 32768 + y)) P.length) (rk P (x * 32768 + y)) (nI v)))), (cr, .inl (X.2.2, 6600, .inr (.inl (vp_updL (shU cf (rk ZP (zk b (x * 32768 + y))) P.length) (rk ZP (zk b (x * 32768 + y))) (lN (zk b (x * 32768 + y))))))), (wr, .inl (X.2.1, 6600, .inl (shU wf (rk ZP (zk b (x * 32768 + y))) P.length)))] := hD
              refine lv_aload_n hx hb dX6_puts_169 rfl (lv_at hl 0 rfl) ?_
              refine va_get (D := X.1) (ci := 6) (v := .ref wr) (C := RX6) (T := TX6) (N := 25) hx hb hts hin6 hown hK hP 0 rfl rfl 9 (by decide) lk26 (fun _ h9 => h9) rfl dX6_puts_170 ?_
              refine lv_iload hx hb dX6_puts_173 (lv_at hl 3 rfl) ?_
              refine lv_iload hx hb dX6_puts_175 (lv_at hl 1 rfl) ?_
              have hi_13 : vp_in (nI (rk ZP (zk b (x * 32768 + y)))) 6600 := vp_in_nI (by omega) (by omega)
              refine va_iast hx hb hK hP hD hS 6 0 rfl rfl hi_13 dX6_puts_177 (fun H locs hP hD hS => ?_)
              rw [nI_clamp (by omega)] at hP hD
              have hP : va_P X.1 vwCl [(m, .inr (6, [.int (nI bl), .int (nI bk), .int (nI b), .int (nI sp), .ref mn, .ref xr, .ref yr, .ref vr, .ref cr, .ref wr, .int (nI nc), .int f_of, .int f_ar, .ref wl, .ref wc, .int f_wt, .int f_lv, .int f_fi, .int f_en, .long f_cd, .ref rx, .ref ry, .ref rv, .ref fr, .int f_rs])), (mn, .inl (X.2.1, 2, .inl mf)), (xr, .inl (X.2.1, 6600, .inl (upd (shU xf (rk P (x * 32768 + y)) P.length) (rk P (x * 32768 + y)) (nI x)))), (yr, .inl (X.2.1, 6600, .inl (upd (shU yf (rk P (x * 32768 + y)) P.length) (rk P (x * 32768 + y)) (nI y)))), (vr, .inl (X.2.1, 6600, .inl (upd (shU vf (rk P (x * 32768 + y)) P.length) (rk P (x * 32768 + y)) (nI v)))), (cr, .inl (X.2.2, 6600, .inr (.inl (vp_updL (shU cf (rk ZP (zk b (x * 32768 + y))) P.length) (rk ZP (zk b (x * 32768 + y))) (lN (zk b (x * 32768 + y))))))), (wr, .inl (X.2.1, 6600, .inl (upd (shU wf (rk ZP (zk b (x * 32768 + y))) P.length) (rk ZP (zk b (x * 32768 + y))) (nI v))))] H := hP
              have hD : va_D A_ [(m, .inr (6, [.int (nI bl), .int (nI bk), .int (nI b), .int (nI sp), .ref mn, .ref xr, .ref yr, .ref vr, .ref cr, .ref wr, .int (nI nc), .int f_of, .int f_ar, .ref wl, .ref wc, .int f_wt, .int f_lv, .int f_fi, .int f_en, .long f_cd, .ref rx, .ref ry, .ref rv, .ref fr, .int f_rs])), (mn, .inl (X.2.1, 2, .inl mf)), (xr, .inl (X.2.1, 6600, .inl (upd (shU xf (rk P (x * 32768 + y)) P.length) (rk P (x * 32768 + y)) (nI x)))), (yr, .inl (X.2.1, 6600, .inl (upd (shU yf (rk P (x * 32768 + y)) P.length) (rk P (x * 32768 + y)) (nI y)))), (vr, .inl (X.2.1, 6600, .inl (upd (shU vf (rk P (x * 32768 + y)) P.length) (rk P (x * 32768 + y)) (nI v)))), (cr, .inl (X.2.2, 6600, .inr (.inl (vp_updL (shU cf (rk ZP (zk b (x * 32768 + y))) P.length) (rk ZP (zk b (x * 32768 + y))) (lN (zk b (x * 32768 + y))))))), (wr, .inl (X.2.1, 6600, .inl (upd (shU wf (rk ZP (zk b (x * 32768 + y))) P.length) (rk ZP (zk b (x * 32768 + y))) (nI v))))] := hD
              refine lv_aload_n hx hb dX6_puts_178 rfl (lv_at hl 0 rfl) ?_
              refine va_get (D := X.1) (ci := 6) (v := .ref mn) (C := RX6) (T := TX6) (N := 25) hx hb hts hin6 hown hK hP 0 rfl rfl 4 (by decide) lk7 (fun _ h9 => h9) rfl dX6_puts_179 ?_
              refine lv_iconst (v := nI 0) hx hb dX6_puts_182 (by decide) ?_
              refine lv_aload_n hx hb dX6_puts_183 rfl (lv_at hl 0 rfl) ?_
              refine va_get (D := X.1) (ci := 6) (v := .ref mn) (C := RX6) (T := TX6) (N := 25) hx hb hts hin6 hown hK hP 0 rfl rfl 4 (by decide) lk7 (fun _ h9 => h9) rfl dX6_puts_184 ?_
              refine lv_iconst (v := nI 0) hx hb dX6_puts_187 (by decide) ?_
              have hi_14 : vp_in (nI 0) 2 := vp_in_nI (by omega) (by omega)
              refine va_iald hx hb hK hP 1 0 rfl rfl hi_14 dX6_puts_188 ?_
              refine lv_topi (fun x_15 ex_15 => ?_)
              obtain rfl : x_15 = mf 0 := by
                rw [ex_15]
                rw [nI_clamp (by omega)]
              refine lv_topi (fun x_16 ex_16 => ?_)
              obtain rfl : x_16 = nI P.length := by
                rw [ex_16]
                exact h0.m
              refine lv_iconst (v := nI 1) hx hb dX6_puts_189 (by decide) ?_
              refine lv_iadd hx hb dX6_puts_190 ?_
              refine lv_topi (fun x_17 ex_17 => ?_)
              obtain rfl : x_17 = nI (P.length + 1) := by
                rw [ex_17]
                exact nI_add _ _
              have hi_18 : vp_in (nI 0) 2 := vp_in_nI (by omega) (by omega)
              refine va_iast hx hb hK hP hD hS 1 0 rfl rfl hi_18 dX6_puts_191 (fun H locs hP hD hS => ?_)
              rw [nI_clamp (by omega)] at hP hD
              have hP : va_P X.1 vwCl [(m, .inr (6, [.int (nI bl), .int (nI bk), .int (nI b), .int (nI sp), .ref mn, .ref xr, .ref yr, .ref vr, .ref cr, .ref wr, .int (nI nc), .int f_of, .int f_ar, .ref wl, .ref wc, .int f_wt, .int f_lv, .int f_fi, .int f_en, .long f_cd, .ref rx, .ref ry, .ref rv, .ref fr, .int f_rs])), (mn, .inl (X.2.1, 2, .inl (upd mf 0 (nI (P.length + 1))))), (xr, .inl (X.2.1, 6600, .inl (upd (shU xf (rk P (x * 32768 + y)) P.length) (rk P (x * 32768 + y)) (nI x)))), (yr, .inl (X.2.1, 6600, .inl (upd (shU yf (rk P (x * 32768 + y)) P.length) (rk P (x * 32768 + y)) (nI y)))), (vr, .inl (X.2.1, 6600, .inl (upd (shU vf (rk P (x * 32768 + y)) P.length) (rk P (x * 32768 + y)) (nI v)))), (cr, .inl (X.2.2, 6600, .inr (.inl (vp_updL (shU cf (rk ZP (zk b (x * 32768 + y))) P.length) (rk ZP (zk b (x * 32768 + y))) (lN (zk b (x * 32768 + y))))))), (wr, .inl (X.2.1, 6600, .inl (upd (shU wf (rk ZP (zk b (x * 32768 + y))) P.length) (rk ZP (zk b (x * 32768 + y))) (nI v))))] H := hP
              have hD : va_D A_ [(m, .inr (6, [.int (nI bl), .int (nI bk), .int (nI b), .int (nI sp), .ref mn, .ref xr, .ref yr, .ref vr, .ref cr, .ref wr, .int (nI nc), .int f_of, .int f_ar, .ref wl, .ref wc, .int f_wt, .int f_lv, .int f_fi, .int f_en, .long f_cd, .ref rx, .ref ry, .ref rv, .ref fr, .int f_rs])), (mn, .inl (X.2.1, 2, .inl (upd mf 0 (nI (P.length + 1))))), (xr, .inl (X.2.1, 6600, .inl (upd (shU xf (rk P (x * 32768 + y)) P.length) (rk P (x * 32768 + y)) (nI x)))), (yr, .inl (X.2.1, 6600, .inl (upd (shU yf (rk P (x * 32768 + y)) P.length) (rk P (x * 32768 + y)) (nI y)))), (vr, .inl (X.2.1, 6600, .inl (upd (shU vf (rk P (x * 32768 + y)) P.length) (rk P (x * 32768 + y)) (nI v)))), (cr, .inl (X.2.2, 6600, .inr (.inl (vp_updL (shU cf (rk ZP (zk b (x * 32768 + y))) P.length) (rk ZP (zk b (x * 32768 + y))) (lN (zk b (x * 32768 + y))))))), (wr, .inl (X.2.1, 6600, .inl (upd (shU wf (rk ZP (zk b (x * 32768 + y))) P.length) (rk ZP (zk b (x * 32768 + y))) (nI v))))] := hD
              have hm1 : upd mf 0 (nI (P.length + 1)) 1 = mf 1 := pk_un (by decide)
              have hfin := st_put (v := v) h0 hno hlt (by rw [hky.1, hky.2]; exact ⟨hx0, hy0⟩) (by omega) hv0
              rw [hky.1, hky.2, hzn] at hfin
              have hks : ∀ j, 3300 ≤ j → upd (shU xf (rk P (x * 32768 + y)) P.length) (rk P (x * 32768 + y)) (nI x) j = xf j ∧ upd (shU yf (rk P (x * 32768 + y)) P.length) (rk P (x * 32768 + y)) (nI y) j = yf j ∧ upd (shU vf (rk P (x * 32768 + y)) P.length) (rk P (x * 32768 + y)) (nI v) j = vf j ∧ upd (shU wf (rk ZP (zk b (x * 32768 + y))) P.length) (rk ZP (zk b (x * 32768 + y))) (nI v) j = wf j ∧ vp_updL (shU cf (rk ZP (zk b (x * 32768 + y))) P.length) (rk ZP (zk b (x * 32768 + y))) (lN (zk b (x * 32768 + y))) j = cf j := fun j hj => by
                unfold upd vp_updL shU
                refine ⟨?_, ?_, ?_, ?_, ?_⟩ <;> rw [if_neg (by omega), if_neg (by omega)]
              refine wM hQ ?_
              exact rtV (upd mf 0 (nI (P.length + 1)), upd (shU xf (rk P (x * 32768 + y)) P.length) (rk P (x * 32768 + y)) (nI x), upd (shU yf (rk P (x * 32768 + y)) P.length) (rk P (x * 32768 + y)) (nI y), upd (shU vf (rk P (x * 32768 + y)) P.length) (rk P (x * 32768 + y)) (nI v), upd (shU wf (rk ZP (zk b (x * 32768 + y))) P.length) (rk ZP (zk b (x * 32768 + y))) (nI v), vp_updL (shU cf (rk ZP (zk b (x * 32768 + y))) P.length) (rk ZP (zk b (x * 32768 + y))) (lN (zk b (x * 32768 + y)))) hx hb hr hlocks hP hS (⟨hfin, st_keep h1 hm1 (fun j ha hb => hks j (by omega))⟩) dX6_puts_192
            · replace c_119 : ¬ i ≤ (rk ZP (zk b (x * 32768 + y))) := fun h9 => c_119 ((nI_leI (by omega) (by omega)).mpr h9)
              refine lv_aload_n hx hb dX6_puts_122 rfl (lv_at hl 0 rfl) ?_
              refine va_get (D := X.1) (ci := 6) (v := .ref cr) (C := RX6) (T := TX6) (N := 25) hx hb hts hin6 hown hK hP 0 rfl rfl 8 (by decide) lk22 (fun _ h9 => h9) rfl dX6_puts_123 ?_
              refine lv_iload hx hb dX6_puts_126 (lv_at hl 4 rfl) ?_
              refine lv_aload_n hx hb dX6_puts_128 rfl (lv_at hl 0 rfl) ?_
              refine va_get (D := X.1) (ci := 6) (v := .ref cr) (C := RX6) (T := TX6) (N := 25) hx hb hts hin6 hown hK hP 0 rfl rfl 8 (by decide) lk22 (fun _ h9 => h9) rfl dX6_puts_129 ?_
              refine lv_iload hx hb dX6_puts_132 (lv_at hl 4 rfl) ?_
              refine lv_iconst (v := nI 1) hx hb dX6_puts_134 (by decide) ?_
              refine lv_isub hx hb dX6_puts_135 ?_
              refine lv_topi (fun x_19 ex_19 => ?_)
              obtain rfl : x_19 = nI (i - 1) := by
                rw [ex_19]
                exact pk_sub (by omega)
              have hi_20 : vp_in (nI (i - 1)) 6600 := vp_in_nI (by omega) (by omega)
              refine va_lald hx hb hK hP 5 1 rfl rfl hi_20 dX6_puts_136 ?_
              refine lv_topl (fun x_21 ex_21 => ?_)
              obtain rfl : x_21 = (shU cf i P.length) (i - 1) := by
                rw [ex_21]
                rw [nI_clamp (by omega)]
              have hi_22 : vp_in (nI i) 6600 := vp_in_nI (by omega) (by omega)
              refine va_last hx hb hK hP hD hS 5 1 rfl rfl hi_22 dX6_puts_137 (fun H locs hP hD hS => ?_)
              rw [nI_clamp (by omega)] at hP hD
              rw [show vp_updL (shU cf i P.length) i ((shU cf i P.length) (i - 1)) = shU cf (i - 1) P.length from shU_stL (by omega) (by omega)] at hP hD
              have hP : va_P X.1 vwCl [(m, .inr (6, [.int (nI bl), .int (nI bk), .int (nI b), .int (nI sp), .ref mn, .ref xr, .ref yr, .ref vr, .ref cr, .ref wr, .int (nI nc), .int f_of, .int f_ar, .ref wl, .ref wc, .int f_wt, .int f_lv, .int f_fi, .int f_en, .long f_cd, .ref rx, .ref ry, .ref rv, .ref fr, .int f_rs])), (mn, .inl (X.2.1, 2, .inl mf)), (xr, .inl (X.2.1, 6600, .inl (upd (shU xf (rk P (x * 32768 + y)) P.length) (rk P (x * 32768 + y)) (nI x)))), (yr, .inl (X.2.1, 6600, .inl (upd (shU yf (rk P (x * 32768 + y)) P.length) (rk P (x * 32768 + y)) (nI y)))), (vr, .inl (X.2.1, 6600, .inl (upd (shU vf (rk P (x * 32768 + y)) P.length) (rk P (x * 32768 + y)) (nI v)))), (cr, .inl (X.2.2, 6600, .inr (.inl (shU cf (i - 1) P.length)))), (wr, .inl (X.2.1, 6600, .inl (shU wf i P.length)))] H := hP
              have hD : va_D A_ [(m, .inr (6, [.int (nI bl), .int (nI bk), .int (nI b), .int (nI sp), .ref mn, .ref xr, .ref yr, .ref vr, .ref cr, .ref wr, .int (nI nc), .int f_of, .int f_ar, .ref wl, .ref wc, .int f_wt, .int f_lv, .int f_fi, .int f_en, .long f_cd, .ref rx, .ref ry, .ref rv, .ref fr, .int f_rs])), (mn, .inl (X.2.1, 2, .inl mf)), (xr, .inl (X.2.1, 6600, .inl (upd (shU xf (rk P (x * 32768 + y)) P.length) (rk P (x * 32768 + y)) (nI x)))), (yr, .inl (X.2.1, 6600, .inl (upd (shU yf (rk P (x * 32768 + y)) P.length) (rk P (x * 32768 + y)) (nI y)))), (vr, .inl (X.2.1, 6600, .inl (upd (shU vf (rk P (x * 32768 + y)) P.length) (rk P (x * 32768 + y)) (nI v)))), (cr, .inl (X.2.2, 6600, .inr (.inl (shU cf (i - 1) P.length)))), (wr, .inl (X.2.1, 6600, .inl (shU wf i P.length)))] := hD
              refine lv_aload_n hx hb dX6_puts_138 rfl (lv_at hl 0 rfl) ?_
              refine va_get (D := X.1) (ci := 6) (v := .ref wr) (C := RX6) (T := TX6) (N := 25) hx hb hts hin6 hown hK hP 0 rfl rfl 9 (by decide) lk26 (fun _ h9 => h9) rfl dX6_puts_139 ?_
              refine lv_iload hx hb dX6_puts_142 (lv_at hl 4 rfl) ?_
              refine lv_aload_n hx hb dX6_puts_144 rfl (lv_at hl 0 rfl) ?_
              refine va_get (D := X.1) (ci := 6) (v := .ref wr) (C := RX6) (T := TX6) (N := 25) hx hb hts hin6 hown hK hP 0 rfl rfl 9 (by decide) lk26 (fun _ h9 => h9) rfl dX6_puts_145 ?_
              refine lv_iload hx hb dX6_puts_148 (lv_at hl 4 rfl) ?_
              refine lv_iconst (v := nI 1) hx hb dX6_puts_150 (by decide) ?_
              refine lv_isub hx hb dX6_puts_151 ?_
              refine lv_topi (fun x_23 ex_23 => ?_)
              obtain rfl : x_23 = nI (i - 1) := by
                rw [ex_23]
                exact pk_sub (by omega)
              have hi_24 : vp_in (nI (i - 1)) 6600 := vp_in_nI (by omega) (by omega)
              refine va_iald hx hb hK hP 6 0 rfl rfl hi_24 dX6_puts_152 ?_
              refine lv_topi (fun x_25 ex_25 => ?_)
              obtain rfl : x_25 = (shU wf i P.length) (i - 1) := by
                rw [ex_25]
                rw [nI_clamp (by omega)]
              have hi_26 : vp_in (nI i) 6600 := vp_in_nI (by omega) (by omega)
              refine va_iast hx hb hK hP hD hS 6 0 rfl rfl hi_26 dX6_puts_153 (fun H locs hP hD hS => ?_)
              rw [nI_clamp (by omega)] at hP hD
              rw [show upd (shU wf i P.length) i ((shU wf i P.length) (i - 1)) = shU wf (i - 1) P.length from shU_st (by omega) (by omega)] at hP hD
              have hP : va_P X.1 vwCl [(m, .inr (6, [.int (nI bl), .int (nI bk), .int (nI b), .int (nI sp), .ref mn, .ref xr, .ref yr, .ref vr, .ref cr, .ref wr, .int (nI nc), .int f_of, .int f_ar, .ref wl, .ref wc, .int f_wt, .int f_lv, .int f_fi, .int f_en, .long f_cd, .ref rx, .ref ry, .ref rv, .ref fr, .int f_rs])), (mn, .inl (X.2.1, 2, .inl mf)), (xr, .inl (X.2.1, 6600, .inl (upd (shU xf (rk P (x * 32768 + y)) P.length) (rk P (x * 32768 + y)) (nI x)))), (yr, .inl (X.2.1, 6600, .inl (upd (shU yf (rk P (x * 32768 + y)) P.length) (rk P (x * 32768 + y)) (nI y)))), (vr, .inl (X.2.1, 6600, .inl (upd (shU vf (rk P (x * 32768 + y)) P.length) (rk P (x * 32768 + y)) (nI v)))), (cr, .inl (X.2.2, 6600, .inr (.inl (shU cf (i - 1) P.length)))), (wr, .inl (X.2.1, 6600, .inl (shU wf (i - 1) P.length)))] H := hP
              have hD : va_D A_ [(m, .inr (6, [.int (nI bl), .int (nI bk), .int (nI b), .int (nI sp), .ref mn, .ref xr, .ref yr, .ref vr, .ref cr, .ref wr, .int (nI nc), .int f_of, .int f_ar, .ref wl, .ref wc, .int f_wt, .int f_lv, .int f_fi, .int f_en, .long f_cd, .ref rx, .ref ry, .ref rv, .ref fr, .int f_rs])), (mn, .inl (X.2.1, 2, .inl mf)), (xr, .inl (X.2.1, 6600, .inl (upd (shU xf (rk P (x * 32768 + y)) P.length) (rk P (x * 32768 + y)) (nI x)))), (yr, .inl (X.2.1, 6600, .inl (upd (shU yf (rk P (x * 32768 + y)) P.length) (rk P (x * 32768 + y)) (nI y)))), (vr, .inl (X.2.1, 6600, .inl (upd (shU vf (rk P (x * 32768 + y)) P.length) (rk P (x * 32768 + y)) (nI v)))), (cr, .inl (X.2.2, 6600, .inr (.inl (shU cf (i - 1) P.length)))), (wr, .inl (X.2.1, 6600, .inl (shU wf (i - 1) P.length)))] := hD
              refine lv_iinc (v := nI (i - 1)) (lv' := [(8, .int (nI (i - 1))), (0, .ref m), (4, .int (nI v)), (5, .long (lN (zk b (x * 32768 + y)))), (7, .int (nI (rk ZP (zk b (x * 32768 + y)))))]) hx hb dX6_puts_154 hl (k := 4) rfl (ii_m1 (by omega)) (by decide) rfl (fun ls hl => ?_)
              refine lv_goto (tgt := 115) hx hb dX6_puts_157 (by decide) ?_
              exact ih115 (i - 1) (by omega) (by omega) (by omega) _ _ hP hD hS ls (lv_sub hl [1, 2, 3, 4, 0] rfl)
        rw [← shU_0 cf P.length, ← shU_0 wf P.length] at hP hD
        exact loop_115 _ P.length (by omega) (by omega) (Nat.lt_succ_self _) _ _ hP hD hS ls (lv_sub hl [1, 5, 6, 7, 0] rfl)
      · replace c_28 : ¬ i ≤ (rk P (x * 32768 + y)) := fun h9 => c_28 ((nI_leI (by omega) (by omega)).mpr h9)
        refine lv_aload_n hx hb dX6_puts_31 rfl (lv_at hl 0 rfl) ?_
        refine va_get (D := X.1) (ci := 6) (v := .ref xr) (C := RX6) (T := TX6) (N := 25) hx hb hts hin6 hown hK hP 0 rfl rfl 5 (by decide) lk13 (fun _ h9 => h9) rfl dX6_puts_32 ?_
        refine lv_iload hx hb dX6_puts_35 (lv_at hl 7 rfl) ?_
        refine lv_aload_n hx hb dX6_puts_37 rfl (lv_at hl 0 rfl) ?_
        refine va_get (D := X.1) (ci := 6) (v := .ref xr) (C := RX6) (T := TX6) (N := 25) hx hb hts hin6 hown hK hP 0 rfl rfl 5 (by decide) lk13 (fun _ h9 => h9) rfl dX6_puts_38 ?_
        refine lv_iload hx hb dX6_puts_41 (lv_at hl 7 rfl) ?_
        refine lv_iconst (v := nI 1) hx hb dX6_puts_43 (by decide) ?_
        refine lv_isub hx hb dX6_puts_44 ?_
        refine lv_topi (fun x_27 ex_27 => ?_)
        obtain rfl : x_27 = nI (i - 1) := by
          rw [ex_27]
          exact pk_sub (by omega)
        have hi_28 : vp_in (nI (i - 1)) 6600 := vp_in_nI (by omega) (by omega)
        refine va_iald hx hb hK hP 2 0 rfl rfl hi_28 dX6_puts_45 ?_
        refine lv_topi (fun x_29 ex_29 => ?_)
        obtain rfl : x_29 = (shU xf i P.length) (i - 1) := by
          rw [ex_29]
          rw [nI_clamp (by omega)]
        have hi_30 : vp_in (nI i) 6600 := vp_in_nI (by omega) (by omega)
        refine va_iast hx hb hK hP hD hS 2 0 rfl rfl hi_30 dX6_puts_46 (fun H locs hP hD hS => ?_)
        rw [nI_clamp (by omega)] at hP hD
        rw [show upd (shU xf i P.length) i ((shU xf i P.length) (i - 1)) = shU xf (i - 1) P.length from shU_st (by omega) (by omega)] at hP hD
        have hP : va_P X.1 vwCl [(m, .inr (6, [.int (nI bl), .int (nI bk), .int (nI b), .int (nI sp), .ref mn, .ref xr, .ref yr, .ref vr, .ref cr, .ref wr, .int (nI nc), .int f_of, .int f_ar, .ref wl, .ref wc, .int f_wt, .int f_lv, .int f_fi, .int f_en, .long f_cd, .ref rx, .ref ry, .ref rv, .ref fr, .int f_rs])), (mn, .inl (X.2.1, 2, .inl mf)), (xr, .inl (X.2.1, 6600, .inl (shU xf (i - 1) P.length))), (yr, .inl (X.2.1, 6600, .inl (shU yf i P.length))), (vr, .inl (X.2.1, 6600, .inl (shU vf i P.length))), (cr, .inl (X.2.2, 6600, .inr (.inl cf))), (wr, .inl (X.2.1, 6600, .inl wf))] H := hP
        have hD : va_D A_ [(m, .inr (6, [.int (nI bl), .int (nI bk), .int (nI b), .int (nI sp), .ref mn, .ref xr, .ref yr, .ref vr, .ref cr, .ref wr, .int (nI nc), .int f_of, .int f_ar, .ref wl, .ref wc, .int f_wt, .int f_lv, .int f_fi, .int f_en, .long f_cd, .ref rx, .ref ry, .ref rv, .ref fr, .int f_rs])), (mn, .inl (X.2.1, 2, .inl mf)), (xr, .inl (X.2.1, 6600, .inl (shU xf (i - 1) P.length))), (yr, .inl (X.2.1, 6600, .inl (shU yf i P.length))), (vr, .inl (X.2.1, 6600, .inl (shU vf i P.length))), (cr, .inl (X.2.2, 6600, .inr (.inl cf))), (wr, .inl (X.2.1, 6600, .inl wf))] := hD
        refine lv_aload_n hx hb dX6_puts_47 rfl (lv_at hl 0 rfl) ?_
        refine va_get (D := X.1) (ci := 6) (v := .ref yr) (C := RX6) (T := TX6) (N := 25) hx hb hts hin6 hown hK hP 0 rfl rfl 6 (by decide) lk16 (fun _ h9 => h9) rfl dX6_puts_48 ?_
        refine lv_iload hx hb dX6_puts_51 (lv_at hl 7 rfl) ?_
        refine lv_aload_n hx hb dX6_puts_53 rfl (lv_at hl 0 rfl) ?_
        refine va_get (D := X.1) (ci := 6) (v := .ref yr) (C := RX6) (T := TX6) (N := 25) hx hb hts hin6 hown hK hP 0 rfl rfl 6 (by decide) lk16 (fun _ h9 => h9) rfl dX6_puts_54 ?_
        refine lv_iload hx hb dX6_puts_57 (lv_at hl 7 rfl) ?_
        refine lv_iconst (v := nI 1) hx hb dX6_puts_59 (by decide) ?_
        refine lv_isub hx hb dX6_puts_60 ?_
        refine lv_topi (fun x_31 ex_31 => ?_)
        obtain rfl : x_31 = nI (i - 1) := by
          rw [ex_31]
          exact pk_sub (by omega)
        have hi_32 : vp_in (nI (i - 1)) 6600 := vp_in_nI (by omega) (by omega)
        refine va_iald hx hb hK hP 3 0 rfl rfl hi_32 dX6_puts_61 ?_
        refine lv_topi (fun x_33 ex_33 => ?_)
        obtain rfl : x_33 = (shU yf i P.length) (i - 1) := by
          rw [ex_33]
          rw [nI_clamp (by omega)]
        have hi_34 : vp_in (nI i) 6600 := vp_in_nI (by omega) (by omega)
        refine va_iast hx hb hK hP hD hS 3 0 rfl rfl hi_34 dX6_puts_62 (fun H locs hP hD hS => ?_)
        rw [nI_clamp (by omega)] at hP hD
        rw [show upd (shU yf i P.length) i ((shU yf i P.length) (i - 1)) = shU yf (i - 1) P.length from shU_st (by omega) (by omega)] at hP hD
        have hP : va_P X.1 vwCl [(m, .inr (6, [.int (nI bl), .int (nI bk), .int (nI b), .int (nI sp), .ref mn, .ref xr, .ref yr, .ref vr, .ref cr, .ref wr, .int (nI nc), .int f_of, .int f_ar, .ref wl, .ref wc, .int f_wt, .int f_lv, .int f_fi, .int f_en, .long f_cd, .ref rx, .ref ry, .ref rv, .ref fr, .int f_rs])), (mn, .inl (X.2.1, 2, .inl mf)), (xr, .inl (X.2.1, 6600, .inl (shU xf (i - 1) P.length))), (yr, .inl (X.2.1, 6600, .inl (shU yf (i - 1) P.length))), (vr, .inl (X.2.1, 6600, .inl (shU vf i P.length))), (cr, .inl (X.2.2, 6600, .inr (.inl cf))), (wr, .inl (X.2.1, 6600, .inl wf))] H := hP
        have hD : va_D A_ [(m, .inr (6, [.int (nI bl), .int (nI bk), .int (nI b), .int (nI sp), .ref mn, .ref xr, .ref yr, .ref vr, .ref cr, .ref wr, .int (nI nc), .int f_of, .int f_ar, .ref wl, .ref wc, .int f_wt, .int f_lv, .int f_fi, .int f_en, .long f_cd, .ref rx, .ref ry, .ref rv, .ref fr, .int f_rs])), (mn, .inl (X.2.1, 2, .inl mf)), (xr, .inl (X.2.1, 6600, .inl (shU xf (i - 1) P.length))), (yr, .inl (X.2.1, 6600, .inl (shU yf (i - 1) P.length))), (vr, .inl (X.2.1, 6600, .inl (shU vf i P.length))), (cr, .inl (X.2.2, 6600, .inr (.inl cf))), (wr, .inl (X.2.1, 6600, .inl wf))] := hD
        refine lv_aload_n hx hb dX6_puts_63 rfl (lv_at hl 0 rfl) ?_
        refine va_get (D := X.1) (ci := 6) (v := .ref vr) (C := RX6) (T := TX6) (N := 25) hx hb hts hin6 hown hK hP 0 rfl rfl 7 (by decide) lk19 (fun _ h9 => h9) rfl dX6_puts_64 ?_
        refine lv_iload hx hb dX6_puts_67 (lv_at hl 7 rfl) ?_
        refine lv_aload_n hx hb dX6_puts_69 rfl (lv_at hl 0 rfl) ?_
        refine va_get (D := X.1) (ci := 6) (v := .ref vr) (C := RX6) (T := TX6) (N := 25) hx hb hts hin6 hown hK hP 0 rfl rfl 7 (by decide) lk19 (fun _ h9 => h9) rfl dX6_puts_70 ?_
        refine lv_iload hx hb dX6_puts_73 (lv_at hl 7 rfl) ?_
        refine lv_iconst (v := nI 1) hx hb dX6_puts_75 (by decide) ?_
        refine lv_isub hx hb dX6_puts_76 ?_
        refine lv_topi (fun x_35 ex_35 => ?_)
        obtain rfl : x_35 = nI (i - 1) := by
          rw [ex_35]
          exact pk_sub (by omega)
        have hi_36 : vp_in (nI (i - 1)) 6600 := vp_in_nI (by omega) (by omega)
        refine va_iald hx hb hK hP 4 0 rfl rfl hi_36 dX6_puts_77 ?_
        refine lv_topi (fun x_37 ex_37 => ?_)
        obtain rfl : x_37 = (shU vf i P.length) (i - 1) := by
          rw [ex_37]
          rw [nI_clamp (by omega)]
        have hi_38 : vp_in (nI i) 6600 := vp_in_nI (by omega) (by omega)
        refine va_iast hx hb hK hP hD hS 4 0 rfl rfl hi_38 dX6_puts_78 (fun H locs hP hD hS => ?_)
        rw [nI_clamp (by omega)] at hP hD
        rw [show upd (shU vf i P.length) i ((shU vf i P.length) (i - 1)) = shU vf (i - 1) P.length from shU_st (by omega) (by omega)] at hP hD
        have hP : va_P X.1 vwCl [(m, .inr (6, [.int (nI bl), .int (nI bk), .int (nI b), .int (nI sp), .ref mn, .ref xr, .ref yr, .ref vr, .ref cr, .ref wr, .int (nI nc), .int f_of, .int f_ar, .ref wl, .ref wc, .int f_wt, .int f_lv, .int f_fi, .int f_en, .long f_cd, .ref rx, .ref ry, .ref rv, .ref fr, .int f_rs])), (mn, .inl (X.2.1, 2, .inl mf)), (xr, .inl (X.2.1, 6600, .inl (shU xf (i - 1) P.length))), (yr, .inl (X.2.1, 6600, .inl (shU yf (i - 1) P.length))), (vr, .inl (X.2.1, 6600, .inl (shU vf (i - 1) P.length))), (cr, .inl (X.2.2, 6600, .inr (.inl cf))), (wr, .inl (X.2.1, 6600, .inl wf))] H := hP
        have hD : va_D A_ [(m, .inr (6, [.int (nI bl), .int (nI bk), .int (nI b), .int (nI sp), .ref mn, .ref xr, .ref yr, .ref vr, .ref cr, .ref wr, .int (nI nc), .int f_of, .int f_ar, .ref wl, .ref wc, .int f_wt, .int f_lv, .int f_fi, .int f_en, .long f_cd, .ref rx, .ref ry, .ref rv, .ref fr, .int f_rs])), (mn, .inl (X.2.1, 2, .inl mf)), (xr, .inl (X.2.1, 6600, .inl (shU xf (i - 1) P.length))), (yr, .inl (X.2.1, 6600, .inl (shU yf (i - 1) P.length))), (vr, .inl (X.2.1, 6600, .inl (shU vf (i - 1) P.length))), (cr, .inl (X.2.2, 6600, .inr (.inl cf))), (wr, .inl (X.2.1, 6600, .inl wf))] := hD
        refine lv_iinc (v := nI (i - 1)) (lv' := [(8, .int (nI (i - 1))), (0, .ref m), (1, .int (nI (rk P (x * 32768 + y)))), (2, .int (nI x)), (3, .int (nI y)), (4, .int (nI v)), (5, .long (lN (zk b (x * 32768 + y)))), (7, .int (nI (rk ZP (zk b (x * 32768 + y)))))]) hx hb dX6_puts_79 hl (k := 7) rfl (ii_m1 (by omega)) (by decide) rfl (fun ls hl => ?_)
        refine lv_goto (tgt := 25) hx hb dX6_puts_82 (by decide) ?_
        exact ih25 (i - 1) (by omega) (by omega) (by omega) _ _ hP hD hS ls (lv_sub hl [1, 2, 3, 4, 5, 6, 7, 0] rfl)
  rw [← shU_0 xf P.length, ← shU_0 yf P.length, ← shU_0 vf P.length] at hP hD
  exact loop_25 _ P.length (by omega) (by omega) (Nat.lt_succ_self _) _ _ hP hD hS ls (lv_sub hl [3, 4, 5, 6, 7, 2, 1, 0] rfl)
set_option maxHeartbeats 4000000 in
set_option maxRecDepth 100000 in
theorem c_X6_takes (l : Launch) (X : kX) (m bl bk b sp mn xr yr vr cr wr nc wl wc rx ry rv fr : Nat) (f_of f_ar f_wt f_lv f_fi f_en f_rs : Int32) (f_cd : Int64) (k key w0 : Nat) (mf xf yf vf wf : Nat → Int32) (cf : Nat → Int64) (P ZP Qm ZQm : PL) (h0 : mSt b mf xf yf vf wf cf 0 P ZP) (h1 : mSt b mf xf yf vf wf cf 1 Qm ZQm) (hk : k = rk P key) (hse : lkp P key = some w0) (hin : key / 32768 < 2 ^ b ∧ key % 32768 < 2 ^ b) (hb1 : b ≤ 15) : CWv l X yX6_takes wsX6_takes 1 [.ref m, .int (nI k)] [(m, .inr (6, [.int (nI bl), .int (nI bk), .int (nI b), .int (nI sp), .ref mn, .ref xr, .ref yr, .ref vr, .ref cr, .ref wr, .int (nI nc), .int f_of, .int f_ar, .ref wl, .ref wc, .int f_wt, .int f_lv, .int f_fi, .int f_en, .long f_cd, .ref rx, .ref ry, .ref rv, .ref fr, .int f_rs])), (mn, .inl (X.2.1, 2, .inl mf)), (xr, .inl (X.2.1, 6600, .inl xf)), (yr, .inl (X.2.1, 6600, .inl yf)), (vr, .inl (X.2.1, 6600, .inl vf)), (cr, .inl (X.2.2, 6600, .inr (.inl cf))), (wr, .inl (X.2.1, 6600, .inl wf))] (S := (Nat → Int32) × (Nat → Int32) × (Nat → Int32) × (Nat → Int32) × (Nat → Int32) × (Nat → Int64)) (fun u => mSt b u.1 u.2.1 u.2.2.1 u.2.2.2.1 u.2.2.2.2.1 u.2.2.2.2.2 0 (pdel P key) (pdel ZP (zk b key)) ∧ mSt b u.1 u.2.1 u.2.2.1 u.2.2.2.1 u.2.2.2.2.1 u.2.2.2.2.2 1 Qm ZQm) (fun ⟨mf2, xf2, yf2, vf2, wf2, cf2⟩ => [(m, .inr (6, [.int (nI bl), .int (nI bk), .int (nI b), .int (nI sp), .ref mn, .ref xr, .ref yr, .ref vr, .ref cr, .ref wr, .int (nI nc), .int f_of, .int f_ar, .ref wl, .ref wc, .int f_wt, .int f_lv, .int f_fi, .int f_en, .long f_cd, .ref rx, .ref ry, .ref rv, .ref fr, .int f_rs])), (mn, .inl (X.2.1, 2, .inl mf2)), (xr, .inl (X.2.1, 6600, .inl xf2)), (yr, .inl (X.2.1, 6600, .inl yf2)), (vr, .inl (X.2.1, 6600, .inl vf2)), (cr, .inl (X.2.2, 6600, .inr (.inl cf2))), (wr, .inl (X.2.1, 6600, .inl wf2))]) := by
  refine Met.ofW (cc := cX6_takes) (maxL := 4) (ret := none) (by decide) rfl ?_
  intro pz ez sz mz args below meth cz s₁ Bz hml hv
  obtain ⟨rfl, hP, hK, hD0, hN⟩ := hv
  have hx := Bz.exec
  have hb := Bz.bytes
  have hr := Bz.returns
  have hts := atoms_spec (ws := wsX6_takes) Bz.pre
  have hown : sz.vm.findClass RX6 = some mz.cls := findClass_of_methodNamed Bz.named
  have hlocks := Bz.notSynchronized
  have hD := inW.self hD0
  have hS : va_S (inW [(m, .inr (6, [.int (nI bl), .int (nI bk), .int (nI b), .int (nI sp), .ref mn, .ref xr, .ref yr, .ref vr, .ref cr, .ref wr, .int (nI nc), .int f_of, .int f_ar, .ref wl, .ref wc, .int f_wt, .int f_lv, .int f_fi, .int f_en, .long f_cd, .ref rx, .ref ry, .ref rv, .ref fr, .int f_rs])), (mn, .inl (X.2.1, 2, .inl mf)), (xr, .inl (X.2.1, 6600, .inl xf)), (yr, .inl (X.2.1, 6600, .inl yf)), (vr, .inl (X.2.1, 6600, .inl vf)), (cr, .inl (X.2.2, 6600, .inr (.inl cf))), (wr, .inl (X.2.1, 6600, .inl wf))]) sz.heap sz.heap [] := va_S.rf
  have hl := lv_entry ([.ref m, .int (nI k)]) (n := 4) (Nat.le_of_ble_eq_true rfl)
  rw [lg_entry_eq]
  generalize (lg_sl ([.ref m, .int (nI k)]) ++ List.replicate (4 - (lg_sl ([.ref m, .int (nI k)])).length) Slot.unset).toArray = ls at hl ⊢
  have hl : lv_has ls 4 [(0, .ref m), (1, .int (nI k))] := hl
  have lk7 := hts (.fieldLink RX6 7 "PointStoreModel" "many" "[I") (by decide +kernel)
  have lk13 := hts (.fieldLink RX6 13 "PointStoreModel" "xs" "[I") (by decide +kernel)
  have lk16 := hts (.fieldLink RX6 16 "PointStoreModel" "ys" "[I") (by decide +kernel)
  have lk19 := hts (.fieldLink RX6 19 "PointStoreModel" "values" "[I") (by decide +kernel)
  have lk22 := hts (.fieldLink RX6 22 "PointStoreModel" "codes" "[J") (by decide +kernel)
  have lk26 := hts (.fieldLink RX6 26 "PointStoreModel" "codeValues" "[I") (by decide +kernel)
  have hin6 : ∀ w ∈ u_ws RX6 TX6 25, w ∈ wsX6_takes := by decide +kernel
  refine wQ (fun Q hQ => ?_)
  generalize hAe : inW [(m, .inr (6, [.int (nI bl), .int (nI bk), .int (nI b), .int (nI sp), .ref mn, .ref xr, .ref yr, .ref vr, .ref cr, .ref wr, .int (nI nc), .int f_of, .int f_ar, .ref wl, .ref wc, .int f_wt, .int f_lv, .int f_fi, .int f_en, .long f_cd, .ref rx, .ref ry, .ref rv, .ref fr, .int f_rs])), (mn, .inl (X.2.1, 2, .inl mf)), (xr, .inl (X.2.1, 6600, .inl xf)), (yr, .inl (X.2.1, 6600, .inl yf)), (vr, .inl (X.2.1, 6600, .inl vf)), (cr, .inl (X.2.2, 6600, .inr (.inl cf))), (wr, .inl (X.2.1, 6600, .inl wf))] = A_ at hD hS hQ
  subst hk
  have hpb : 2 ^ b ≤ 32768 := Nat.pow_le_pow_right (n := 2) (by decide) hb1
  have hzl := zk_lt b key
  have h4 : 4 ^ b ≤ 4 ^ 15 := Nat.pow_le_pow_right (by decide) hb1
  obtain ⟨ha1, ha2, ha3⟩ := lkp_at h0.L.2.1 hse
  have hzn := h0.Z.len
  have hPl := h0.L.1
  obtain ⟨hz1, hz2, -⟩ := lkp_at h0.Z.1 ((z_lkp h0.Z h0.L.2.1 h0.I hin).trans hse)
  refine lv_aload_n hx hb dX6_takes_0 rfl (lv_at hl 0 rfl) ?_
  refine lv_iconst (v := nI 0) hx hb dX6_takes_1 (by decide) ?_
  refine lv_aload_n hx hb dX6_takes_2 rfl (lv_at hl 0 rfl) ?_
  refine lv_aload_n hx hb dX6_takes_3 rfl (lv_at hl 0 rfl) ?_
  refine va_get (D := X.1) (ci := 6) (v := .ref xr) (C := RX6) (T := TX6) (N := 25) hx hb hts hin6 hown hK hP 0 rfl rfl 5 (by decide) lk13 (fun _ h9 => h9) rfl dX6_takes_4 ?_
  refine lv_iload_n hx hb dX6_takes_7 rfl (lv_at hl 1 rfl) ?_
  have hi_1 : vp_in (nI (rk P key)) 6600 := vp_in_nI (by omega) (by omega)
  refine va_iald hx hb hK hP 2 0 rfl rfl hi_1 dX6_takes_8 ?_
  refine lv_topi (fun x_2 ex_2 => ?_)
  obtain rfl : x_2 = xf (rk P key) := by
    rw [ex_2]
    rw [nI_clamp (by omega)]
  refine lv_topi (fun x_3 ex_3 => ?_)
  obtain rfl : x_3 = nI (key / 32768) := by
    rw [ex_3]
    have e9 := h0.2.1 _ ha1
    rw [Nat.mul_zero, Nat.zero_add] at e9
    rw [e9]
    show nI (pK P (rk P key) / 32768) = _
    rw [ha2]
  refine lv_aload_n hx hb dX6_takes_9 rfl (lv_at hl 0 rfl) ?_
  refine va_get (D := X.1) (ci := 6) (v := .ref yr) (C := RX6) (T := TX6) (N := 25) hx hb hts hin6 hown hK hP 0 rfl rfl 6 (by decide) lk16 (fun _ h9 => h9) rfl dX6_takes_10 ?_
  refine lv_iload_n hx hb dX6_takes_13 rfl (lv_at hl 1 rfl) ?_
  have hi_4 : vp_in (nI (rk P key)) 6600 := vp_in_nI (by omega) (by omega)
  refine va_iald hx hb hK hP 3 0 rfl rfl hi_4 dX6_takes_14 ?_
  refine lv_topi (fun x_5 ex_5 => ?_)
  obtain rfl : x_5 = yf (rk P key) := by
    rw [ex_5]
    rw [nI_clamp (by omega)]
  refine lv_topi (fun x_6 ex_6 => ?_)
  obtain rfl : x_6 = nI (key % 32768) := by
    rw [ex_6]
    have e9 := h0.2.2.1 _ ha1
    rw [Nat.mul_zero, Nat.zero_add] at e9
    rw [e9]
    show nI (pK P (rk P key) % 32768) = _
    rw [ha2]
  refine ckVRl (As := [.int (nI (key / 32768)), .int (nI (key % 32768))]) (rest := [.int (nI 0), .ref m]) 0 [0] (c_X6_codeOf l X m bl bk b sp mn xr yr vr cr wr nc wl wc rx ry rv fr f_of f_ar f_wt f_lv f_fi f_en f_rs f_cd (key / 32768) (key % 32768) hb1 (by omega) (by omega)) ⟨hx, hb, hml, hown, hts⟩ (cwV 2 hts gX6_takes_X6_codeOf rfl rfl rfl (by decide +kernel) ⟨Nat.le_of_ble_eq_true rfl, Nat.le_of_ble_eq_true rfl⟩) hK hN hP hD (by decide) rfl (ci := 6) rfl rfl rfl hl.1 rfl (Nat.le_of_ble_eq_true rfl) dX6_takes_15 ⟨Nat.zero_le _, Nat.zero_le _⟩ (fun r_7 hc_15 => ?_)
  subst hc_15
  refine ckVRi (As := [.int (nI 0), .long (lN (zk b key))]) (rest := []) 0 [0, 1, 5] (c_X6_below l X m bl bk b sp mn xr yr vr cr wr nc wl wc rx ry rv fr f_of f_ar f_wt f_lv f_fi f_en f_rs f_cd 0 (zk b key) mf cf ZP (by decide) (by omega) h0.mz h0.C h0.Z.1 (by rw [h0.Z.len]; exact h0.L.1) (h0.Z.b hb1)) ⟨hx, hb, hml, hown, hts⟩ (cwV 2 hts gX6_takes_X6_below rfl rfl rfl (by decide +kernel) ⟨Nat.le_of_ble_eq_true rfl, Nat.le_of_ble_eq_true rfl⟩) hK hN hP hD (by decide) rfl (ci := 6) rfl rfl rfl hl.1 rfl (Nat.le_of_ble_eq_true rfl) dX6_takes_18 ⟨Nat.zero_le _, Nat.zero_le _⟩ (fun r_8 hc_18 => ?_)
  subst hc_18
  refine lv_istore_n (lv' := [(2, .int (nI (rk ZP (zk b key)))), (0, .ref m), (1, .int (nI (rk P key)))]) hx hb dX6_takes_21 rfl hl (by decide) rfl (fun ls hl => ?_)
  refine lv_aload_n hx hb dX6_takes_22 rfl (lv_at hl 1 rfl) ?_
  refine va_get (D := X.1) (ci := 6) (v := .ref mn) (C := RX6) (T := TX6) (N := 25) hx hb hts hin6 hown hK hP 0 rfl rfl 4 (by decide) lk7 (fun _ h9 => h9) rfl dX6_takes_23 ?_
  refine lv_iconst (v := nI 0) hx hb dX6_takes_26 (by decide) ?_
  refine lv_aload_n hx hb dX6_takes_27 rfl (lv_at hl 1 rfl) ?_
  refine va_get (D := X.1) (ci := 6) (v := .ref mn) (C := RX6) (T := TX6) (N := 25) hx hb hts hin6 hown hK hP 0 rfl rfl 4 (by decide) lk7 (fun _ h9 => h9) rfl dX6_takes_28 ?_
  refine lv_iconst (v := nI 0) hx hb dX6_takes_31 (by decide) ?_
  have hi_9 : vp_in (nI 0) 2 := vp_in_nI (by omega) (by omega)
  refine va_iald hx hb hK hP 1 0 rfl rfl hi_9 dX6_takes_32 ?_
  refine lv_topi (fun x_10 ex_10 => ?_)
  obtain rfl : x_10 = mf 0 := by
    rw [ex_10]
    rw [nI_clamp (by omega)]
  refine lv_topi (fun x_11 ex_11 => ?_)
  obtain rfl : x_11 = nI P.length := by
    rw [ex_11]
    exact h0.m
  refine lv_iconst (v := nI 1) hx hb dX6_takes_33 (by decide) ?_
  refine lv_isub hx hb dX6_takes_34 ?_
  refine lv_topi (fun x_12 ex_12 => ?_)
  obtain rfl : x_12 = nI (P.length - 1) := by
    rw [ex_12]
    exact pk_sub (by omega)
  have hi_13 : vp_in (nI 0) 2 := vp_in_nI (by omega) (by omega)
  refine va_iast hx hb hK hP hD hS 1 0 rfl rfl hi_13 dX6_takes_35 (fun H locs hP hD hS => ?_)
  rw [nI_clamp (by omega)] at hP hD
  have hP : va_P X.1 vwCl [(m, .inr (6, [.int (nI bl), .int (nI bk), .int (nI b), .int (nI sp), .ref mn, .ref xr, .ref yr, .ref vr, .ref cr, .ref wr, .int (nI nc), .int f_of, .int f_ar, .ref wl, .ref wc, .int f_wt, .int f_lv, .int f_fi, .int f_en, .long f_cd, .ref rx, .ref ry, .ref rv, .ref fr, .int f_rs])), (mn, .inl (X.2.1, 2, .inl (upd mf 0 (nI (P.length - 1))))), (xr, .inl (X.2.1, 6600, .inl xf)), (yr, .inl (X.2.1, 6600, .inl yf)), (vr, .inl (X.2.1, 6600, .inl vf)), (cr, .inl (X.2.2, 6600, .inr (.inl cf))), (wr, .inl (X.2.1, 6600, .inl wf))] H := hP
  have hD : va_D A_ [(m, .inr (6, [.int (nI bl), .int (nI bk), .int (nI b), .int (nI sp), .ref mn, .ref xr, .ref yr, .ref vr, .ref cr, .ref wr, .int (nI nc), .int f_of, .int f_ar, .ref wl, .ref wc, .int f_wt, .int f_lv, .int f_fi, .int f_en, .long f_cd, .ref rx, .ref ry, .ref rv, .ref fr, .int f_rs])), (mn, .inl (X.2.1, 2, .inl (upd mf 0 (nI (P.length - 1))))), (xr, .inl (X.2.1, 6600, .inl xf)), (yr, .inl (X.2.1, 6600, .inl yf)), (vr, .inl (X.2.1, 6600, .inl vf)), (cr, .inl (X.2.2, 6600, .inr (.inl cf))), (wr, .inl (X.2.1, 6600, .inl wf))] := hD
  refine lv_iload_n hx hb dX6_takes_36 rfl (lv_at hl 2 rfl) ?_
  refine lv_istore_n (lv' := [(3, .int (nI (rk P key))), (2, .int (nI (rk ZP (zk b key)))), (0, .ref m), (1, .int (nI (rk P key)))]) hx hb dX6_takes_37 rfl hl (by decide) rfl (fun ls hl => ?_)
  have loop_38 : ∀ (fu : Nat) (i : Nat), (rk P key ≤ i) → (i ≤ P.length - 1) → P.length - 1 - i < fu → ∀ (H : Heap) (locs : List Loc), va_P X.1 vwCl [(m, .inr (6, [.int (nI bl), .int (nI bk), .int (nI b), .int (nI sp), .ref mn, .ref xr, .ref yr, .ref vr, .ref cr, .ref wr, .int (nI nc), .int f_of, .int f_ar, .ref wl, .ref wc, .int f_wt, .int f_lv, .int f_fi, .int f_en, .long f_cd, .ref rx, .ref ry, .ref rv, .ref fr, .int f_rs])), (mn, .inl (X.2.1, 2, .inl (upd mf 0 (nI (P.length - 1))))), (xr, .inl (X.2.1, 6600, .inl (shD xf (rk P key) i))), (yr, .inl (X.2.1, 6600, .inl (shD yf (rk P key) i))), (vr, .inl (X.2.1, 6600, .inl (shD vf (rk P key) i))), (cr, .inl (X.2.2, 6600, .inr (.inl cf))), (wr, .inl (X.2.1, 6600, .inl wf))] H → va_D A_ [(m, .inr (6, [.int (nI bl), .int (nI bk), .int (nI b), .int (nI sp), .ref mn, .ref xr, .ref yr, .ref vr, .ref cr, .ref wr, .int (nI nc), .int f_of, .int f_ar, .ref wl, .ref wc, .int f_wt, .int f_lv, .int f_fi, .int f_en, .long f_cd, .ref rx, .ref ry, .ref rv, .ref fr, .int f_rs])), (mn, .inl (X.2.1, 2, .inl (upd mf 0 (nI (P.length - 1))))), (xr, .inl (X.2.1, 6600, .inl (shD xf (rk P key) i))), (yr, .inl (X.2.1, 6600, .inl (shD yf (rk P key) i))), (vr, .inl (X.2.1, 6600, .inl (shD vf (rk P key) i))), (cr, .inl (X.2.2, 6600, .inr (.inl cf))), (wr, .inl (X.2.1, 6600, .inl wf))] → va_S A_ sz.heap H locs → ∀ (ls : Array Slot), lv_has ls 4 [(0, .ref m), (2, .int (nI (rk ZP (zk b key)))), (3, .int (nI i))] → W pz l ez (headSpec wsX6_takes (rmk 1)).room sz mz ([.ref m, .int (nI (rk P key))].toArray) below meth cz H locs 0 0 Q (F0 mz 38 ls []) := by
    intro fu
    induction fu with
    | zero => intro i hi1 hi2 hfu; exact absurd hfu (Nat.not_lt_zero _)
    | succ fu ih38 =>
      intro i hi1 hi2 hfu H locs hP hD hS ls hl
      refine lv_iload_n hx hb dX6_takes_38 rfl (lv_at hl 2 rfl) ?_
      refine lv_aload_n hx hb dX6_takes_39 rfl (lv_at hl 0 rfl) ?_
      refine va_get (D := X.1) (ci := 6) (v := .ref mn) (C := RX6) (T := TX6) (N := 25) hx hb hts hin6 hown hK hP 0 rfl rfl 4 (by decide) lk7 (fun _ h9 => h9) rfl dX6_takes_40 ?_
      refine lv_iconst (v := nI 0) hx hb dX6_takes_43 (by decide) ?_
      have hi_14 : vp_in (nI 0) 2 := vp_in_nI (by omega) (by omega)
      refine va_iald hx hb hK hP 1 0 rfl rfl hi_14 dX6_takes_44 ?_
      refine lv_topi (fun x_15 ex_15 => ?_)
      obtain rfl : x_15 = (upd mf 0 (nI (P.length - 1))) 0 := by
        rw [ex_15]
        rw [nI_clamp (by omega)]
      refine lv_topi (fun x_16 ex_16 => ?_)
      obtain rfl : x_16 = nI (P.length - 1) := by
        rw [ex_16]
        exact pk_us
      refine lv_icmp_ge (tgt := 96) hx hb dX6_takes_45 (by decide) (fun c_45 => ?_) (fun c_45 => ?_)
      · replace c_45 : (P.length - 1) ≤ i := (nI_leI (by omega) (by omega)).mp c_45
        obtain rfl : i = P.length - 1 := by omega
        refine lv_iload_n hx hb dX6_takes_96 rfl (lv_at hl 1 rfl) ?_
        refine lv_istore_n (lv' := [(3, .int (nI (rk ZP (zk b key)))), (0, .ref m), (2, .int (nI (rk ZP (zk b key))))]) hx hb dX6_takes_97 rfl hl (by decide) rfl (fun ls hl => ?_)
        have loop_98 : ∀ (fu : Nat) (i : Nat), (rk ZP (zk b key) ≤ i) → (i ≤ P.length - 1) → P.length - 1 - i < fu → ∀ (H : Heap) (locs : List Loc), va_P X.1 vwCl [(m, .inr (6, [.int (nI bl), .int (nI bk), .int (nI b), .int (nI sp), .ref mn, .ref xr, .ref yr, .ref vr, .ref cr, .ref wr, .int (nI nc), .int f_of, .int f_ar, .ref wl, .ref wc, .int f_wt, .int f_lv, .int f_fi, .int f_en, .long f_cd, .ref rx, .ref ry, .ref rv, .ref fr, .int f_rs])), (mn, .inl (X.2.1, 2, .inl (upd mf 0 (nI (P.length - 1))))), (xr, .inl (X.2.1, 6600, .inl (shD xf (rk P key) (P.length - 1)))), (yr, .inl (X.2.1, 6600, .inl (shD yf (rk P key) (P.length - 1)))), (vr, .inl (X.2.1, 6600, .inl (shD vf (rk P key) (P.length - 1)))), (cr, .inl (X.2.2, 6600, .inr (.inl (shD cf (rk ZP (zk b key)) i)))), (wr, .inl (X.2.1, 6600, .inl (shD wf (rk ZP (zk b key)) i)))] H → va_D A_ [(m, .inr (6, [.int (nI bl), .int (nI bk), .int (nI b), .int (nI sp), .ref mn, .ref xr, .ref yr, .ref vr, .ref cr, .ref wr, .int (nI nc), .int f_of, .int f_ar, .ref wl, .ref wc, .int f_wt, .int f_lv, .int f_fi, .int f_en, .long f_cd, .ref rx, .ref ry, .ref rv, .ref fr, .int f_rs])), (mn, .inl (X.2.1, 2, .inl (upd mf 0 (nI (P.length - 1))))), (xr, .inl (X.2.1, 6600, .inl (shD xf (rk P key) (P.length - 1)))), (yr, .inl (X.2.1, 6600, .inl (shD yf (rk P key) (P.length - 1)))), (vr, .inl (X.2.1, 6600, .inl (shD vf (rk P key) (P.length - 1)))), (cr, .inl (X.2.2, 6600, .inr (.inl (shD cf (rk ZP (zk b key)) i)))), (wr, .inl (X.2.1, 6600, .inl (shD wf (rk ZP (zk b key)) i)))] → va_S A_ sz.heap H locs → ∀ (ls : Array Slot), lv_has ls 4 [(0, .ref m), (3, .int (nI i))] → W pz l ez (headSpec wsX6_takes (rmk 1)).room sz mz ([.ref m, .int (nI (rk P key))].toArray) below meth cz H locs 0 0 Q (F0 mz 98 ls []) := by
          intro fu
          induction fu with
          | zero => intro i hi1 hi2 hfu; exact absurd hfu (Nat.not_lt_zero _)
          | succ fu ih98 =>
            intro i hi1 hi2 hfu H locs hP hD hS ls hl
            refine lv_iload_n hx hb dX6_takes_98 rfl (lv_at hl 1 rfl) ?_
            refine lv_aload_n hx hb dX6_takes_99 rfl (lv_at hl 0 rfl) ?_
            refine va_get (D := X.1) (ci := 6) (v := .ref mn) (C := RX6) (T := TX6) (N := 25) hx hb hts hin6 hown hK hP 0 rfl rfl 4 (by decide) lk7 (fun _ h9 => h9) rfl dX6_takes_100 ?_
            refine lv_iconst (v := nI 0) hx hb dX6_takes_103 (by decide) ?_
            have hi_17 : vp_in (nI 0) 2 := vp_in_nI (by omega) (by omega)
            refine va_iald hx hb hK hP 1 0 rfl rfl hi_17 dX6_takes_104 ?_
            refine lv_topi (fun x_18 ex_18 => ?_)
            obtain rfl : x_18 = (upd mf 0 (nI (P.length - 1))) 0 := by
              rw [ex_18]
              rw [nI_clamp (by omega)]
            refine lv_topi (fun x_19 ex_19 => ?_)
            obtain rfl : x_19 = nI (P.length - 1) := by
              rw [ex_19]
              exact pk_us
            refine lv_icmp_ge (tgt := 142) hx hb dX6_takes_105 (by decide) (fun c_105 => ?_) (fun c_105 => ?_)
            · replace c_105 : (P.length - 1) ≤ i := (nI_leI (by omega) (by omega)).mp c_105
              obtain rfl : i = P.length - 1 := by omega
              have hm1 : upd mf 0 (nI (P.length - 1)) 1 = mf 1 := pk_un (by decide)
              have hfin := st_del h0 hse hin
              rw [hzn] at hfin
              have hks : ∀ j, 3300 ≤ j → shD xf (rk P key) (P.length - 1) j = xf j ∧ shD yf (rk P key) (P.length - 1) j = yf j ∧ shD vf (rk P key) (P.length - 1) j = vf j ∧ shD wf (rk ZP (zk b key)) (P.length - 1) j = wf j ∧ shD cf (rk ZP (zk b key)) (P.length - 1) j = cf j := fun j hj => by
                unfold shD
                refine ⟨?_, ?_, ?_, ?_, ?_⟩ <;> rw [if_neg (by omega)]
              refine wM hQ ?_
              exact rtV (upd mf 0 (nI (P.length - 1)), shD xf (rk P key) (P.length - 1), shD yf (rk P key) (P.length - 1), shD vf (rk P key) (P.length - 1), shD wf (rk ZP (zk b key)) (P.length - 1), shD cf (rk ZP (zk b key)) (P.length - 1)) hx hb hr hlocks hP hS (⟨hfin, st_keep h1 hm1 (fun j ha hb => hks j (by omega))⟩) dX6_takes_142
            · replace c_105 : ¬ (P.length - 1) ≤ i := fun h9 => c_105 ((nI_leI (by omega) (by omega)).mpr h9)
              refine lv_aload_n hx hb dX6_takes_108 rfl (lv_at hl 0 rfl) ?_
              refine va_get (D := X.1) (ci := 6) (v := .ref cr) (C := RX6) (T := TX6) (N := 25) hx hb hts hin6 hown hK hP 0 rfl rfl 8 (by decide) lk22 (fun _ h9 => h9) rfl dX6_takes_109 ?_
              refine lv_iload_n hx hb dX6_takes_112 rfl (lv_at hl 1 rfl) ?_
              refine lv_aload_n hx hb dX6_takes_113 rfl (lv_at hl 0 rfl) ?_
              refine va_get (D := X.1) (ci := 6) (v := .ref cr) (C := RX6) (T := TX6) (N := 25) hx hb hts hin6 hown hK hP 0 rfl rfl 8 (by decide) lk22 (fun _ h9 => h9) rfl dX6_takes_114 ?_
              refine lv_iload_n hx hb dX6_takes_117 rfl (lv_at hl 1 rfl) ?_
              refine lv_iconst (v := nI 1) hx hb dX6_takes_118 (by decide) ?_
              refine lv_iadd hx hb dX6_takes_119 ?_
              refine lv_topi (fun x_20 ex_20 => ?_)
              obtain rfl : x_20 = nI (i + 1) := by
                rw [ex_20]
                exact nI_add _ _
              have hi_21 : vp_in (nI (i + 1)) 6600 := vp_in_nI (by omega) (by omega)
              refine va_lald hx hb hK hP 5 1 rfl rfl hi_21 dX6_takes_120 ?_
              refine lv_topl (fun x_22 ex_22 => ?_)
              obtain rfl : x_22 = (shD cf (rk ZP (zk b key)) i) (i + 1) := by
                rw [ex_22]
                rw [nI_clamp (by omega)]
              have hi_23 : vp_in (nI i) 6600 := vp_in_nI (by omega) (by omega)
              refine va_last hx hb hK hP hD hS 5 1 rfl rfl hi_23 dX6_takes_121 (fun H locs hP hD hS => ?_)
              rw [nI_clamp (by omega)] at hP hD
              rw [show vp_updL (shD cf (rk ZP (zk b key)) i) i ((shD cf (rk ZP (zk b key)) i) (i + 1)) = shD cf (rk ZP (zk b key)) (i + 1) from shD_stL (by omega)] at hP hD
              have hP : va_P X.1 vwCl [(m, .inr (6, [.int (nI bl), .int (nI bk), .int (nI b), .int (nI sp), .ref mn, .ref xr, .ref yr, .ref vr, .ref cr, .ref wr, .int (nI nc), .int f_of, .int f_ar, .ref wl, .ref wc, .int f_wt, .int f_lv, .int f_fi, .int f_en, .long f_cd, .ref rx, .ref ry, .ref rv, .ref fr, .int f_rs])), (mn, .inl (X.2.1, 2, .inl (upd mf 0 (nI (P.length - 1))))), (xr, .inl (X.2.1, 6600, .inl (shD xf (rk P key) (P.length - 1)))), (yr, .inl (X.2.1, 6600, .inl (shD yf (rk P key) (P.length - 1)))), (vr, .inl (X.2.1, 6600, .inl (shD vf (rk P key) (P.length - 1)))), (cr, .inl (X.2.2, 6600, .inr (.inl (shD cf (rk ZP (zk b key)) (i + 1))))), (wr, .inl (X.2.1, 6600, .inl (shD wf (rk ZP (zk b key)) i)))] H := hP
              have hD : va_D A_ [(m, .inr (6, [.int (nI bl), .int (nI bk), .int (nI b), .int (nI sp), .ref mn, .ref xr, .ref yr, .ref vr, .ref cr, .ref wr, .int (nI nc), .int f_of, .int f_ar, .ref wl, .ref wc, .int f_wt, .int f_lv, .int f_fi, .int f_en, .long f_cd, .ref rx, .ref ry, .ref rv, .ref fr, .int f_rs])), (mn, .inl (X.2.1, 2, .inl (upd mf 0 (nI (P.length - 1))))), (xr, .inl (X.2.1, 6600, .inl (shD xf (rk P key) (P.length - 1)))), (yr, .inl (X.2.1, 6600, .inl (shD yf (rk P key) (P.length - 1)))), (vr, .inl (X.2.1, 6600, .inl (shD vf (rk P key) (P.length - 1)))), (cr, .inl (X.2.2, 6600, .inr (.inl (shD cf (rk ZP (zk b key)) (i + 1))))), (wr, .inl (X.2.1, 6600, .inl (shD wf (rk ZP (zk b key)) i)))] := hD
              refine lv_aload_n hx hb dX6_takes_122 rfl (lv_at hl 0 rfl) ?_
              refine va_get (D := X.1) (ci := 6) (v := .ref wr) (C := RX6) (T := TX6) (N := 25) hx hb hts hin6 hown hK hP 0 rfl rfl 9 (by decide) lk26 (fun _ h9 => h9) rfl dX6_takes_123 ?_
              refine lv_iload_n hx hb dX6_takes_126 rfl (lv_at hl 1 rfl) ?_
              refine lv_aload_n hx hb dX6_takes_127 rfl (lv_at hl 0 rfl) ?_
              refine va_get (D := X.1) (ci := 6) (v := .ref wr) (C := RX6) (T := TX6) (N := 25) hx hb hts hin6 hown hK hP 0 rfl rfl 9 (by decide) lk26 (fun _ h9 => h9) rfl dX6_takes_128 ?_
              refine lv_iload_n hx hb dX6_takes_131 rfl (lv_at hl 1 rfl) ?_
              refine lv_iconst (v := nI 1) hx hb dX6_takes_132 (by decide) ?_
              refine lv_iadd hx hb dX6_takes_133 ?_
              refine lv_topi (fun x_24 ex_24 => ?_)
              obtain rfl : x_24 = nI (i + 1) := by
                rw [ex_24]
                exact nI_add _ _
              have hi_25 : vp_in (nI (i + 1)) 6600 := vp_in_nI (by omega) (by omega)
              refine va_iald hx hb hK hP 6 0 rfl rfl hi_25 dX6_takes_134 ?_
              refine lv_topi (fun x_26 ex_26 => ?_)
              obtain rfl : x_26 = (shD wf (rk ZP (zk b key)) i) (i + 1) := by
                rw [ex_26]
                rw [nI_clamp (by omega)]
              have hi_27 : vp_in (nI i) 6600 := vp_in_nI (by omega) (by omega)
              refine va_iast hx hb hK hP hD hS 6 0 rfl rfl hi_27 dX6_takes_135 (fun H locs hP hD hS => ?_)
              rw [nI_clamp (by omega)] at hP hD
              rw [show upd (shD wf (rk ZP (zk b key)) i) i ((shD wf (rk ZP (zk b key)) i) (i + 1)) = shD wf (rk ZP (zk b key)) (i + 1) from shD_st (by omega)] at hP hD
              have hP : va_P X.1 vwCl [(m, .inr (6, [.int (nI bl), .int (nI bk), .int (nI b), .int (nI sp), .ref mn, .ref xr, .ref yr, .ref vr, .ref cr, .ref wr, .int (nI nc), .int f_of, .int f_ar, .ref wl, .ref wc, .int f_wt, .int f_lv, .int f_fi, .int f_en, .long f_cd, .ref rx, .ref ry, .ref rv, .ref fr, .int f_rs])), (mn, .inl (X.2.1, 2, .inl (upd mf 0 (nI (P.length - 1))))), (xr, .inl (X.2.1, 6600, .inl (shD xf (rk P key) (P.length - 1)))), (yr, .inl (X.2.1, 6600, .inl (shD yf (rk P key) (P.length - 1)))), (vr, .inl (X.2.1, 6600, .inl (shD vf (rk P key) (P.length - 1)))), (cr, .inl (X.2.2, 6600, .inr (.inl (shD cf (rk ZP (zk b key)) (i + 1))))), (wr, .inl (X.2.1, 6600, .inl (shD wf (rk ZP (zk b key)) (i + 1))))] H := hP
              have hD : va_D A_ [(m, .inr (6, [.int (nI bl), .int (nI bk), .int (nI b), .int (nI sp), .ref mn, .ref xr, .ref yr, .ref vr, .ref cr, .ref wr, .int (nI nc), .int f_of, .int f_ar, .ref wl, .ref wc, .int f_wt, .int f_lv, .int f_fi, .int f_en, .long f_cd, .ref rx, .ref ry, .ref rv, .ref fr, .int f_rs])), (mn, .inl (X.2.1, 2, .inl (upd mf 0 (nI (P.length - 1))))), (xr, .inl (X.2.1, 6600, .inl (shD xf (rk P key) (P.length - 1)))), (yr, .inl (X.2.1, 6600, .inl (shD yf (rk P key) (P.length - 1)))), (vr, .inl (X.2.1, 6600, .inl (shD vf (rk P key) (P.length - 1)))), (cr, .inl (X.2.2, 6600, .inr (.inl (shD cf (rk ZP (zk b key)) (i + 1))))), (wr, .inl (X.2.1, 6600, .inl (shD wf (rk ZP (zk b key)) (i + 1))))] := hD
              refine lv_iinc (v := nI (i + 1)) (lv' := [(3, .int (nI (i + 1))), (0, .ref m)]) hx hb dX6_takes_136 hl (k := 1) rfl (by rw [show Int32.ofInt 1 = nI 1 from by decide]; exact nI_add _ _) (by decide) rfl (fun ls hl => ?_)
              refine lv_goto (tgt := 98) hx hb dX6_takes_139 (by decide) ?_
              exact ih98 (i + 1) (by omega) (by omega) (by omega) _ _ hP hD hS ls (lv_sub hl [1, 0] rfl)
        rw [← shD_0 cf (rk ZP (zk b key)), ← shD_0 wf (rk ZP (zk b key))] at hP hD
        exact loop_98 _ (rk ZP (zk b key)) (by omega) (by omega) (Nat.lt_succ_self _) _ _ hP hD hS ls (lv_sub hl [1, 0] rfl)
      · replace c_45 : ¬ (P.length - 1) ≤ i := fun h9 => c_45 ((nI_leI (by omega) (by omega)).mpr h9)
        refine lv_aload_n hx hb dX6_takes_48 rfl (lv_at hl 0 rfl) ?_
        refine va_get (D := X.1) (ci := 6) (v := .ref xr) (C := RX6) (T := TX6) (N := 25) hx hb hts hin6 hown hK hP 0 rfl rfl 5 (by decide) lk13 (fun _ h9 => h9) rfl dX6_takes_49 ?_
        refine lv_iload_n hx hb dX6_takes_52 rfl (lv_at hl 2 rfl) ?_
        refine lv_aload_n hx hb dX6_takes_53 rfl (lv_at hl 0 rfl) ?_
        refine va_get (D := X.1) (ci := 6) (v := .ref xr) (C := RX6) (T := TX6) (N := 25) hx hb hts hin6 hown hK hP 0 rfl rfl 5 (by decide) lk13 (fun _ h9 => h9) rfl dX6_takes_54 ?_
        refine lv_iload_n hx hb dX6_takes_57 rfl (lv_at hl 2 rfl) ?_
        refine lv_iconst (v := nI 1) hx hb dX6_takes_58 (by decide) ?_
        refine lv_iadd hx hb dX6_takes_59 ?_
        refine lv_topi (fun x_28 ex_28 => ?_)
        obtain rfl : x_28 = nI (i + 1) := by
          rw [ex_28]
          exact nI_add _ _
        have hi_29 : vp_in (nI (i + 1)) 6600 := vp_in_nI (by omega) (by omega)
        refine va_iald hx hb hK hP 2 0 rfl rfl hi_29 dX6_takes_60 ?_
        refine lv_topi (fun x_30 ex_30 => ?_)
        obtain rfl : x_30 = (shD xf (rk P key) i) (i + 1) := by
          rw [ex_30]
          rw [nI_clamp (by omega)]
        have hi_31 : vp_in (nI i) 6600 := vp_in_nI (by omega) (by omega)
        refine va_iast hx hb hK hP hD hS 2 0 rfl rfl hi_31 dX6_takes_61 (fun H locs hP hD hS => ?_)
        rw [nI_clamp (by omega)] at hP hD
        rw [show upd (shD xf (rk P key) i) i ((shD xf (rk P key) i) (i + 1)) = shD xf (rk P key) (i + 1) from shD_st (by omega)] at hP hD
        have hP : va_P X.1 vwCl [(m, .inr (6, [.int (nI bl), .int (nI bk), .int (nI b), .int (nI sp), .ref mn, .ref xr, .ref yr, .ref vr, .ref cr, .ref wr, .int (nI nc), .int f_of, .int f_ar, .ref wl, .ref wc, .int f_wt, .int f_lv, .int f_fi, .int f_en, .long f_cd, .ref rx, .ref ry, .ref rv, .ref fr, .int f_rs])), (mn, .inl (X.2.1, 2, .inl (upd mf 0 (nI (P.length - 1))))), (xr, .inl (X.2.1, 6600, .inl (shD xf (rk P key) (i + 1)))), (yr, .inl (X.2.1, 6600, .inl (shD yf (rk P key) i))), (vr, .inl (X.2.1, 6600, .inl (shD vf (rk P key) i))), (cr, .inl (X.2.2, 6600, .inr (.inl cf))), (wr, .inl (X.2.1, 6600, .inl wf))] H := hP
        have hD : va_D A_ [(m, .inr (6, [.int (nI bl), .int (nI bk), .int (nI b), .int (nI sp), .ref mn, .ref xr, .ref yr, .ref vr, .ref cr, .ref wr, .int (nI nc), .int f_of, .int f_ar, .ref wl, .ref wc, .int f_wt, .int f_lv, .int f_fi, .int f_en, .long f_cd, .ref rx, .ref ry, .ref rv, .ref fr, .int f_rs])), (mn, .inl (X.2.1, 2, .inl (upd mf 0 (nI (P.length - 1))))), (xr, .inl (X.2.1, 6600, .inl (shD xf (rk P key) (i + 1)))), (yr, .inl (X.2.1, 6600, .inl (shD yf (rk P key) i))), (vr, .inl (X.2.1, 6600, .inl (shD vf (rk P key) i))), (cr, .inl (X.2.2, 6600, .inr (.inl cf))), (wr, .inl (X.2.1, 6600, .inl wf))] := hD
        refine lv_aload_n hx hb dX6_takes_62 rfl (lv_at hl 0 rfl) ?_
        refine va_get (D := X.1) (ci := 6) (v := .ref yr) (C := RX6) (T := TX6) (N := 25) hx hb hts hin6 hown hK hP 0 rfl rfl 6 (by decide) lk16 (fun _ h9 => h9) rfl dX6_takes_63 ?_
        refine lv_iload_n hx hb dX6_takes_66 rfl (lv_at hl 2 rfl) ?_
        refine lv_aload_n hx hb dX6_takes_67 rfl (lv_at hl 0 rfl) ?_
        refine va_get (D := X.1) (ci := 6) (v := .ref yr) (C := RX6) (T := TX6) (N := 25) hx hb hts hin6 hown hK hP 0 rfl rfl 6 (by decide) lk16 (fun _ h9 => h9) rfl dX6_takes_68 ?_
        refine lv_iload_n hx hb dX6_takes_71 rfl (lv_at hl 2 rfl) ?_
        refine lv_iconst (v := nI 1) hx hb dX6_takes_72 (by decide) ?_
        refine lv_iadd hx hb dX6_takes_73 ?_
        refine lv_topi (fun x_32 ex_32 => ?_)
        obtain rfl : x_32 = nI (i + 1) := by
          rw [ex_32]
          exact nI_add _ _
        have hi_33 : vp_in (nI (i + 1)) 6600 := vp_in_nI (by omega) (by omega)
        refine va_iald hx hb hK hP 3 0 rfl rfl hi_33 dX6_takes_74 ?_
        refine lv_topi (fun x_34 ex_34 => ?_)
        obtain rfl : x_34 = (shD yf (rk P key) i) (i + 1) := by
          rw [ex_34]
          rw [nI_clamp (by omega)]
        have hi_35 : vp_in (nI i) 6600 := vp_in_nI (by omega) (by omega)
        refine va_iast hx hb hK hP hD hS 3 0 rfl rfl hi_35 dX6_takes_75 (fun H locs hP hD hS => ?_)
        rw [nI_clamp (by omega)] at hP hD
        rw [show upd (shD yf (rk P key) i) i ((shD yf (rk P key) i) (i + 1)) = shD yf (rk P key) (i + 1) from shD_st (by omega)] at hP hD
        have hP : va_P X.1 vwCl [(m, .inr (6, [.int (nI bl), .int (nI bk), .int (nI b), .int (nI sp), .ref mn, .ref xr, .ref yr, .ref vr, .ref cr, .ref wr, .int (nI nc), .int f_of, .int f_ar, .ref wl, .ref wc, .int f_wt, .int f_lv, .int f_fi, .int f_en, .long f_cd, .ref rx, .ref ry, .ref rv, .ref fr, .int f_rs])), (mn, .inl (X.2.1, 2, .inl (upd mf 0 (nI (P.length - 1))))), (xr, .inl (X.2.1, 6600, .inl (shD xf (rk P key) (i + 1)))), (yr, .inl (X.2.1, 6600, .inl (shD yf (rk P key) (i + 1)))), (vr, .inl (X.2.1, 6600, .inl (shD vf (rk P key) i))), (cr, .inl (X.2.2, 6600, .inr (.inl cf))), (wr, .inl (X.2.1, 6600, .inl wf))] H := hP
        have hD : va_D A_ [(m, .inr (6, [.int (nI bl), .int (nI bk), .int (nI b), .int (nI sp), .ref mn, .ref xr, .ref yr, .ref vr, .ref cr, .ref wr, .int (nI nc), .int f_of, .int f_ar, .ref wl, .ref wc, .int f_wt, .int f_lv, .int f_fi, .int f_en, .long f_cd, .ref rx, .ref ry, .ref rv, .ref fr, .int f_rs])), (mn, .inl (X.2.1, 2, .inl (upd mf 0 (nI (P.length - 1))))), (xr, .inl (X.2.1, 6600, .inl (shD xf (rk P key) (i + 1)))), (yr, .inl (X.2.1, 6600, .inl (shD yf (rk P key) (i + 1)))), (vr, .inl (X.2.1, 6600, .inl (shD vf (rk P key) i))), (cr, .inl (X.2.2, 6600, .inr (.inl cf))), (wr, .inl (X.2.1, 6600, .inl wf))] := hD
        refine lv_aload_n hx hb dX6_takes_76 rfl (lv_at hl 0 rfl) ?_
        refine va_get (D := X.1) (ci := 6) (v := .ref vr) (C := RX6) (T := TX6) (N := 25) hx hb hts hin6 hown hK hP 0 rfl rfl 7 (by decide) lk19 (fun _ h9 => h9) rfl dX6_takes_77 ?_
        refine lv_iload_n hx hb dX6_takes_80 rfl (lv_at hl 2 rfl) ?_
        refine lv_aload_n hx hb dX6_takes_81 rfl (lv_at hl 0 rfl) ?_
        refine va_get (D := X.1) (ci := 6) (v := .ref vr) (C := RX6) (T := TX6) (N := 25) hx hb hts hin6 hown hK hP 0 rfl rfl 7 (by decide) lk19 (fun _ h9 => h9) rfl dX6_takes_82 ?_
        refine lv_iload_n hx hb dX6_takes_85 rfl (lv_at hl 2 rfl) ?_
        refine lv_iconst (v := nI 1) hx hb dX6_takes_86 (by decide) ?_
        refine lv_iadd hx hb dX6_takes_87 ?_
        refine lv_topi (fun x_36 ex_36 => ?_)
        obtain rfl : x_36 = nI (i + 1) := by
          rw [ex_36]
          exact nI_add _ _
        have hi_37 : vp_in (nI (i + 1)) 6600 := vp_in_nI (by omega) (by omega)
        refine va_iald hx hb hK hP 4 0 rfl rfl hi_37 dX6_takes_88 ?_
        refine lv_topi (fun x_38 ex_38 => ?_)
        obtain rfl : x_38 = (shD vf (rk P key) i) (i + 1) := by
          rw [ex_38]
          rw [nI_clamp (by omega)]
        have hi_39 : vp_in (nI i) 6600 := vp_in_nI (by omega) (by omega)
        refine va_iast hx hb hK hP hD hS 4 0 rfl rfl hi_39 dX6_takes_89 (fun H locs hP hD hS => ?_)
        rw [nI_clamp (by omega)] at hP hD
        rw [show upd (shD vf (rk P key) i) i ((shD vf (rk P key) i) (i + 1)) = shD vf (rk P key) (i + 1) from shD_st (by omega)] at hP hD
        have hP : va_P X.1 vwCl [(m, .inr (6, [.int (nI bl), .int (nI bk), .int (nI b), .int (nI sp), .ref mn, .ref xr, .ref yr, .ref vr, .ref cr, .ref wr, .int (nI nc), .int f_of, .int f_ar, .ref wl, .ref wc, .int f_wt, .int f_lv, .int f_fi, .int f_en, .long f_cd, .ref rx, .ref ry, .ref rv, .ref fr, .int f_rs])), (mn, .inl (X.2.1, 2, .inl (upd mf 0 (nI (P.length - 1))))), (xr, .inl (X.2.1, 6600, .inl (shD xf (rk P key) (i + 1)))), (yr, .inl (X.2.1, 6600, .inl (shD yf (rk P key) (i + 1)))), (vr, .inl (X.2.1, 6600, .inl (shD vf (rk P key) (i + 1)))), (cr, .inl (X.2.2, 6600, .inr (.inl cf))), (wr, .inl (X.2.1, 6600, .inl wf))] H := hP
        have hD : va_D A_ [(m, .inr (6, [.int (nI bl), .int (nI bk), .int (nI b), .int (nI sp), .ref mn, .ref xr, .ref yr, .ref vr, .ref cr, .ref wr, .int (nI nc), .int f_of, .int f_ar, .ref wl, .ref wc, .int f_wt, .int f_lv, .int f_fi, .int f_en, .long f_cd, .ref rx, .ref ry, .ref rv, .ref fr, .int f_rs])), (mn, .inl (X.2.1, 2, .inl (upd mf 0 (nI (P.length - 1))))), (xr, .inl (X.2.1, 6600, .inl (shD xf (rk P key) (i + 1)))), (yr, .inl (X.2.1, 6600, .inl (shD yf (rk P key) (i + 1)))), (vr, .inl (X.2.1, 6600, .inl (shD vf (rk P key) (i + 1)))), (cr, .inl (X.2.2, 6600, .inr (.inl cf))), (wr, .inl (X.2.1, 6600, .inl wf))] := hD
        refine lv_iinc (v := nI (i + 1)) (lv' := [(3, .int (nI (i + 1))), (0, .ref m), (2, .int (nI (rk ZP (zk b key))))]) hx hb dX6_takes_90 hl (k := 2) rfl (by rw [show Int32.ofInt 1 = nI 1 from by decide]; exact nI_add _ _) (by decide) rfl (fun ls hl => ?_)
        refine lv_goto (tgt := 38) hx hb dX6_takes_93 (by decide) ?_
        exact ih38 (i + 1) (by omega) (by omega) (by omega) _ _ hP hD hS ls (lv_sub hl [1, 2, 0] rfl)
  rw [← shD_0 xf (rk P key), ← shD_0 yf (rk P key), ← shD_0 vf (rk P key)] at hP hD
  exact loop_38 _ (rk P key) (by omega) (by omega) (Nat.lt_succ_self _) _ _ hP hD hS ls (lv_sub hl [2, 1, 0] rfl)
set_option maxHeartbeats 4000000 in
set_option maxRecDepth 100000 in
theorem c_X6_becomes (l : Launch) (X : kX) (m bl bk b sp mn xr yr vr cr wr nc wl wc rx ry rv fr : Nat) (f_of f_ar f_wt f_lv f_fi f_en f_rs : Int32) (f_cd : Int64) (to_ fr_ : Nat) (mf xf yf vf wf : Nat → Int32) (cf : Nat → Int64) (L Z : PL) (h0 : mSt b mf xf yf vf wf cf fr_ L Z) (ht : to_ + fr_ = 1) : CWv l X yX6_becomes wsX6_becomes 0 [.ref m, .int (nI to_), .int (nI fr_)] [(m, .inr (6, [.int (nI bl), .int (nI bk), .int (nI b), .int (nI sp), .ref mn, .ref xr, .ref yr, .ref vr, .ref cr, .ref wr, .int (nI nc), .int f_of, .int f_ar, .ref wl, .ref wc, .int f_wt, .int f_lv, .int f_fi, .int f_en, .long f_cd, .ref rx, .ref ry, .ref rv, .ref fr, .int f_rs])), (mn, .inl (X.2.1, 2, .inl mf)), (xr, .inl (X.2.1, 6600, .inl xf)), (yr, .inl (X.2.1, 6600, .inl yf)), (vr, .inl (X.2.1, 6600, .inl vf)), (cr, .inl (X.2.2, 6600, .inr (.inl cf))), (wr, .inl (X.2.1, 6600, .inl wf))] (S := (Nat → Int32) × (Nat → Int32) × (Nat → Int32) × (Nat → Int32) × (Nat → Int32) × (Nat → Int64)) (fun u => mSt b u.1 u.2.1 u.2.2.1 u.2.2.2.1 u.2.2.2.2.1 u.2.2.2.2.2 0 L Z ∧ mSt b u.1 u.2.1 u.2.2.1 u.2.2.2.1 u.2.2.2.2.1 u.2.2.2.2.2 1 L Z) (fun ⟨mf2, xf2, yf2, vf2, wf2, cf2⟩ => [(m, .inr (6, [.int (nI bl), .int (nI bk), .int (nI b), .int (nI sp), .ref mn, .ref xr, .ref yr, .ref vr, .ref cr, .ref wr, .int (nI 0), .int f_of, .int f_ar, .ref wl, .ref wc, .int f_wt, .int f_lv, .int f_fi, .int f_en, .long f_cd, .ref rx, .ref ry, .ref rv, .ref fr, .int f_rs])), (mn, .inl (X.2.1, 2, .inl mf2)), (xr, .inl (X.2.1, 6600, .inl xf2)), (yr, .inl (X.2.1, 6600, .inl yf2)), (vr, .inl (X.2.1, 6600, .inl vf2)), (cr, .inl (X.2.2, 6600, .inr (.inl cf2))), (wr, .inl (X.2.1, 6600, .inl wf2))]) := by
  refine Met.ofW (cc := cX6_becomes) (maxL := 6) (ret := none) (by decide) rfl ?_
  intro pz ez sz mz args below meth cz s₁ Bz hml hv
  obtain ⟨rfl, hP, hK, hD0, hN⟩ := hv
  have hx := Bz.exec
  have hb := Bz.bytes
  have hr := Bz.returns
  have hts := atoms_spec (ws := wsX6_becomes) Bz.pre
  have hown : sz.vm.findClass RX6 = some mz.cls := findClass_of_methodNamed Bz.named
  have hlocks := Bz.notSynchronized
  have hD := inW.self hD0
  have hS : va_S (inW [(m, .inr (6, [.int (nI bl), .int (nI bk), .int (nI b), .int (nI sp), .ref mn, .ref xr, .ref yr, .ref vr, .ref cr, .ref wr, .int (nI nc), .int f_of, .int f_ar, .ref wl, .ref wc, .int f_wt, .int f_lv, .int f_fi, .int f_en, .long f_cd, .ref rx, .ref ry, .ref rv, .ref fr, .int f_rs])), (mn, .inl (X.2.1, 2, .inl mf)), (xr, .inl (X.2.1, 6600, .inl xf)), (yr, .inl (X.2.1, 6600, .inl yf)), (vr, .inl (X.2.1, 6600, .inl vf)), (cr, .inl (X.2.2, 6600, .inr (.inl cf))), (wr, .inl (X.2.1, 6600, .inl wf))]) sz.heap sz.heap [] := va_S.rf
  have hl := lv_entry ([.ref m, .int (nI to_), .int (nI fr_)]) (n := 6) (Nat.le_of_ble_eq_true rfl)
  rw [lg_entry_eq]
  generalize (lg_sl ([.ref m, .int (nI to_), .int (nI fr_)]) ++ List.replicate (6 - (lg_sl ([.ref m, .int (nI to_), .int (nI fr_)])).length) Slot.unset).toArray = ls at hl ⊢
  have hl : lv_has ls 6 [(0, .ref m), (1, .int (nI to_)), (2, .int (nI fr_))] := hl
  have lk7 := hts (.fieldLink RX6 7 "PointStoreModel" "many" "[I") (by decide +kernel)
  have lk13 := hts (.fieldLink RX6 13 "PointStoreModel" "xs" "[I") (by decide +kernel)
  have lk16 := hts (.fieldLink RX6 16 "PointStoreModel" "ys" "[I") (by decide +kernel)
  have lk19 := hts (.fieldLink RX6 19 "PointStoreModel" "values" "[I") (by decide +kernel)
  have lk22 := hts (.fieldLink RX6 22 "PointStoreModel" "codes" "[J") (by decide +kernel)
  have lk26 := hts (.fieldLink RX6 26 "PointStoreModel" "codeValues" "[I") (by decide +kernel)
  have lk71 := hts (.fieldLink RX6 71 "PointStoreModel" "changes" "I") (by decide +kernel)
  have hin6 : ∀ w ∈ u_ws RX6 TX6 25, w ∈ wsX6_becomes := by decide +kernel
  refine wQ (fun Q hQ => ?_)
  generalize hAe : inW [(m, .inr (6, [.int (nI bl), .int (nI bk), .int (nI b), .int (nI sp), .ref mn, .ref xr, .ref yr, .ref vr, .ref cr, .ref wr, .int (nI nc), .int f_of, .int f_ar, .ref wl, .ref wc, .int f_wt, .int f_lv, .int f_fi, .int f_en, .long f_cd, .ref rx, .ref ry, .ref rv, .ref fr, .int f_rs])), (mn, .inl (X.2.1, 2, .inl mf)), (xr, .inl (X.2.1, 6600, .inl xf)), (yr, .inl (X.2.1, 6600, .inl yf)), (vr, .inl (X.2.1, 6600, .inl vf)), (cr, .inl (X.2.2, 6600, .inr (.inl cf))), (wr, .inl (X.2.1, 6600, .inl wf))] = A_ at hD hS hQ
  have hl0 := h0.L.1
  refine lv_aload_n hx hb dX6_becomes_0 rfl (lv_at hl 0 rfl) ?_
  refine va_get (D := X.1) (ci := 6) (v := .ref mn) (C := RX6) (T := TX6) (N := 25) hx hb hts hin6 hown hK hP 0 rfl rfl 4 (by decide) lk7 (fun _ h9 => h9) rfl dX6_becomes_1 ?_
  refine lv_iload_n hx hb dX6_becomes_4 rfl (lv_at hl 1 rfl) ?_
  refine lv_aload_n hx hb dX6_becomes_5 rfl (lv_at hl 0 rfl) ?_
  refine va_get (D := X.1) (ci := 6) (v := .ref mn) (C := RX6) (T := TX6) (N := 25) hx hb hts hin6 hown hK hP 0 rfl rfl 4 (by decide) lk7 (fun _ h9 => h9) rfl dX6_becomes_6 ?_
  refine lv_iload_n hx hb dX6_becomes_9 rfl (lv_at hl 2 rfl) ?_
  have hi_1 : vp_in (nI fr_) 2 := vp_in_nI (by omega) (by omega)
  refine va_iald hx hb hK hP 1 0 rfl rfl hi_1 dX6_becomes_10 ?_
  refine lv_topi (fun x_2 ex_2 => ?_)
  obtain rfl : x_2 = mf fr_ := by
    rw [ex_2]
    rw [nI_clamp (by omega)]
  refine lv_topi (fun x_3 ex_3 => ?_)
  obtain rfl : x_3 = nI L.length := by
    rw [ex_3]
    exact h0.m
  have hi_4 : vp_in (nI to_) 2 := vp_in_nI (by omega) (by omega)
  refine va_iast hx hb hK hP hD hS 1 0 rfl rfl hi_4 dX6_becomes_11 (fun H locs hP hD hS => ?_)
  rw [nI_clamp (by omega)] at hP hD
  have hP : va_P X.1 vwCl [(m, .inr (6, [.int (nI bl), .int (nI bk), .int (nI b), .int (nI sp), .ref mn, .ref xr, .ref yr, .ref vr, .ref cr, .ref wr, .int (nI nc), .int f_of, .int f_ar, .ref wl, .ref wc, .int f_wt, .int f_lv, .int f_fi, .int f_en, .long f_cd, .ref rx, .ref ry, .ref rv, .ref fr, .int f_rs])), (mn, .inl (X.2.1, 2, .inl (upd mf to_ (nI L.length)))), (xr, .inl (X.2.1, 6600, .inl xf)), (yr, .inl (X.2.1, 6600, .inl yf)), (vr, .inl (X.2.1, 6600, .inl vf)), (cr, .inl (X.2.2, 6600, .inr (.inl cf))), (wr, .inl (X.2.1, 6600, .inl wf))] H := hP
  have hD : va_D A_ [(m, .inr (6, [.int (nI bl), .int (nI bk), .int (nI b), .int (nI sp), .ref mn, .ref xr, .ref yr, .ref vr, .ref cr, .ref wr, .int (nI nc), .int f_of, .int f_ar, .ref wl, .ref wc, .int f_wt, .int f_lv, .int f_fi, .int f_en, .long f_cd, .ref rx, .ref ry, .ref rv, .ref fr, .int f_rs])), (mn, .inl (X.2.1, 2, .inl (upd mf to_ (nI L.length)))), (xr, .inl (X.2.1, 6600, .inl xf)), (yr, .inl (X.2.1, 6600, .inl yf)), (vr, .inl (X.2.1, 6600, .inl vf)), (cr, .inl (X.2.2, 6600, .inr (.inl cf))), (wr, .inl (X.2.1, 6600, .inl wf))] := hD
  refine lv_iconst (v := nI 0) hx hb dX6_becomes_12 (by decide) ?_
  refine lv_istore_n (lv' := [(3, .int (nI 0)), (0, .ref m), (1, .int (nI to_)), (2, .int (nI fr_))]) hx hb dX6_becomes_13 rfl hl (by decide) rfl (fun ls hl => ?_)
  have loop_14 : ∀ (fu : Nat) (i : Nat), (i ≤ L.length) → L.length - i < fu → ∀ (H : Heap) (locs : List Loc), va_P X.1 vwCl [(m, .inr (6, [.int (nI bl), .int (nI bk), .int (nI b), .int (nI sp), .ref mn, .ref xr, .ref yr, .ref vr, .ref cr, .ref wr, .int (nI nc), .int f_of, .int f_ar, .ref wl, .ref wc, .int f_wt, .int f_lv, .int f_fi, .int f_en, .long f_cd, .ref rx, .ref ry, .ref rv, .ref fr, .int f_rs])), (mn, .inl (X.2.1, 2, .inl (upd mf to_ (nI L.length)))), (xr, .inl (X.2.1, 6600, .inl (va_cpy xf xf (3300 * fr_) (3300 * to_) i))), (yr, .inl (X.2.1, 6600, .inl (va_cpy yf yf (3300 * fr_) (3300 * to_) i))), (vr, .inl (X.2.1, 6600, .inl (va_cpy vf vf (3300 * fr_) (3300 * to_) i))), (cr, .inl (X.2.2, 6600, .inr (.inl (va_cpy cf cf (3300 * fr_) (3300 * to_) i)))), (wr, .inl (X.2.1, 6600, .inl (va_cpy wf wf (3300 * fr_) (3300 * to_) i)))] H → va_D A_ [(m, .inr (6, [.int (nI bl), .int (nI bk), .int (nI b), .int (nI sp), .ref mn, .ref xr, .ref yr, .ref vr, .ref cr, .ref wr, .int (nI nc), .int f_of, .int f_ar, .ref wl, .ref wc, .int f_wt, .int f_lv, .int f_fi, .int f_en, .long f_cd, .ref rx, .ref ry, .ref rv, .ref fr, .int f_rs])), (mn, .inl (X.2.1, 2, .inl (upd mf to_ (nI L.length)))), (xr, .inl (X.2.1, 6600, .inl (va_cpy xf xf (3300 * fr_) (3300 * to_) i))), (yr, .inl (X.2.1, 6600, .inl (va_cpy yf yf (3300 * fr_) (3300 * to_) i))), (vr, .inl (X.2.1, 6600, .inl (va_cpy vf vf (3300 * fr_) (3300 * to_) i))), (cr, .inl (X.2.2, 6600, .inr (.inl (va_cpy cf cf (3300 * fr_) (3300 * to_) i)))), (wr, .inl (X.2.1, 6600, .inl (va_cpy wf wf (3300 * fr_) (3300 * to_) i)))] → va_S A_ sz.heap H locs → ∀ (ls : Array Slot), lv_has ls 6 [(0, .ref m), (1, .int (nI to_)), (2, .int (nI fr_)), (3, .int (nI i))] → W pz l ez (headSpec wsX6_becomes (rmk 0)).room sz mz ([.ref m, .int (nI to_), .int (nI fr_)].toArray) below meth cz H locs 0 0 Q (F0 mz 14 ls []) := by
    intro fu
    induction fu with
    | zero => intro i hi1 hfu; exact absurd hfu (Nat.not_lt_zero _)
    | succ fu ih14 =>
      intro i hi1 hfu H locs hP hD hS ls hl
      refine lv_iload_n hx hb dX6_becomes_14 rfl (lv_at hl 3 rfl) ?_
      refine lv_aload_n hx hb dX6_becomes_15 rfl (lv_at hl 0 rfl) ?_
      refine va_get (D := X.1) (ci := 6) (v := .ref mn) (C := RX6) (T := TX6) (N := 25) hx hb hts hin6 hown hK hP 0 rfl rfl 4 (by decide) lk7 (fun _ h9 => h9) rfl dX6_becomes_16 ?_
      refine lv_iload_n hx hb dX6_becomes_19 rfl (lv_at hl 2 rfl) ?_
      have hi_5 : vp_in (nI fr_) 2 := vp_in_nI (by omega) (by omega)
      refine va_iald hx hb hK hP 1 0 rfl rfl hi_5 dX6_becomes_20 ?_
      refine lv_topi (fun x_6 ex_6 => ?_)
      obtain rfl : x_6 = (upd mf to_ (nI L.length)) fr_ := by
        rw [ex_6]
        rw [nI_clamp (by omega)]
      refine lv_topi (fun x_7 ex_7 => ?_)
      obtain rfl : x_7 = nI L.length := by
        rw [ex_7]
        rw [pk_un (by omega)]
        exact h0.m
      refine lv_icmp_ge (tgt := 118) hx hb dX6_becomes_21 (by decide) (fun c_21 => ?_) (fun c_21 => ?_)
      · replace c_21 : L.length ≤ i := (nI_leI (by omega) (by omega)).mp c_21
        obtain rfl : i = L.length := by omega
        refine lv_aload_n hx hb dX6_becomes_118 rfl (lv_at hl 0 rfl) ?_
        refine lv_iconst (v := nI 0) hx hb dX6_becomes_119 (by decide) ?_
        refine va_put (D := X.1) (ci := 6) (v := .int (nI 0)) (ty := .int) (C := RX6) (T := TX6) (N := 25) hx hb hts hin6 tyX6 tyX6_ok nmX6 hown hK hP hD hS 0 rfl rfl 10 (by decide) lk71 (fun _ h9 => h9) rfl (by decide +kernel) rfl rfl (Nat.le_of_ble_eq_true rfl) dX6_becomes_120 (fun H locs hP hD hS => ?_)
        have hP : va_P X.1 vwCl [(m, .inr (6, [.int (nI bl), .int (nI bk), .int (nI b), .int (nI sp), .ref mn, .ref xr, .ref yr, .ref vr, .ref cr, .ref wr, .int (nI 0), .int f_of, .int f_ar, .ref wl, .ref wc, .int f_wt, .int f_lv, .int f_fi, .int f_en, .long f_cd, .ref rx, .ref ry, .ref rv, .ref fr, .int f_rs])), (mn, .inl (X.2.1, 2, .inl (upd mf to_ (nI L.length)))), (xr, .inl (X.2.1, 6600, .inl (va_cpy xf xf (3300 * fr_) (3300 * to_) L.length))), (yr, .inl (X.2.1, 6600, .inl (va_cpy yf yf (3300 * fr_) (3300 * to_) L.length))), (vr, .inl (X.2.1, 6600, .inl (va_cpy vf vf (3300 * fr_) (3300 * to_) L.length))), (cr, .inl (X.2.2, 6600, .inr (.inl (va_cpy cf cf (3300 * fr_) (3300 * to_) L.length)))), (wr, .inl (X.2.1, 6600, .inl (va_cpy wf wf (3300 * fr_) (3300 * to_) L.length)))] H := hP
        have hD : va_D A_ [(m, .inr (6, [.int (nI bl), .int (nI bk), .int (nI b), .int (nI sp), .ref mn, .ref xr, .ref yr, .ref vr, .ref cr, .ref wr, .int (nI 0), .int f_of, .int f_ar, .ref wl, .ref wc, .int f_wt, .int f_lv, .int f_fi, .int f_en, .long f_cd, .ref rx, .ref ry, .ref rv, .ref fr, .int f_rs])), (mn, .inl (X.2.1, 2, .inl (upd mf to_ (nI L.length)))), (xr, .inl (X.2.1, 6600, .inl (va_cpy xf xf (3300 * fr_) (3300 * to_) L.length))), (yr, .inl (X.2.1, 6600, .inl (va_cpy yf yf (3300 * fr_) (3300 * to_) L.length))), (vr, .inl (X.2.1, 6600, .inl (va_cpy vf vf (3300 * fr_) (3300 * to_) L.length))), (cr, .inl (X.2.2, 6600, .inr (.inl (va_cpy cf cf (3300 * fr_) (3300 * to_) L.length)))), (wr, .inl (X.2.1, 6600, .inl (va_cpy wf wf (3300 * fr_) (3300 * to_) L.length)))] := hD
        have hto := st_copy (t := to_) h0
        have hfr := st_keep (mf2 := upd mf to_ (nI L.length)) (xf2 := va_cpy xf xf (3300 * fr_) (3300 * to_) L.length) (yf2 := va_cpy yf yf (3300 * fr_) (3300 * to_) L.length) (vf2 := va_cpy vf vf (3300 * fr_) (3300 * to_) L.length) (wf2 := va_cpy wf wf (3300 * fr_) (3300 * to_) L.length) (cf2 := va_cpy cf cf (3300 * fr_) (3300 * to_) L.length) h0 (pk_un (by omega)) (fun j ha hb => by
          refine ⟨?_, ?_, ?_, ?_, ?_⟩ <;> exact pk_cpy_out (by omega))
        refine wM hQ ?_
        exact rtV (upd mf to_ (nI L.length), va_cpy xf xf (3300 * fr_) (3300 * to_) L.length, va_cpy yf yf (3300 * fr_) (3300 * to_) L.length, va_cpy vf vf (3300 * fr_) (3300 * to_) L.length, va_cpy wf wf (3300 * fr_) (3300 * to_) L.length, va_cpy cf cf (3300 * fr_) (3300 * to_) L.length) hx hb hr hlocks hP hS ((by rcases (show (to_ = 0 ∧ fr_ = 1) ∨ (to_ = 1 ∧ fr_ = 0) by omega) with ⟨rfl, rfl⟩ | ⟨rfl, rfl⟩; exact ⟨hto, hfr⟩; exact ⟨hfr, hto⟩)) dX6_becomes_123
      · replace c_21 : ¬ L.length ≤ i := fun h9 => c_21 ((nI_leI (by omega) (by omega)).mpr h9)
        refine lv_sipush (v := nI 3300) hx hb dX6_becomes_24 (by decide) ?_
        refine lv_iload_n hx hb dX6_becomes_27 rfl (lv_at hl 1 rfl) ?_
        refine lv_imul hx hb dX6_becomes_28 ?_
        refine lv_topi (fun x_8 ex_8 => ?_)
        obtain rfl : x_8 = nI (3300 * to_) := by
          rw [ex_8]
          exact pk_mul _ _
        refine lv_iload_n hx hb dX6_becomes_29 rfl (lv_at hl 3 rfl) ?_
        refine lv_iadd hx hb dX6_becomes_30 ?_
        refine lv_topi (fun x_9 ex_9 => ?_)
        obtain rfl : x_9 = nI ((3300 * to_) + i) := by
          rw [ex_9]
          exact nI_add _ _
        refine lv_istore (lv' := [(4, .int (nI ((3300 * to_) + i))), (0, .ref m), (1, .int (nI to_)), (2, .int (nI fr_)), (3, .int (nI i))]) hx hb dX6_becomes_31 hl (by decide) rfl (fun ls hl => ?_)
        refine lv_sipush (v := nI 3300) hx hb dX6_becomes_33 (by decide) ?_
        refine lv_iload_n hx hb dX6_becomes_36 rfl (lv_at hl 3 rfl) ?_
        refine lv_imul hx hb dX6_becomes_37 ?_
        refine lv_topi (fun x_10 ex_10 => ?_)
        obtain rfl : x_10 = nI (3300 * fr_) := by
          rw [ex_10]
          exact pk_mul _ _
        refine lv_iload_n hx hb dX6_becomes_38 rfl (lv_at hl 4 rfl) ?_
        refine lv_iadd hx hb dX6_becomes_39 ?_
        refine lv_topi (fun x_11 ex_11 => ?_)
        obtain rfl : x_11 = nI ((3300 * fr_) + i) := by
          rw [ex_11]
          exact nI_add _ _
        refine lv_istore (lv' := [(5, .int (nI ((3300 * fr_) + i))), (4, .int (nI ((3300 * to_) + i))), (0, .ref m), (1, .int (nI to_)), (2, .int (nI fr_)), (3, .int (nI i))]) hx hb dX6_becomes_40 hl (by decide) rfl (fun ls hl => ?_)
        refine lv_aload_n hx hb dX6_becomes_42 rfl (lv_at hl 2 rfl) ?_
        refine va_get (D := X.1) (ci := 6) (v := .ref xr) (C := RX6) (T := TX6) (N := 25) hx hb hts hin6 hown hK hP 0 rfl rfl 5 (by decide) lk13 (fun _ h9 => h9) rfl dX6_becomes_43 ?_
        refine lv_iload hx hb dX6_becomes_46 (lv_at hl 1 rfl) ?_
        refine lv_aload_n hx hb dX6_becomes_48 rfl (lv_at hl 2 rfl) ?_
        refine va_get (D := X.1) (ci := 6) (v := .ref xr) (C := RX6) (T := TX6) (N := 25) hx hb hts hin6 hown hK hP 0 rfl rfl 5 (by decide) lk13 (fun _ h9 => h9) rfl dX6_becomes_49 ?_
        refine lv_iload hx hb dX6_becomes_52 (lv_at hl 0 rfl) ?_
        have hi_12 : vp_in (nI ((3300 * fr_) + i)) 6600 := vp_in_nI (by omega) (by omega)
        refine va_iald hx hb hK hP 2 0 rfl rfl hi_12 dX6_becomes_54 ?_
        refine lv_topi (fun x_13 ex_13 => ?_)
        obtain rfl : x_13 = (va_cpy xf xf (3300 * fr_) (3300 * to_) i) ((3300 * fr_) + i) := by
          rw [ex_13]
          rw [nI_clamp (by omega)]
        have hi_14 : vp_in (nI ((3300 * to_) + i)) 6600 := vp_in_nI (by omega) (by omega)
        refine va_iast hx hb hK hP hD hS 2 0 rfl rfl hi_14 dX6_becomes_55 (fun H locs hP hD hS => ?_)
        rw [nI_clamp (by omega)] at hP hD
        rw [show upd (va_cpy xf xf (3300 * fr_) (3300 * to_) i) ((3300 * to_) + i) ((va_cpy xf xf (3300 * fr_) (3300 * to_) i) ((3300 * fr_) + i)) = va_cpy xf xf (3300 * fr_) (3300 * to_) (i + 1) from cp_st (by omega)] at hP hD
        have hP : va_P X.1 vwCl [(m, .inr (6, [.int (nI bl), .int (nI bk), .int (nI b), .int (nI sp), .ref mn, .ref xr, .ref yr, .ref vr, .ref cr, .ref wr, .int (nI nc), .int f_of, .int f_ar, .ref wl, .ref wc, .int f_wt, .int f_lv, .int f_fi, .int f_en, .long f_cd, .ref rx, .ref ry, .ref rv, .ref fr, .int f_rs])), (mn, .inl (X.2.1, 2, .inl (upd mf to_ (nI L.length)))), (xr, .inl (X.2.1, 6600, .inl (va_cpy xf xf (3300 * fr_) (3300 * to_) (i + 1)))), (yr, .inl (X.2.1, 6600, .inl (va_cpy yf yf (3300 * fr_) (3300 * to_) i))), (vr, .inl (X.2.1, 6600, .inl (va_cpy vf vf (3300 * fr_) (3300 * to_) i))), (cr, .inl (X.2.2, 6600, .inr (.inl (va_cpy cf cf (3300 * fr_) (3300 * to_) i)))), (wr, .inl (X.2.1, 6600, .inl (va_cpy wf wf (3300 * fr_) (3300 * to_) i)))] H := hP
        have hD : va_D A_ [(m, .inr (6, [.int (nI bl), .int (nI bk), .int (nI b), .int (nI sp), .ref mn, .ref xr, .ref yr, .ref vr, .ref cr, .ref wr, .int (nI nc), .int f_of, .int f_ar, .ref wl, .ref wc, .int f_wt, .int f_lv, .int f_fi, .int f_en, .long f_cd, .ref rx, .ref ry, .ref rv, .ref fr, .int f_rs])), (mn, .inl (X.2.1, 2, .inl (upd mf to_ (nI L.length)))), (xr, .inl (X.2.1, 6600, .inl (va_cpy xf xf (3300 * fr_) (3300 * to_) (i + 1)))), (yr, .inl (X.2.1, 6600, .inl (va_cpy yf yf (3300 * fr_) (3300 * to_) i))), (vr, .inl (X.2.1, 6600, .inl (va_cpy vf vf (3300 * fr_) (3300 * to_) i))), (cr, .inl (X.2.2, 6600, .inr (.inl (va_cpy cf cf (3300 * fr_) (3300 * to_) i)))), (wr, .inl (X.2.1, 6600, .inl (va_cpy wf wf (3300 * fr_) (3300 * to_) i)))] := hD
        refine lv_aload_n hx hb dX6_becomes_56 rfl (lv_at hl 2 rfl) ?_
        refine va_get (D := X.1) (ci := 6) (v := .ref yr) (C := RX6) (T := TX6) (N := 25) hx hb hts hin6 hown hK hP 0 rfl rfl 6 (by decide) lk16 (fun _ h9 => h9) rfl dX6_becomes_57 ?_
        refine lv_iload hx hb dX6_becomes_60 (lv_at hl 1 rfl) ?_
        refine lv_aload_n hx hb dX6_becomes_62 rfl (lv_at hl 2 rfl) ?_
        refine va_get (D := X.1) (ci := 6) (v := .ref yr) (C := RX6) (T := TX6) (N := 25) hx hb hts hin6 hown hK hP 0 rfl rfl 6 (by decide) lk16 (fun _ h9 => h9) rfl dX6_becomes_63 ?_
        refine lv_iload hx hb dX6_becomes_66 (lv_at hl 0 rfl) ?_
        have hi_15 : vp_in (nI ((3300 * fr_) + i)) 6600 := vp_in_nI (by omega) (by omega)
        refine va_iald hx hb hK hP 3 0 rfl rfl hi_15 dX6_becomes_68 ?_
        refine lv_topi (fun x_16 ex_16 => ?_)
        obtain rfl : x_16 = (va_cpy yf yf (3300 * fr_) (3300 * to_) i) ((3300 * fr_) + i) := by
          rw [ex_16]
          rw [nI_clamp (by omega)]
        have hi_17 : vp_in (nI ((3300 * to_) + i)) 6600 := vp_in_nI (by omega) (by omega)
        refine va_iast hx hb hK hP hD hS 3 0 rfl rfl hi_17 dX6_becomes_69 (fun H locs hP hD hS => ?_)
        rw [nI_clamp (by omega)] at hP hD
        rw [show upd (va_cpy yf yf (3300 * fr_) (3300 * to_) i) ((3300 * to_) + i) ((va_cpy yf yf (3300 * fr_) (3300 * to_) i) ((3300 * fr_) + i)) = va_cpy yf yf (3300 * fr_) (3300 * to_) (i + 1) from cp_st (by omega)] at hP hD
        have hP : va_P X.1 vwCl [(m, .inr (6, [.int (nI bl), .int (nI bk), .int (nI b), .int (nI sp), .ref mn, .ref xr, .ref yr, .ref vr, .ref cr, .ref wr, .int (nI nc), .int f_of, .int f_ar, .ref wl, .ref wc, .int f_wt, .int f_lv, .int f_fi, .int f_en, .long f_cd, .ref rx, .ref ry, .ref rv, .ref fr, .int f_rs])), (mn, .inl (X.2.1, 2, .inl (upd mf to_ (nI L.length)))), (xr, .inl (X.2.1, 6600, .inl (va_cpy xf xf (3300 * fr_) (3300 * to_) (i + 1)))), (yr, .inl (X.2.1, 6600, .inl (va_cpy yf yf (3300 * fr_) (3300 * to_) (i + 1)))), (vr, .inl (X.2.1, 6600, .inl (va_cpy vf vf (3300 * fr_) (3300 * to_) i))), (cr, .inl (X.2.2, 6600, .inr (.inl (va_cpy cf cf (3300 * fr_) (3300 * to_) i)))), (wr, .inl (X.2.1, 6600, .inl (va_cpy wf wf (3300 * fr_) (3300 * to_) i)))] H := hP
        have hD : va_D A_ [(m, .inr (6, [.int (nI bl), .int (nI bk), .int (nI b), .int (nI sp), .ref mn, .ref xr, .ref yr, .ref vr, .ref cr, .ref wr, .int (nI nc), .int f_of, .int f_ar, .ref wl, .ref wc, .int f_wt, .int f_lv, .int f_fi, .int f_en, .long f_cd, .ref rx, .ref ry, .ref rv, .ref fr, .int f_rs])), (mn, .inl (X.2.1, 2, .inl (upd mf to_ (nI L.length)))), (xr, .inl (X.2.1, 6600, .inl (va_cpy xf xf (3300 * fr_) (3300 * to_) (i + 1)))), (yr, .inl (X.2.1, 6600, .inl (va_cpy yf yf (3300 * fr_) (3300 * to_) (i + 1)))), (vr, .inl (X.2.1, 6600, .inl (va_cpy vf vf (3300 * fr_) (3300 * to_) i))), (cr, .inl (X.2.2, 6600, .inr (.inl (va_cpy cf cf (3300 * fr_) (3300 * to_) i)))), (wr, .inl (X.2.1, 6600, .inl (va_cpy wf wf (3300 * fr_) (3300 * to_) i)))] := hD
        refine lv_aload_n hx hb dX6_becomes_70 rfl (lv_at hl 2 rfl) ?_
        refine va_get (D := X.1) (ci := 6) (v := .ref vr) (C := RX6) (T := TX6) (N := 25) hx hb hts hin6 hown hK hP 0 rfl rfl 7 (by decide) lk19 (fun _ h9 => h9) rfl dX6_becomes_71 ?_
        refine lv_iload hx hb dX6_becomes_74 (lv_at hl 1 rfl) ?_
        refine lv_aload_n hx hb dX6_becomes_76 rfl (lv_at hl 2 rfl) ?_
        refine va_get (D := X.1) (ci := 6) (v := .ref vr) (C := RX6) (T := TX6) (N := 25) hx hb hts hin6 hown hK hP 0 rfl rfl 7 (by decide) lk19 (fun _ h9 => h9) rfl dX6_becomes_77 ?_
        refine lv_iload hx hb dX6_becomes_80 (lv_at hl 0 rfl) ?_
        have hi_18 : vp_in (nI ((3300 * fr_) + i)) 6600 := vp_in_nI (by omega) (by omega)
        refine va_iald hx hb hK hP 4 0 rfl rfl hi_18 dX6_becomes_82 ?_
        refine lv_topi (fun x_19 ex_19 => ?_)
        obtain rfl : x_19 = (va_cpy vf vf (3300 * fr_) (3300 * to_) i) ((3300 * fr_) + i) := by
          rw [ex_19]
          rw [nI_clamp (by omega)]
        have hi_20 : vp_in (nI ((3300 * to_) + i)) 6600 := vp_in_nI (by omega) (by omega)
        refine va_iast hx hb hK hP hD hS 4 0 rfl rfl hi_20 dX6_becomes_83 (fun H locs hP hD hS => ?_)
        rw [nI_clamp (by omega)] at hP hD
        rw [show upd (va_cpy vf vf (3300 * fr_) (3300 * to_) i) ((3300 * to_) + i) ((va_cpy vf vf (3300 * fr_) (3300 * to_) i) ((3300 * fr_) + i)) = va_cpy vf vf (3300 * fr_) (3300 * to_) (i + 1) from cp_st (by omega)] at hP hD
        have hP : va_P X.1 vwCl [(m, .inr (6, [.int (nI bl), .int (nI bk), .int (nI b), .int (nI sp), .ref mn, .ref xr, .ref yr, .ref vr, .ref cr, .ref wr, .int (nI nc), .int f_of, .int f_ar, .ref wl, .ref wc, .int f_wt, .int f_lv, .int f_fi, .int f_en, .long f_cd, .ref rx, .ref ry, .ref rv, .ref fr, .int f_rs])), (mn, .inl (X.2.1, 2, .inl (upd mf to_ (nI L.length)))), (xr, .inl (X.2.1, 6600, .inl (va_cpy xf xf (3300 * fr_) (3300 * to_) (i + 1)))), (yr, .inl (X.2.1, 6600, .inl (va_cpy yf yf (3300 * fr_) (3300 * to_) (i + 1)))), (vr, .inl (X.2.1, 6600, .inl (va_cpy vf vf (3300 * fr_) (3300 * to_) (i + 1)))), (cr, .inl (X.2.2, 6600, .inr (.inl (va_cpy cf cf (3300 * fr_) (3300 * to_) i)))), (wr, .inl (X.2.1, 6600, .inl (va_cpy wf wf (3300 * fr_) (3300 * to_) i)))] H := hP
        have hD : va_D A_ [(m, .inr (6, [.int (nI bl), .int (nI bk), .int (nI b), .int (nI sp), .ref mn, .ref xr, .ref yr, .ref vr, .ref cr, .ref wr, .int (nI nc), .int f_of, .int f_ar, .ref wl, .ref wc, .int f_wt, .int f_lv, .int f_fi, .int f_en, .long f_cd, .ref rx, .ref ry, .ref rv, .ref fr, .int f_rs])), (mn, .inl (X.2.1, 2, .inl (upd mf to_ (nI L.length)))), (xr, .inl (X.2.1, 6600, .inl (va_cpy xf xf (3300 * fr_) (3300 * to_) (i + 1)))), (yr, .inl (X.2.1, 6600, .inl (va_cpy yf yf (3300 * fr_) (3300 * to_) (i + 1)))), (vr, .inl (X.2.1, 6600, .inl (va_cpy vf vf (3300 * fr_) (3300 * to_) (i + 1)))), (cr, .inl (X.2.2, 6600, .inr (.inl (va_cpy cf cf (3300 * fr_) (3300 * to_) i)))), (wr, .inl (X.2.1, 6600, .inl (va_cpy wf wf (3300 * fr_) (3300 * to_) i)))] := hD
        refine lv_aload_n hx hb dX6_becomes_84 rfl (lv_at hl 2 rfl) ?_
        refine va_get (D := X.1) (ci := 6) (v := .ref cr) (C := RX6) (T := TX6) (N := 25) hx hb hts hin6 hown hK hP 0 rfl rfl 8 (by decide) lk22 (fun _ h9 => h9) rfl dX6_becomes_85 ?_
        refine lv_iload hx hb dX6_becomes_88 (lv_at hl 1 rfl) ?_
        refine lv_aload_n hx hb dX6_becomes_90 rfl (lv_at hl 2 rfl) ?_
        refine va_get (D := X.1) (ci := 6) (v := .ref cr) (C := RX6) (T := TX6) (N := 25) hx hb hts hin6 hown hK hP 0 rfl rfl 8 (by decide) lk22 (fun _ h9 => h9) rfl dX6_becomes_91 ?_
        refine lv_iload hx hb dX6_becomes_94 (lv_at hl 0 rfl) ?_
        have hi_21 : vp_in (nI ((3300 * fr_) + i)) 6600 := vp_in_nI (by omega) (by omega)
        refine va_lald hx hb hK hP 5 1 rfl rfl hi_21 dX6_becomes_96 ?_
        refine lv_topl (fun x_22 ex_22 => ?_)
        obtain rfl : x_22 = (va_cpy cf cf (3300 * fr_) (3300 * to_) i) ((3300 * fr_) + i) := by
          rw [ex_22]
          rw [nI_clamp (by omega)]
        have hi_23 : vp_in (nI ((3300 * to_) + i)) 6600 := vp_in_nI (by omega) (by omega)
        refine va_last hx hb hK hP hD hS 5 1 rfl rfl hi_23 dX6_becomes_97 (fun H locs hP hD hS => ?_)
        rw [nI_clamp (by omega)] at hP hD
        rw [show vp_updL (va_cpy cf cf (3300 * fr_) (3300 * to_) i) ((3300 * to_) + i) ((va_cpy cf cf (3300 * fr_) (3300 * to_) i) ((3300 * fr_) + i)) = va_cpy cf cf (3300 * fr_) (3300 * to_) (i + 1) from cp_stL (by omega)] at hP hD
        have hP : va_P X.1 vwCl [(m, .inr (6, [.int (nI bl), .int (nI bk), .int (nI b), .int (nI sp), .ref mn, .ref xr, .ref yr, .ref vr, .ref cr, .ref wr, .int (nI nc), .int f_of, .int f_ar, .ref wl, .ref wc, .int f_wt, .int f_lv, .int f_fi, .int f_en, .long f_cd, .ref rx, .ref ry, .ref rv, .ref fr, .int f_rs])), (mn, .inl (X.2.1, 2, .inl (upd mf to_ (nI L.length)))), (xr, .inl (X.2.1, 6600, .inl (va_cpy xf xf (3300 * fr_) (3300 * to_) (i + 1)))), (yr, .inl (X.2.1, 6600, .inl (va_cpy yf yf (3300 * fr_) (3300 * to_) (i + 1)))), (vr, .inl (X.2.1, 6600, .inl (va_cpy vf vf (3300 * fr_) (3300 * to_) (i + 1)))), (cr, .inl (X.2.2, 6600, .inr (.inl (va_cpy cf cf (3300 * fr_) (3300 * to_) (i + 1))))), (wr, .inl (X.2.1, 6600, .inl (va_cpy wf wf (3300 * fr_) (3300 * to_) i)))] H := hP
        have hD : va_D A_ [(m, .inr (6, [.int (nI bl), .int (nI bk), .int (nI b), .int (nI sp), .ref mn, .ref xr, .ref yr, .ref vr, .ref cr, .ref wr, .int (nI nc), .int f_of, .int f_ar, .ref wl, .ref wc, .int f_wt, .int f_lv, .int f_fi, .int f_en, .long f_cd, .ref rx, .ref ry, .ref rv, .ref fr, .int f_rs])), (mn, .inl (X.2.1, 2, .inl (upd mf to_ (nI L.length)))), (xr, .inl (X.2.1, 6600, .inl (va_cpy xf xf (3300 * fr_) (3300 * to_) (i + 1)))), (yr, .inl (X.2.1, 6600, .inl (va_cpy yf yf (3300 * fr_) (3300 * to_) (i + 1)))), (vr, .inl (X.2.1, 6600, .inl (va_cpy vf vf (3300 * fr_) (3300 * to_) (i + 1)))), (cr, .inl (X.2.2, 6600, .inr (.inl (va_cpy cf cf (3300 * fr_) (3300 * to_) (i + 1))))), (wr, .inl (X.2.1, 6600, .inl (va_cpy wf wf (3300 * fr_) (3300 * to_) i)))] := hD
        refine lv_aload_n hx hb dX6_becomes_98 rfl (lv_at hl 2 rfl) ?_
        refine va_get (D := X.1) (ci := 6) (v := .ref wr) (C := RX6) (T := TX6) (N := 25) hx hb hts hin6 hown hK hP 0 rfl rfl 9 (by decide) lk26 (fun _ h9 => h9) rfl dX6_becomes_99 ?_
        refine lv_iload hx hb dX6_becomes_102 (lv_at hl 1 rfl) ?_
        refine lv_aload_n hx hb dX6_becomes_104 rfl (lv_at hl 2 rfl) ?_
        refine va_get (D := X.1) (ci := 6) (v := .ref wr) (C := RX6) (T := TX6) (N := 25) hx hb hts hin6 hown hK hP 0 rfl rfl 9 (by decide) lk26 (fun _ h9 => h9) rfl dX6_becomes_105 ?_
        refine lv_iload hx hb dX6_becomes_108 (lv_at hl 0 rfl) ?_
        have hi_24 : vp_in (nI ((3300 * fr_) + i)) 6600 := vp_in_nI (by omega) (by omega)
        refine va_iald hx hb hK hP 6 0 rfl rfl hi_24 dX6_becomes_110 ?_
        refine lv_topi (fun x_25 ex_25 => ?_)
        obtain rfl : x_25 = (va_cpy wf wf (3300 * fr_) (3300 * to_) i) ((3300 * fr_) + i) := by
          rw [ex_25]
          rw [nI_clamp (by omega)]
        have hi_26 : vp_in (nI ((3300 * to_) + i)) 6600 := vp_in_nI (by omega) (by omega)
        refine va_iast hx hb hK hP hD hS 6 0 rfl rfl hi_26 dX6_becomes_111 (fun H locs hP hD hS => ?_)
        rw [nI_clamp (by omega)] at hP hD
        rw [show upd (va_cpy wf wf (3300 * fr_) (3300 * to_) i) ((3300 * to_) + i) ((va_cpy wf wf (3300 * fr_) (3300 * to_) i) ((3300 * fr_) + i)) = va_cpy wf wf (3300 * fr_) (3300 * to_) (i + 1) from cp_st (by omega)] at hP hD
        have hP : va_P X.1 vwCl [(m, .inr (6, [.int (nI bl), .int (nI bk), .int (nI b), .int (nI sp), .ref mn, .ref xr, .ref yr, .ref vr, .ref cr, .ref wr, .int (nI nc), .int f_of, .int f_ar, .ref wl, .ref wc, .int f_wt, .int f_lv, .int f_fi, .int f_en, .long f_cd, .ref rx, .ref ry, .ref rv, .ref fr, .int f_rs])), (mn, .inl (X.2.1, 2, .inl (upd mf to_ (nI L.length)))), (xr, .inl (X.2.1, 6600, .inl (va_cpy xf xf (3300 * fr_) (3300 * to_) (i + 1)))), (yr, .inl (X.2.1, 6600, .inl (va_cpy yf yf (3300 * fr_) (3300 * to_) (i + 1)))), (vr, .inl (X.2.1, 6600, .inl (va_cpy vf vf (3300 * fr_) (3300 * to_) (i + 1)))), (cr, .inl (X.2.2, 6600, .inr (.inl (va_cpy cf cf (3300 * fr_) (3300 * to_) (i + 1))))), (wr, .inl (X.2.1, 6600, .inl (va_cpy wf wf (3300 * fr_) (3300 * to_) (i + 1))))] H := hP
        have hD : va_D A_ [(m, .inr (6, [.int (nI bl), .int (nI bk), .int (nI b), .int (nI sp), .ref mn, .ref xr, .ref yr, .ref vr, .ref cr, .ref wr, .int (nI nc), .int f_of, .int f_ar, .ref wl, .ref wc, .int f_wt, .int f_lv, .int f_fi, .int f_en, .long f_cd, .ref rx, .ref ry, .ref rv, .ref fr, .int f_rs])), (mn, .inl (X.2.1, 2, .inl (upd mf to_ (nI L.length)))), (xr, .inl (X.2.1, 6600, .inl (va_cpy xf xf (3300 * fr_) (3300 * to_) (i + 1)))), (yr, .inl (X.2.1, 6600, .inl (va_cpy yf yf (3300 * fr_) (3300 * to_) (i + 1)))), (vr, .inl (X.2.1, 6600, .inl (va_cpy vf vf (3300 * fr_) (3300 * to_) (i + 1)))), (cr, .inl (X.2.2, 6600, .inr (.inl (va_cpy cf cf (3300 * fr_) (3300 * to_) (i + 1))))), (wr, .inl (X.2.1, 6600, .inl (va_cpy wf wf (3300 * fr_) (3300 * to_) (i + 1))))] := hD
        refine lv_iinc (v := nI (i + 1)) (lv' := [(3, .int (nI (i + 1))), (5, .int (nI ((3300 * fr_) + i))), (4, .int (nI ((3300 * to_) + i))), (0, .ref m), (1, .int (nI to_)), (2, .int (nI fr_))]) hx hb dX6_becomes_112 hl (k := 5) rfl (by rw [show Int32.ofInt 1 = nI 1 from by decide]; exact nI_add _ _) (by decide) rfl (fun ls hl => ?_)
        refine lv_goto (tgt := 14) hx hb dX6_becomes_115 (by decide) ?_
        exact ih14 (i + 1) (by omega) (by omega) _ _ hP hD hS ls (lv_sub hl [3, 4, 5, 0] rfl)
  rw [← cp_0 xf (3300 * fr_) (3300 * to_), ← cp_0 yf (3300 * fr_) (3300 * to_), ← cp_0 vf (3300 * fr_) (3300 * to_), ← cp_0 cf (3300 * fr_) (3300 * to_), ← cp_0 wf (3300 * fr_) (3300 * to_)] at hP hD
  exact loop_14 _ 0 (by omega) (Nat.lt_succ_self _) _ _ hP hD hS ls (lv_sub hl [1, 2, 3, 0] rfl)
