/-! PointStoreModel: node: contracts, laid by program (wip/gen/spec_m7.py) -/
set_option maxHeartbeats 4000000 in
set_option maxRecDepth 100000 in
theorem c_X6_node (l : Launch) (X : kX) (m bl bk b sp mn xr yr vr cr wr nc wl wc rx ry rv fr : Nat) (f_ar f_wt f_lv f_fi f_en f_rs : Int32) (f_cd : Int64) (s_ x y : Int32) (mf xf yf vf wf : Nat → Int32) (cf : Nat → Int64) (lf : Nat → Int32) (kf : Nat → Int64) (P ZP Qm ZQm : PL) (h0 : mSt b mf xf yf vf wf cf 0 P ZP) (h1 : mSt b mf xf yf vf wf cf 1 Qm ZQm) (hb1 : b ≤ 15) (hbk : 1 ≤ bk) (hbk2 : bk ≤ 8) : CWi l X yX6_node wsX6_node 5 [.ref m, .int s_, .int x, .int y] [(m, .inr (6, [.int (nI bl), .int (nI bk), .int (nI b), .int (nI sp), .ref mn, .ref xr, .ref yr, .ref vr, .ref cr, .ref wr, .int (nI nc), .int (nI 0), .int f_ar, .ref wl, .ref wc, .int f_wt, .int f_lv, .int f_fi, .int f_en, .long f_cd, .ref rx, .ref ry, .ref rv, .ref fr, .int f_rs])), (mn, .inl (X.2.1, 2, .inl mf)), (cr, .inl (X.2.2, 6600, .inr (.inl cf))), (wl, .inl (X.2.1, 80, .inl lf)), (wc, .inl (X.2.2, 80, .inr (.inl kf))), (wr, .inl (X.2.1, 6600, .inl wf))] (S := ((Nat → Int32) × (Nat → Int64)) × (Int32 × Int32 × Int32 × Int32 × Int64)) (fun r _ => r = nodV (sel s_ (tr bk b 0 0 P) (tr bk b 0 0 Qm)) x y) (fun ⟨⟨lf2, kf2⟩, ⟨g_wt, g_lv, g_fi, g_en, g_cd⟩⟩ => [(m, .inr (6, [.int (nI bl), .int (nI bk), .int (nI b), .int (nI sp), .ref mn, .ref xr, .ref yr, .ref vr, .ref cr, .ref wr, .int (nI nc), .int (nI 0), .int f_ar, .ref wl, .ref wc, .int g_wt, .int g_lv, .int g_fi, .int g_en, .long g_cd, .ref rx, .ref ry, .ref rv, .ref fr, .int f_rs])), (mn, .inl (X.2.1, 2, .inl mf)), (cr, .inl (X.2.2, 6600, .inr (.inl cf))), (wl, .inl (X.2.1, 80, .inl lf2)), (wc, .inl (X.2.2, 80, .inr (.inl kf2))), (wr, .inl (X.2.1, 6600, .inl wf))]) := by
  refine Met.ofW (cc := cX6_node) (maxL := 6) (ret := some (.int)) (by decide) rfl ?_
  intro pz ez sz mz args below meth cz s₁ Bz hml hv
  obtain ⟨rfl, hP, hK, hD0, hN⟩ := hv
  have hx := Bz.exec
  have hb := Bz.bytes
  have hr := Bz.returns
  have hts := atoms_spec (ws := wsX6_node) Bz.pre
  have hown : sz.vm.findClass RX6 = some mz.cls := findClass_of_methodNamed Bz.named
  have hlocks := Bz.notSynchronized
  have hD := inW.self hD0
  have hS : va_S (inW [(m, .inr (6, [.int (nI bl), .int (nI bk), .int (nI b), .int (nI sp), .ref mn, .ref xr, .ref yr, .ref vr, .ref cr, .ref wr, .int (nI nc), .int (nI 0), .int f_ar, .ref wl, .ref wc, .int f_wt, .int f_lv, .int f_fi, .int f_en, .long f_cd, .ref rx, .ref ry, .ref rv, .ref fr, .int f_rs])), (mn, .inl (X.2.1, 2, .inl mf)), (cr, .inl (X.2.2, 6600, .inr (.inl cf))), (wl, .inl (X.2.1, 80, .inl lf)), (wc, .inl (X.2.2, 80, .inr (.inl kf))), (wr, .inl (X.2.1, 6600, .inl wf))]) sz.heap sz.heap [] := va_S.rf
  have hl := lv_entry ([.ref m, .int s_, .int x, .int y]) (n := 6) (Nat.le_of_ble_eq_true rfl)
  rw [lg_entry_eq]
  generalize (lg_sl ([.ref m, .int s_, .int x, .int y]) ++ List.replicate (6 - (lg_sl ([.ref m, .int s_, .int x, .int y])).length) Slot.unset).toArray = ls at hl ⊢
  have hl : lv_has ls 6 [(0, .ref m), (1, .int s_), (2, .int x), (3, .int y)] := hl
  have lk26 := hts (.fieldLink RX6 26 "PointStoreModel" "codeValues" "[I") (by decide +kernel)
  have lk54 := hts (.fieldLink RX6 54 "PointStoreModel" "bucket" "I") (by decide +kernel)
  have lk57 := hts (.fieldLink RX6 57 "PointStoreModel" "bits" "I") (by decide +kernel)
  have lk77 := hts (.fieldLink RX6 77 "PointStoreModel" "code" "J") (by decide +kernel)
  have lk81 := hts (.fieldLink RX6 81 "PointStoreModel" "level" "I") (by decide +kernel)
  have lk84 := hts (.fieldLink RX6 84 "PointStoreModel" "first" "I") (by decide +kernel)
  have lk91 := hts (.fieldLink RX6 91 "PointStoreModel" "end" "I") (by decide +kernel)
  have lk105 := hts (.fieldLink RX6 105 "PointStoreModel" "isOff" "Z") (by decide +kernel)
  have hin6 : ∀ w ∈ u_ws RX6 TX6 25, w ∈ wsX6_node := by decide +kernel
  refine wQ (fun Q hQ => ?_)
  generalize hAe : inW [(m, .inr (6, [.int (nI bl), .int (nI bk), .int (nI b), .int (nI sp), .ref mn, .ref xr, .ref yr, .ref vr, .ref cr, .ref wr, .int (nI nc), .int (nI 0), .int f_ar, .ref wl, .ref wc, .int f_wt, .int f_lv, .int f_fi, .int f_en, .long f_cd, .ref rx, .ref ry, .ref rv, .ref fr, .int f_rs])), (mn, .inl (X.2.1, 2, .inl mf)), (cr, .inl (X.2.2, 6600, .inr (.inl cf))), (wl, .inl (X.2.1, 80, .inl lf)), (wc, .inl (X.2.2, 80, .inr (.inl kf))), (wr, .inl (X.2.1, 6600, .inl wf))] = A_ at hD hS hQ
  refine lv_aload_n hx hb dX6_node_0 rfl (lv_at hl 0 rfl) ?_
  refine va_get (D := X.1) (ci := 6) (v := .int (nI 0)) (C := RX6) (T := TX6) (N := 25) hx hb hts hin6 hown hK hP 0 rfl rfl 11 (by decide) lk105 (fun _ h9 => h9) rfl dX6_node_1 ?_
  refine lv_if_eq (tgt := 10) hx hb dX6_node_4 (by decide) (fun c_4 => ?_) (fun c_4 => ?_)
  · skip
    rcases sel3 s_ with hs | hs | hs
    · skip
      have hs9 : s_ = nI 0 := hs
      subst hs9
      refine lv_iload_n hx hb dX6_node_10 rfl (lv_at hl 1 rfl) ?_
      refine ckSRi (As := [.int (nI 0)]) (rest := []) [] (c_X6_isState l X (nI 0)) ⟨hx, hb, hml, hown, hts⟩ (va_cwS 1 hts gX6_node_X6_isState rfl rfl rfl (by decide +kernel) ⟨Nat.le_of_ble_eq_true rfl, Nat.le_of_ble_eq_true rfl⟩) hK hN hP hD (by decide) rfl rfl hl.1 rfl (Nat.le_of_ble_eq_true rfl) dX6_node_11 ⟨Nat.zero_le _, Nat.zero_le _⟩ (fun r_1 hc_11 => ?_)
      rcases hc_11 with ⟨hc_11, rfl⟩ | ⟨hc_11, rfl⟩
      · skip
        refine lv_if_eq (tgt := 30) hx hb dX6_node_14 (by decide) (fun c_14 => ?_) (fun c_14 => ?_)
        · exact absurd c_14 (by decide)
        · skip
          refine lv_iload_n hx hb dX6_node_17 rfl (lv_at hl 2 rfl) ?_
          refine lv_if_lt (tgt := 30) hx hb dX6_node_18 (by decide) (fun c_18 => ?_) (fun c_18 => ?_)
          · skip
            refine lv_iconst (v := (-1)) hx hb dX6_node_30 (by decide) ?_
            refine wM hQ ?_
            exact rtI ((lf, kf), (f_wt, f_lv, f_fi, f_en, f_cd)) hx hb hr hlocks hP hS ((by show _ = _; rw [sel_0 (show nI 0 = 0 from rfl)]; show _ = fct _ x y; unfold fct; exact (if_neg (fun z => by first | exact z.1 c_18 | exact z.2.2.1 c_22 | exact c_27 ((lt6 y).mp z.2.2.2))).symm)) dX6_node_31
          · skip
            obtain ⟨kk, hkb, hkk⟩ := nI_of c_18
            have hTl := tr_len_lt (bk := bk) (b := b) h0.L h0.I hb1
            refine lv_iload_n hx hb dX6_node_21 rfl (lv_at hl 3 rfl) ?_
            refine lv_if_lt (tgt := 30) hx hb dX6_node_22 (by decide) (fun c_22 => ?_) (fun c_22 => ?_)
            · skip
              refine lv_iconst (v := (-1)) hx hb dX6_node_30 (by decide) ?_
              refine wM hQ ?_
              exact rtI ((lf, kf), (f_wt, f_lv, f_fi, f_en, f_cd)) hx hb hr hlocks hP hS ((by show _ = _; rw [sel_0 (show nI 0 = 0 from rfl)]; show _ = fct _ x y; unfold fct; exact (if_neg (fun z => by first | exact z.1 c_18 | exact z.2.2.1 c_22 | exact c_27 ((lt6 y).mp z.2.2.2))).symm)) dX6_node_31
            · skip
              refine lv_iload_n hx hb dX6_node_25 rfl (lv_at hl 3 rfl) ?_
              refine lv_iconst (v := nI 5) hx hb dX6_node_26 (by decide) ?_
              refine lv_icmp_le (tgt := 32) hx hb dX6_node_27 (by decide) (fun c_27 => ?_) (fun c_27 => ?_)
              · skip
                refine lv_aload_n hx hb dX6_node_32 rfl (lv_at hl 0 rfl) ?_
                refine ckVv (As := []) (rest := []) 0 [0, 3, 4] (c_X6_begins l X m bl bk b sp mn xr yr vr cr wr nc wl wc rx ry rv fr (nI 0) f_ar f_wt f_lv f_fi f_en f_rs f_cd lf kf) ⟨hx, hb, hml, hown, hts⟩ (cwV 0 hts gX6_node_X6_begins rfl rfl rfl (by decide +kernel) ⟨Nat.le_of_ble_eq_true rfl, Nat.le_of_ble_eq_true rfl⟩) hK hN hP hD hS (by decide) rfl (ci := 6) rfl rfl (fun _ => rfl) rfl hl.1 rfl (Nat.le_of_ble_eq_true rfl) dX6_node_33 ⟨Nat.zero_le _, Nat.zero_le _⟩ (fun u_2 H locs hbe hP hD hS => ?_)
                obtain ⟨lf0, kf0⟩ := u_2
                have hP : va_P X.1 vwCl [(m, .inr (6, [.int (nI bl), .int (nI bk), .int (nI b), .int (nI sp), .ref mn, .ref xr, .ref yr, .ref vr, .ref cr, .ref wr, .int (nI nc), .int (nI 0), .int f_ar, .ref wl, .ref wc, .int (nI 1), .int f_lv, .int f_fi, .int f_en, .long f_cd, .ref rx, .ref ry, .ref rv, .ref fr, .int f_rs])), (mn, .inl (X.2.1, 2, .inl mf)), (cr, .inl (X.2.2, 6600, .inr (.inl cf))), (wl, .inl (X.2.1, 80, .inl lf0)), (wc, .inl (X.2.2, 80, .inr (.inl kf0))), (wr, .inl (X.2.1, 6600, .inl wf))] H := hP
                have hD : va_D A_ [(m, .inr (6, [.int (nI bl), .int (nI bk), .int (nI b), .int (nI sp), .ref mn, .ref xr, .ref yr, .ref vr, .ref cr, .ref wr, .int (nI nc), .int (nI 0), .int f_ar, .ref wl, .ref wc, .int (nI 1), .int f_lv, .int f_fi, .int f_en, .long f_cd, .ref rx, .ref ry, .ref rv, .ref fr, .int f_rs])), (mn, .inl (X.2.1, 2, .inl mf)), (cr, .inl (X.2.2, 6600, .inr (.inl cf))), (wl, .inl (X.2.1, 80, .inl lf0)), (wc, .inl (X.2.2, 80, .inr (.inl kf0))), (wr, .inl (X.2.1, 6600, .inl wf))] := hD
                try dsimp only at hbe
                refine lv_iconst (v := nI 0) hx hb dX6_node_36 (by decide) ?_
                refine lv_istore (lv' := [(4, .int (nI 0)), (0, .ref m), (1, .int (nI 0)), (2, .int x), (3, .int y)]) hx hb dX6_node_37 hl (by decide) rfl (fun ls hl => ?_)
                have loop_39 : ∀ (fu : Nat) (i : Nat) (Ws : List Rg) (lf1 : Nat → Int32) (kf1 : Nat → Int64) (lv1 : Int32) (fi1 : Int32) (en1 : Int32) (cd1 : Int64) (rr : Rg), (wOk b lf1 kf1 Ws) → (rem bk P Ws = (tr bk b 0 0 P).drop i) → (curOk b bk P ZP (tr bk b 0 0 P) i rr lv1 fi1 en1 cd1) → (i ≤ kk + 1) → (i ≤ (tr bk b 0 0 P).length) → kk + 1 - i < fu → ∀ (H : Heap) (locs : List Loc), va_P X.1 vwCl [(m, .inr (6, [.int (nI bl), .int (nI bk), .int (nI b), .int (nI sp), .ref mn, .ref xr, .ref yr, .ref vr, .ref cr, .ref wr, .int (nI nc), .int (nI 0), .int f_ar, .ref wl, .ref wc, .int (nI Ws.length), .int lv1, .int fi1, .int en1, .long cd1, .ref rx, .ref ry, .ref rv, .ref fr, .int f_rs])), (mn, .inl (X.2.1, 2, .inl mf)), (cr, .inl (X.2.2, 6600, .inr (.inl cf))), (wl, .inl (X.2.1, 80, .inl lf1)), (wc, .inl (X.2.2, 80, .inr (.inl kf1))), (wr, .inl (X.2.1, 6600, .inl wf))] H → va_D A_ [(m, .inr (6, [.int (nI bl), .int (nI bk), .int (nI b), .int (nI sp), .ref mn, .ref xr, .ref yr, .ref vr, .ref cr, .ref wr, .int (nI nc), .int (nI 0), .int f_ar, .ref wl, .ref wc, .int (nI Ws.length), .int lv1, .int fi1, .int en1, .long cd1, .ref rx, .ref ry, .ref rv, .ref fr, .int f_rs])), (mn, .inl (X.2.1, 2, .inl mf)), (cr, .inl (X.2.2, 6600, .inr (.inl cf))), (wl, .inl (X.2.1, 80, .inl lf1)), (wc, .inl (X.2.2, 80, .inr (.inl kf1))), (wr, .inl (X.2.1, 6600, .inl wf))] → va_S A_ sz.heap H locs → ∀ (ls : Array Slot), lv_has ls 6 [(0, .ref m), (1, .int (nI 0)), (2, .int x), (3, .int y), (4, .int (nI i))] → W pz l ez (headSpec wsX6_node (rmk 5)).room sz mz ([.ref m, .int (nI 0), .int x, .int y].toArray) below meth cz H locs 0 0 Q (F0 mz 39 ls []) := by
                  intro fu
                  induction fu with
                  | zero => intro i Ws lf1 kf1 lv1 fi1 en1 cd1 rr hwk h2 hcur hi1 hi2 hfu; exact absurd hfu (Nat.not_lt_zero _)
                  | succ fu ih39 =>
                    intro i Ws lf1 kf1 lv1 fi1 en1 cd1 rr hwk h2 hcur hi1 hi2 hfu H locs hP hD hS ls hl
                    refine lv_iload hx hb dX6_node_39 (lv_at hl 4 rfl) ?_
                    refine lv_iload_n hx hb dX6_node_41 rfl (lv_at hl 2 rfl) ?_
                    refine lv_topi (fun x_4 ex_4 => ?_)
                    obtain rfl : x_4 = nI kk := by
                      rw [ex_4]
                      exact hkk
                    refine lv_icmp_gt (tgt := 61) hx hb dX6_node_42 (by decide) (fun c_42 => ?_) (fun c_42 => ?_)
                    · replace c_42 : kk < i := (nI_ltI (by omega) (by omega)).mp c_42
                      obtain rfl : i = kk + 1 := by omega
                      obtain ⟨d, X_, Y_⟩ := rr
                      obtain ⟨hT, hrg, rfl, rfl, rfl, rfl⟩ := hcur.resolve_left (by omega)
                      rw [Nat.add_sub_cancel] at hT
                      have hd : d ≤ b := hrg.1
                      have hrk := reg_rk h0.Z h0.I hrg
                      have hcl : cdR b (d, X_, Y_) + 4 ^ d ≤ 4 ^ b := cdR_lt hrg
                      have h4 : 4 ^ b ≤ 4 ^ 15 := Nat.pow_le_pow_right (by decide) hb1
                      have hrx := rx_lt hrg
                      have hpos4 : 0 < 4 ^ d := Nat.pow_pos (by decide)
                      have hpb : 2 ^ b ≤ 32768 := Nat.pow_le_pow_right (n := 2) (by decide) hb1
                      have hcz := cdz (X := X_) (Y := Y_) hd
                      have hzl : rk ZP (cdR b (d, X_, Y_)) + (flt P d X_ Y_).length ≤ 512 := by
                        have e1 := rk_le ZP (cdR b (d, X_, Y_) + 4 ^ d)
                        rw [hrk, h0.Z.len] at e1
                        have := h0.L.1
                        omega
                      refine lv_iconst (v := nI 0) hx hb dX6_node_61 (by decide) ?_
                      refine lv_istore (lv' := [(4, .int (nI 0)), (0, .ref m), (1, .int (nI 0)), (2, .int x), (3, .int y)]) hx hb dX6_node_62 hl (by decide) rfl (fun ls hl => ?_)
                      refine lv_iload_n hx hb dX6_node_64 rfl (lv_at hl 4 rfl) ?_
                      rcases sw_cases y 5 with h_65 | h_65
                      · refine lv_tableOut (tgt := 259) hx hb dX6_node_65 (by rcases h_65 with h9 | h9; exact Or.inl h9; right; omega) (by decide) ?_
                        refine lv_aload_n hx hb dX6_node_259 rfl (lv_at hl 1 rfl) ?_
                        refine va_get (D := X.1) (ci := 6) (v := .int (nI (rk ZP (cdR b (d, X_, Y_))))) (C := RX6) (T := TX6) (N := 25) hx hb hts hin6 hown hK hP 0 rfl rfl 17 (by decide) lk84 (fun _ h9 => h9) rfl dX6_node_260 ?_
                        refine lv_istore (lv' := [(5, .int (nI (rk ZP (cdR b (d, X_, Y_))))), (4, .int (nI 0)), (0, .ref m), (1, .int (nI 0)), (2, .int x), (3, .int y)]) hx hb dX6_node_263 hl (by decide) rfl (fun ls hl => ?_)
                        have loop_265 : ∀ (fu : Nat) (ii : Nat) (vs_ : Nat), (rk ZP (cdR b (d, X_, Y_)) ≤ ii) → (ii ≤ rk ZP (cdR b (d, X_, Y_) + 4 ^ d)) → (vs_ + low (ZP.take (rk ZP (cdR b (d, X_, Y_)))) = low (ZP.take ii)) → rk ZP (cdR b (d, X_, Y_) + 4 ^ d) - ii < fu → ∀ (ls : Array Slot), lv_has ls 6 [(0, .ref m), (1, .int (nI 0)), (4, .int (nI vs_)), (5, .int (nI ii))] → W pz l ez (headSpec wsX6_node (rmk 5)).room sz mz ([.ref m, .int (nI 0), .int x, .int y].toArray) below meth cz H locs 0 0 Q (F0 mz 265 ls []) := by
                          intro fu
                          induction fu with
                          | zero => intro ii vs_ hi3 hi4 hsv hfu; exact absurd hfu (Nat.not_lt_zero _)
                          | succ fu ih265 =>
                            intro ii vs_ hi3 hi4 hsv hfu ls hl
                            refine lv_iload hx hb dX6_node_265 (lv_at hl 3 rfl) ?_
                            refine lv_aload_n hx hb dX6_node_267 rfl (lv_at hl 0 rfl) ?_
                            refine va_get (D := X.1) (ci := 6) (v := .int (nI (rk ZP (cdR b (d, X_, Y_) + 4 ^ d)))) (C := RX6) (T := TX6) (N := 25) hx hb hts hin6 hown hK hP 0 rfl rfl 18 (by decide) lk91 (fun _ h9 => h9) rfl dX6_node_268 ?_
                            refine lv_icmp_ge (tgt := 301) hx hb dX6_node_271 (by decide) (fun c_271 => ?_) (fun c_271 => ?_)
                            · replace c_271 : (rk ZP (cdR b (d, X_, Y_) + 4 ^ d)) ≤ ii := (nI_leI (by omega) (by omega)).mp c_271
                              refine lv_iload hx hb dX6_node_301 (lv_at hl 2 rfl) ?_
                              have hrl9 := reg_low h0.Z h0.I hrg
                              rw [← show ii = rk ZP (cdR b (d, X_, Y_) + 4 ^ d) from by omega] at hrl9
                              refine wM hQ ?_
                              exact rtI ((lf1, kf1), (nI Ws.length, nI (b - d), nI (rk ZP (cdR b (d, X_, Y_))), nI (rk ZP (cdR b (d, X_, Y_) + 4 ^ d)), lN (cdR b (d, X_, Y_)))) hx hb hr hlocks hP hS ((by show _ = _; rw [sel_0 (show nI 0 = 0 from rfl)]; show _ = fct _ x y; rw [hkk, w5 c_22 c_27 h_65, fct_at hT (by decide) hTl]; show nI vs_ = nI (low (flt P d X_ Y_)); congr 1; omega)) dX6_node_303
                            · replace c_271 : ¬ (rk ZP (cdR b (d, X_, Y_) + 4 ^ d)) ≤ ii := fun h9 => c_271 ((nI_leI (by omega) (by omega)).mpr h9)
                              have hiz : ii < ZP.length := Nat.lt_of_lt_of_le (show ii < rk ZP (cdR b (d, X_, Y_) + 4 ^ d) by omega) (rk_le _ _)
                              have hvz := zvb h0.Z h0.L hiz
                              have hz51 : ZP.length ≤ 512 := by rw [h0.Z.len]; exact h0.L.1
                              refine lv_iload hx hb dX6_node_274 (lv_at hl 2 rfl) ?_
                              refine lv_aload_n hx hb dX6_node_276 rfl (lv_at hl 0 rfl) ?_
                              refine va_get (D := X.1) (ci := 6) (v := .ref wr) (C := RX6) (T := TX6) (N := 25) hx hb hts hin6 hown hK hP 0 rfl rfl 9 (by decide) lk26 (fun _ h9 => h9) rfl dX6_node_277 ?_
                              refine lv_sipush (v := nI 3300) hx hb dX6_node_280 (by decide) ?_
                              refine lv_iload_n hx hb dX6_node_283 rfl (lv_at hl 1 rfl) ?_
                              refine lv_imul hx hb dX6_node_284 ?_
                              refine lv_topi (fun x_5 ex_5 => ?_)
                              obtain rfl : x_5 = nI (3300 * 0) := by
                                rw [ex_5]
                                exact pk_mul _ _
                              refine lv_iload hx hb dX6_node_285 (lv_at hl 3 rfl) ?_
                              refine lv_iadd hx hb dX6_node_287 ?_
                              refine lv_topi (fun x_6 ex_6 => ?_)
                              obtain rfl : x_6 = nI ((3300 * 0) + ii) := by
                                rw [ex_6]
                                exact nI_add _ _
                              have hi_7 : vp_in (nI ((3300 * 0) + ii)) 6600 := vp_in_nI (by omega) (by omega)
                              refine va_iald hx hb hK hP 5 0 rfl rfl hi_7 dX6_node_288 ?_
                              refine lv_topi (fun x_8 ex_8 => ?_)
                              obtain rfl : x_8 = wf ((3300 * 0) + ii) := by
                                rw [ex_8]
                                rw [nI_clamp (by omega)]
                              refine lv_topi (fun x_9 ex_9 => ?_)
                              obtain rfl : x_9 = nI (pV ZP ii) := by
                                rw [ex_9]
                                exact h0.W ii (by omega)
                              refine lv_ldc (v := 65535) hx hb hown (hts (.constant RX6 112 (65535)) (by decide +kernel)) dX6_node_289 ?_
                              refine lv_topi (fun x_10 ex_10 => ?_)
                              obtain rfl : x_10 = nI 65535 := by
                                rw [ex_10]
                                rfl
                              refine lv_iand hx hb dX6_node_291 ?_
                              refine lv_topi (fun x_11 ex_11 => ?_)
                              obtain rfl : x_11 = nI (pV ZP ii % 65536) := by
                                rw [ex_11]
                                exact pk_andN (by omega) 16 (by decide)
                              refine lv_iadd hx hb dX6_node_292 ?_
                              refine lv_topi (fun x_12 ex_12 => ?_)
                              obtain rfl : x_12 = nI (vs_ + (pV ZP ii % 65536)) := by
                                rw [ex_12]
                                exact nI_add _ _
                              refine lv_istore (lv' := [(4, .int (nI (vs_ + (pV ZP ii % 65536)))), (0, .ref m), (1, .int (nI 0)), (5, .int (nI ii))]) hx hb dX6_node_293 hl (by decide) rfl (fun ls hl => ?_)
                              refine lv_iinc (v := nI (ii + 1)) (lv' := [(5, .int (nI (ii + 1))), (4, .int (nI (vs_ + (pV ZP ii % 65536)))), (0, .ref m), (1, .int (nI 0))]) hx hb dX6_node_295 hl (k := 3) rfl (by rw [show Int32.ofInt 1 = nI 1 from by decide]; exact nI_add _ _) (by decide) rfl (fun ls hl => ?_)
                              refine lv_goto (tgt := 265) hx hb dX6_node_298 (by decide) ?_
                              exact ih265 (ii + 1) (vs_ + pV ZP ii % 65536) (by omega) (by omega) (by rw [low_tk (by omega)]; omega) (by omega) ls (lv_sub hl [2, 3, 1, 0] rfl)
                        exact loop_265 _ (rk ZP (cdR b (d, X_, Y_))) 0 (by omega) (by omega) (by omega) (Nat.lt_succ_self _) ls (lv_sub hl [2, 3, 1, 0] rfl)
                      · obtain ⟨j_65, hj_65, rfl⟩ := h_65
                        rcases sw_lt5 hj_65 with rfl | rfl | rfl | rfl | rfl
                        · refine lv_tableIn (tgt := 100) hx hb dX6_node_65 (by decide) (by decide) rfl (by decide) ?_
                          refine lv_iconst (v := nI 1) hx hb dX6_node_100 (by decide) ?_
                          refine lv_aload_n hx hb dX6_node_101 rfl (lv_at hl 1 rfl) ?_
                          refine va_get (D := X.1) (ci := 6) (v := .int (nI b)) (C := RX6) (T := TX6) (N := 25) hx hb hts hin6 hown hK hP 0 rfl rfl 2 (by decide) lk57 (fun _ h9 => h9) rfl dX6_node_102 ?_
                          refine lv_aload_n hx hb dX6_node_105 rfl (lv_at hl 1 rfl) ?_
                          refine va_get (D := X.1) (ci := 6) (v := .int (nI (b - d))) (C := RX6) (T := TX6) (N := 25) hx hb hts hin6 hown hK hP 0 rfl rfl 16 (by decide) lk81 (fun _ h9 => h9) rfl dX6_node_106 ?_
                          refine lv_isub hx hb dX6_node_109 ?_
                          refine lv_topi (fun x_13 ex_13 => ?_)
                          obtain rfl : x_13 = nI d := by
                            rw [ex_13]
                            rw [pk_sub (by omega)]
                            congr 1
                            omega
                          refine lv_ishl hx hb dX6_node_110 ?_
                          refine lv_topi (fun x_14 ex_14 => ?_)
                          obtain rfl : x_14 = nI (2 ^ d) := by
                            rw [ex_14]
                            exact bI_1shl (by omega)
                          refine wM hQ ?_
                          exact rtI ((lf1, kf1), (nI Ws.length, nI (b - d), nI (rk ZP (cdR b (d, X_, Y_))), nI (rk ZP (cdR b (d, X_, Y_) + 4 ^ d)), lN (cdR b (d, X_, Y_)))) hx hb hr hlocks hP hS ((by show _ = _; rw [sel_0 (show nI 0 = 0 from rfl)]; show _ = fct _ x (nI 0); rw [hkk, fct_at hT (by decide) hTl]; show _ = nI (2 ^ d); rfl)) dX6_node_111
                        · refine lv_tableIn (tgt := 112) hx hb dX6_node_65 (by decide) (by decide) rfl (by decide) ?_
                          refine lv_iconst (v := nI 0) hx hb dX6_node_112 (by decide) ?_
                          refine lv_istore (lv' := [(5, .int (nI 0)), (4, .int (nI 0)), (0, .ref m), (1, .int (nI 0)), (2, .int x), (3, .int (nI 1))]) hx hb dX6_node_113 hl (by decide) rfl (fun ls hl => ?_)
                          have loop_115 : ∀ (fu : Nat) (jj : Nat), (jj ≤ b) → b - jj < fu → ∀ (ls : Array Slot), lv_has ls 6 [(0, .ref m), (1, .int (nI 0)), (4, .int (nI ((X_ * 2 ^ d) % 2 ^ jj))), (5, .int (nI jj))] → W pz l ez (headSpec wsX6_node (rmk 5)).room sz mz ([.ref m, .int (nI 0), .int x, .int (nI 1)].toArray) below meth cz H locs 0 0 Q (F0 mz 115 ls []) := by
                            intro fu
                            induction fu with
                            | zero => intro jj hj hfu; exact absurd hfu (Nat.not_lt_zero _)
                            | succ fu ih115 =>
                              intro jj hj hfu ls hl
                              refine lv_iload hx hb dX6_node_115 (lv_at hl 3 rfl) ?_
                              refine lv_aload_n hx hb dX6_node_117 rfl (lv_at hl 0 rfl) ?_
                              refine va_get (D := X.1) (ci := 6) (v := .int (nI b)) (C := RX6) (T := TX6) (N := 25) hx hb hts hin6 hown hK hP 0 rfl rfl 2 (by decide) lk57 (fun _ h9 => h9) rfl dX6_node_118 ?_
                              refine lv_icmp_ge (tgt := 150) hx hb dX6_node_121 (by decide) (fun c_121 => ?_) (fun c_121 => ?_)
                              · replace c_121 : b ≤ jj := (nI_leI (by omega) (by omega)).mp c_121
                                refine lv_iload hx hb dX6_node_150 (lv_at hl 2 rfl) ?_
                                refine wM hQ ?_
                                exact rtI ((lf1, kf1), (nI Ws.length, nI (b - d), nI (rk ZP (cdR b (d, X_, Y_))), nI (rk ZP (cdR b (d, X_, Y_) + 4 ^ d)), lN (cdR b (d, X_, Y_)))) hx hb hr hlocks hP hS ((by show _ = _; rw [sel_0 (show nI 0 = 0 from rfl)]; show _ = fct _ x (nI 1); rw [hkk, fct_at hT (by decide) hTl]; show _ = nI (X_ * 2 ^ d); rw [show jj = b from by omega, Nat.mod_eq_of_lt hrx.1])) dX6_node_152
                              · replace c_121 : ¬ b ≤ jj := fun h9 => c_121 ((nI_leI (by omega) (by omega)).mpr h9)
                                refine lv_iload hx hb dX6_node_124 (lv_at hl 2 rfl) ?_
                                refine lv_aload_n hx hb dX6_node_126 rfl (lv_at hl 0 rfl) ?_
                                refine va_get (D := X.1) (ci := 6) (v := .long (lN (cdR b (d, X_, Y_)))) (C := RX6) (T := TX6) (N := 25) hx hb hts hin6 hown hK hP 0 rfl rfl 19 (by decide) lk77 (fun _ h9 => h9) rfl dX6_node_127 ?_
                                refine lv_iconst (v := nI 2) hx hb dX6_node_130 (by decide) ?_
                                refine lv_iload hx hb dX6_node_131 (lv_at hl 3 rfl) ?_
                                refine lv_imul hx hb dX6_node_133 ?_
                                refine lv_topi (fun x_15 ex_15 => ?_)
                                obtain rfl : x_15 = nI (2 * jj) := by
                                  rw [ex_15]
                                  exact pk_mul _ _
                                refine lv_lshr (v := (lN (cdR b (d, X_, Y_))) >>> ((nI (2 * jj)).toInt64 &&& 63)) hx hb dX6_node_134 rfl ?_
                                refine lv_topl (fun x_16 ex_16 => ?_)
                                obtain rfl : x_16 = lN (zc b (X_ * 2 ^ d) (Y_ * 2 ^ d) / 4 ^ jj) := by
                                  rw [ex_16]
                                  rw [shr_l (by omega) (by omega), p4, hcz]
                                refine lv_lconst (v := lN 1) hx hb dX6_node_135 (by decide) ?_
                                refine lv_land hx hb dX6_node_136 ?_
                                refine lv_topl (fun x_17 ex_17 => ?_)
                                obtain rfl : x_17 = lN ((X_ * 2 ^ d) / 2 ^ jj % 2) := by
                                  rw [ex_17]
                                  exact (wb_mask (k := 1) (Nat.lt_of_le_of_lt (Nat.div_le_self _ _) (by rw [← hcz]; omega)) (by decide)).trans (by rw [Nat.pow_one, zbx (by omega)])
                                refine lv_l2i (v := nI ((X_ * 2 ^ d) / 2 ^ jj % 2)) hx hb dX6_node_137 (lN_i _) ?_
                                refine lv_iload hx hb dX6_node_138 (lv_at hl 3 rfl) ?_
                                refine lv_ishl hx hb dX6_node_140 ?_
                                refine lv_topi (fun x_18 ex_18 => ?_)
                                obtain rfl : x_18 = nI ((X_ * 2 ^ d) / 2 ^ jj % 2 * 2 ^ jj) := by
                                  rw [ex_18]
                                  exact pk_shlN _ jj (s_l jj (by omega)) (bit_lt (by omega))
                                refine lv_ior hx hb dX6_node_141 ?_
                                refine lv_topi (fun x_19 ex_19 => ?_)
                                obtain rfl : x_19 = nI ((X_ * 2 ^ d) % 2 ^ (jj + 1)) := by
                                  rw [ex_19]
                                  exact or_bit
                                refine lv_istore (lv' := [(4, .int (nI ((X_ * 2 ^ d) % 2 ^ (jj + 1)))), (0, .ref m), (1, .int (nI 0)), (5, .int (nI jj))]) hx hb dX6_node_142 hl (by decide) rfl (fun ls hl => ?_)
                                refine lv_iinc (v := nI (jj + 1)) (lv' := [(5, .int (nI (jj + 1))), (4, .int (nI ((X_ * 2 ^ d) % 2 ^ (jj + 1)))), (0, .ref m), (1, .int (nI 0))]) hx hb dX6_node_144 hl (k := 3) rfl (by rw [show Int32.ofInt 1 = nI 1 from by decide]; exact nI_add _ _) (by decide) rfl (fun ls hl => ?_)
                                refine lv_goto (tgt := 115) hx hb dX6_node_147 (by decide) ?_
                                exact ih115 (jj + 1) (by omega) (by omega) ls (lv_sub hl [2, 3, 1, 0] rfl)
                          have hl : lv_has ls 6 [(5, .int (nI 0)), (4, .int (nI ((X_ * 2 ^ d) % 2 ^ 0))), (0, .ref m), (1, .int (nI 0)), (2, .int x), (3, .int (nI 1))] := by
                            rw [Nat.pow_zero, Nat.mod_one]
                            exact hl
                          exact loop_115 _ 0 (by omega) (Nat.lt_succ_self _) ls (lv_sub hl [2, 3, 1, 0] rfl)
                        · refine lv_tableIn (tgt := 153) hx hb dX6_node_65 (by decide) (by decide) rfl (by decide) ?_
                          refine lv_iconst (v := nI 0) hx hb dX6_node_153 (by decide) ?_
                          refine lv_istore (lv' := [(5, .int (nI 0)), (4, .int (nI 0)), (0, .ref m), (1, .int (nI 0)), (2, .int x), (3, .int (nI 2))]) hx hb dX6_node_154 hl (by decide) rfl (fun ls hl => ?_)
                          have loop_156 : ∀ (fu : Nat) (jj : Nat), (jj ≤ b) → b - jj < fu → ∀ (ls : Array Slot), lv_has ls 6 [(0, .ref m), (1, .int (nI 0)), (4, .int (nI ((Y_ * 2 ^ d) % 2 ^ jj))), (5, .int (nI jj))] → W pz l ez (headSpec wsX6_node (rmk 5)).room sz mz ([.ref m, .int (nI 0), .int x, .int (nI 2)].toArray) below meth cz H locs 0 0 Q (F0 mz 156 ls []) := by
                            intro fu
                            induction fu with
                            | zero => intro jj hj hfu; exact absurd hfu (Nat.not_lt_zero _)
                            | succ fu ih156 =>
                              intro jj hj hfu ls hl
                              refine lv_iload hx hb dX6_node_156 (lv_at hl 3 rfl) ?_
                              refine lv_aload_n hx hb dX6_node_158 rfl (lv_at hl 0 rfl) ?_
                              refine va_get (D := X.1) (ci := 6) (v := .int (nI b)) (C := RX6) (T := TX6) (N := 25) hx hb hts hin6 hown hK hP 0 rfl rfl 2 (by decide) lk57 (fun _ h9 => h9) rfl dX6_node_159 ?_
                              refine lv_icmp_ge (tgt := 193) hx hb dX6_node_162 (by decide) (fun c_162 => ?_) (fun c_162 => ?_)
                              · replace c_162 : b ≤ jj := (nI_leI (by omega) (by omega)).mp c_162
                                refine lv_iload hx hb dX6_node_193 (lv_at hl 2 rfl) ?_
                                refine wM hQ ?_
                                exact rtI ((lf1, kf1), (nI Ws.length, nI (b - d), nI (rk ZP (cdR b (d, X_, Y_))), nI (rk ZP (cdR b (d, X_, Y_) + 4 ^ d)), lN (cdR b (d, X_, Y_)))) hx hb hr hlocks hP hS ((by show _ = _; rw [sel_0 (show nI 0 = 0 from rfl)]; show _ = fct _ x (nI 2); rw [hkk, fct_at hT (by decide) hTl]; show _ = nI (Y_ * 2 ^ d); rw [show jj = b from by omega, Nat.mod_eq_of_lt hrx.2])) dX6_node_195
                              · replace c_162 : ¬ b ≤ jj := fun h9 => c_162 ((nI_leI (by omega) (by omega)).mpr h9)
                                refine lv_iload hx hb dX6_node_165 (lv_at hl 2 rfl) ?_
                                refine lv_aload_n hx hb dX6_node_167 rfl (lv_at hl 0 rfl) ?_
                                refine va_get (D := X.1) (ci := 6) (v := .long (lN (cdR b (d, X_, Y_)))) (C := RX6) (T := TX6) (N := 25) hx hb hts hin6 hown hK hP 0 rfl rfl 19 (by decide) lk77 (fun _ h9 => h9) rfl dX6_node_168 ?_
                                refine lv_iconst (v := nI 2) hx hb dX6_node_171 (by decide) ?_
                                refine lv_iload hx hb dX6_node_172 (lv_at hl 3 rfl) ?_
                                refine lv_imul hx hb dX6_node_174 ?_
                                refine lv_topi (fun x_20 ex_20 => ?_)
                                obtain rfl : x_20 = nI (2 * jj) := by
                                  rw [ex_20]
                                  exact pk_mul _ _
                                refine lv_iconst (v := nI 1) hx hb dX6_node_175 (by decide) ?_
                                refine lv_iadd hx hb dX6_node_176 ?_
                                refine lv_topi (fun x_21 ex_21 => ?_)
                                obtain rfl : x_21 = nI ((2 * jj) + 1) := by
                                  rw [ex_21]
                                  exact nI_add _ _
                                refine lv_lshr (v := (lN (cdR b (d, X_, Y_))) >>> ((nI ((2 * jj) + 1)).toInt64 &&& 63)) hx hb dX6_node_177 rfl ?_
                                refine lv_topl (fun x_22 ex_22 => ?_)
                                obtain rfl : x_22 = lN (zc b (X_ * 2 ^ d) (Y_ * 2 ^ d) / 4 ^ jj / 2) := by
                                  rw [ex_22]
                                  rw [shr_l (by omega) (by omega), Nat.pow_succ, p4, ← Nat.div_div_eq_div_mul, hcz]
                                refine lv_lconst (v := lN 1) hx hb dX6_node_178 (by decide) ?_
                                refine lv_land hx hb dX6_node_179 ?_
                                refine lv_topl (fun x_23 ex_23 => ?_)
                                obtain rfl : x_23 = lN ((Y_ * 2 ^ d) / 2 ^ jj % 2) := by
                                  rw [ex_23]
                                  exact (wb_mask (k := 1) (Nat.lt_of_le_of_lt (Nat.div_le_self _ _) (Nat.lt_of_le_of_lt (Nat.div_le_self _ _) (by rw [← hcz]; omega))) (by decide)).trans (by rw [Nat.pow_one, zby (by omega)])
                                refine lv_l2i (v := nI ((Y_ * 2 ^ d) / 2 ^ jj % 2)) hx hb dX6_node_180 (lN_i _) ?_
                                refine lv_iload hx hb dX6_node_181 (lv_at hl 3 rfl) ?_
                                refine lv_ishl hx hb dX6_node_183 ?_
                                refine lv_topi (fun x_24 ex_24 => ?_)
                                obtain rfl : x_24 = nI ((Y_ * 2 ^ d) / 2 ^ jj % 2 * 2 ^ jj) := by
                                  rw [ex_24]
                                  exact pk_shlN _ jj (s_l jj (by omega)) (bit_lt (by omega))
                                refine lv_ior hx hb dX6_node_184 ?_
                                refine lv_topi (fun x_25 ex_25 => ?_)
                                obtain rfl : x_25 = nI ((Y_ * 2 ^ d) % 2 ^ (jj + 1)) := by
                                  rw [ex_25]
                                  exact or_bit
                                refine lv_istore (lv' := [(4, .int (nI ((Y_ * 2 ^ d) % 2 ^ (jj + 1)))), (0, .ref m), (1, .int (nI 0)), (5, .int (nI jj))]) hx hb dX6_node_185 hl (by decide) rfl (fun ls hl => ?_)
                                refine lv_iinc (v := nI (jj + 1)) (lv' := [(5, .int (nI (jj + 1))), (4, .int (nI ((Y_ * 2 ^ d) % 2 ^ (jj + 1)))), (0, .ref m), (1, .int (nI 0))]) hx hb dX6_node_187 hl (k := 3) rfl (by rw [show Int32.ofInt 1 = nI 1 from by decide]; exact nI_add _ _) (by decide) rfl (fun ls hl => ?_)
                                refine lv_goto (tgt := 156) hx hb dX6_node_190 (by decide) ?_
                                exact ih156 (jj + 1) (by omega) (by omega) ls (lv_sub hl [2, 3, 1, 0] rfl)
                          have hl : lv_has ls 6 [(5, .int (nI 0)), (4, .int (nI ((Y_ * 2 ^ d) % 2 ^ 0))), (0, .ref m), (1, .int (nI 0)), (2, .int x), (3, .int (nI 2))] := by
                            rw [Nat.pow_zero, Nat.mod_one]
                            exact hl
                          exact loop_156 _ 0 (by omega) (Nat.lt_succ_self _) ls (lv_sub hl [2, 3, 1, 0] rfl)
                        · refine lv_tableIn (tgt := 196) hx hb dX6_node_65 (by decide) (by decide) rfl (by decide) ?_
                          refine lv_aload_n hx hb dX6_node_196 rfl (lv_at hl 1 rfl) ?_
                          refine va_get (D := X.1) (ci := 6) (v := .int (nI (rk ZP (cdR b (d, X_, Y_) + 4 ^ d)))) (C := RX6) (T := TX6) (N := 25) hx hb hts hin6 hown hK hP 0 rfl rfl 18 (by decide) lk91 (fun _ h9 => h9) rfl dX6_node_197 ?_
                          refine lv_aload_n hx hb dX6_node_200 rfl (lv_at hl 1 rfl) ?_
                          refine va_get (D := X.1) (ci := 6) (v := .int (nI (rk ZP (cdR b (d, X_, Y_))))) (C := RX6) (T := TX6) (N := 25) hx hb hts hin6 hown hK hP 0 rfl rfl 17 (by decide) lk84 (fun _ h9 => h9) rfl dX6_node_201 ?_
                          refine lv_isub hx hb dX6_node_204 ?_
                          refine lv_topi (fun x_26 ex_26 => ?_)
                          obtain rfl : x_26 = nI ((flt P d X_ Y_).length) := by
                            rw [ex_26]
                            rw [hrk, pk_sub (by omega)]
                            congr 1
                            omega
                          refine wM hQ ?_
                          exact rtI ((lf1, kf1), (nI Ws.length, nI (b - d), nI (rk ZP (cdR b (d, X_, Y_))), nI (rk ZP (cdR b (d, X_, Y_) + 4 ^ d)), lN (cdR b (d, X_, Y_)))) hx hb hr hlocks hP hS ((by show _ = _; rw [sel_0 (show nI 0 = 0 from rfl)]; show _ = fct _ x (nI 3); rw [hkk, fct_at hT (by decide) hTl]; rfl)) dX6_node_205
                        · refine lv_tableIn (tgt := 206) hx hb dX6_node_65 (by decide) (by decide) rfl (by decide) ?_
                          refine lv_iconst (v := nI 0) hx hb dX6_node_206 (by decide) ?_
                          refine lv_istore (lv' := [(5, .int (nI 0)), (4, .int (nI 0)), (0, .ref m), (1, .int (nI 0)), (2, .int x), (3, .int (nI 4))]) hx hb dX6_node_207 hl (by decide) rfl (fun ls hl => ?_)
                          have loop_209 : ∀ (fu : Nat) (qq : Nat) (vm : Nat), (qq ≤ 4) → (((flt P d X_ Y_).length ≤ bk ∧ vm = 0) ∨ (¬ (flt P d X_ Y_).length ≤ bk ∧ vm = msk (X_ * 2 ^ d) (Y_ * 2 ^ d) (2 ^ (d - 1)) (flt P d X_ Y_) qq)) → 4 - qq < fu → ∀ (ls : Array Slot), lv_has ls 6 [(0, .ref m), (1, .int (nI 0)), (4, .int (nI vm)), (5, .int (nI qq))] → W pz l ez (headSpec wsX6_node (rmk 5)).room sz mz ([.ref m, .int (nI 0), .int x, .int (nI 4)].toArray) below meth cz H locs 0 0 Q (F0 mz 209 ls []) := by
                            intro fu
                            induction fu with
                            | zero => intro qq vm hq4 hvm hfu; exact absurd hfu (Nat.not_lt_zero _)
                            | succ fu ih209 =>
                              intro qq vm hq4 hvm hfu ls hl
                              refine lv_iload hx hb dX6_node_209 (lv_at hl 3 rfl) ?_
                              refine lv_iconst (v := nI 4) hx hb dX6_node_211 (by decide) ?_
                              refine lv_icmp_ge (tgt := 256) hx hb dX6_node_212 (by decide) (fun c_212 => ?_) (fun c_212 => ?_)
                              · replace c_212 : 4 ≤ qq := (nI_leI (by omega) (by omega)).mp c_212
                                refine lv_iload hx hb dX6_node_256 (lv_at hl 2 rfl) ?_
                                have hv9 : vm = (if (flt P d X_ Y_).length ≤ bk then 0 else msk (X_ * 2 ^ d) (Y_ * 2 ^ d) (2 ^ (d - 1)) (flt P d X_ Y_) 4) := by
                                  by_cases hle : (flt P d X_ Y_).length ≤ bk
                                  · rw [if_pos hle]; rcases hvm with ⟨z1, z2⟩ | ⟨z1, z2⟩ <;> omega
                                  · rw [if_neg hle]; rcases hvm with ⟨z1, z2⟩ | ⟨z1, z2⟩
                                    · omega
                                    · rw [z2, show qq = 4 from by omega]
                                refine wM hQ ?_
                                exact rtI ((lf1, kf1), (nI Ws.length, nI (b - d), nI (rk ZP (cdR b (d, X_, Y_))), nI (rk ZP (cdR b (d, X_, Y_) + 4 ^ d)), lN (cdR b (d, X_, Y_)))) hx hb hr hlocks hP hS ((by show _ = _; rw [sel_0 (show nI 0 = 0 from rfl)]; show _ = fct _ x (nI 4); rw [hkk, fct_at hT (by decide) hTl]; show nI vm = nI (if (flt P d X_ Y_).length ≤ bk then 0 else msk (X_ * 2 ^ d) (Y_ * 2 ^ d) (2 ^ (d - 1)) (flt P d X_ Y_) 4); rw [← hv9])) dX6_node_258
                              · replace c_212 : ¬ 4 ≤ qq := fun h9 => c_212 ((nI_leI (by omega) (by omega)).mpr h9)
                                refine lv_aload_n hx hb dX6_node_215 rfl (lv_at hl 0 rfl) ?_
                                refine va_get (D := X.1) (ci := 6) (v := .int (nI (rk ZP (cdR b (d, X_, Y_) + 4 ^ d)))) (C := RX6) (T := TX6) (N := 25) hx hb hts hin6 hown hK hP 0 rfl rfl 18 (by decide) lk91 (fun _ h9 => h9) rfl dX6_node_216 ?_
                                refine lv_aload_n hx hb dX6_node_219 rfl (lv_at hl 0 rfl) ?_
                                refine va_get (D := X.1) (ci := 6) (v := .int (nI (rk ZP (cdR b (d, X_, Y_))))) (C := RX6) (T := TX6) (N := 25) hx hb hts hin6 hown hK hP 0 rfl rfl 17 (by decide) lk84 (fun _ h9 => h9) rfl dX6_node_220 ?_
                                refine lv_isub hx hb dX6_node_223 ?_
                                refine lv_topi (fun x_27 ex_27 => ?_)
                                obtain rfl : x_27 = nI ((flt P d X_ Y_).length) := by
                                  rw [ex_27]
                                  rw [hrk, pk_sub (by omega)]
                                  congr 1
                                  omega
                                refine lv_aload_n hx hb dX6_node_224 rfl (lv_at hl 0 rfl) ?_
                                refine va_get (D := X.1) (ci := 6) (v := .int (nI bk)) (C := RX6) (T := TX6) (N := 25) hx hb hts hin6 hown hK hP 0 rfl rfl 1 (by decide) lk54 (fun _ h9 => h9) rfl dX6_node_225 ?_
                                refine lv_icmp_le (tgt := 256) hx hb dX6_node_228 (by decide) (fun c_228 => ?_) (fun c_228 => ?_)
                                · replace c_228 : ((flt P d X_ Y_).length) ≤ bk := (nI_leI (by omega) (by omega)).mp c_228
                                  refine lv_iload hx hb dX6_node_256 (lv_at hl 2 rfl) ?_
                                  have hv9 : vm = (if (flt P d X_ Y_).length ≤ bk then 0 else msk (X_ * 2 ^ d) (Y_ * 2 ^ d) (2 ^ (d - 1)) (flt P d X_ Y_) 4) := by
                                    by_cases hle : (flt P d X_ Y_).length ≤ bk
                                    · rw [if_pos hle]; rcases hvm with ⟨z1, z2⟩ | ⟨z1, z2⟩ <;> omega
                                    · rw [if_neg hle]; rcases hvm with ⟨z1, z2⟩ | ⟨z1, z2⟩
                                      · omega
                                      · rw [z2, show qq = 4 from by omega]
                                  refine wM hQ ?_
                                  exact rtI ((lf1, kf1), (nI Ws.length, nI (b - d), nI (rk ZP (cdR b (d, X_, Y_))), nI (rk ZP (cdR b (d, X_, Y_) + 4 ^ d)), lN (cdR b (d, X_, Y_)))) hx hb hr hlocks hP hS ((by show _ = _; rw [sel_0 (show nI 0 = 0 from rfl)]; show _ = fct _ x (nI 4); rw [hkk, fct_at hT (by decide) hTl]; show nI vm = nI (if (flt P d X_ Y_).length ≤ bk then 0 else msk (X_ * 2 ^ d) (Y_ * 2 ^ d) (2 ^ (d - 1)) (flt P d X_ Y_) 4); rw [← hv9])) dX6_node_258
                                · replace c_228 : ¬ ((flt P d X_ Y_).length) ≤ bk := fun h9 => c_228 ((nI_leI (by omega) (by omega)).mpr h9)
                                  have hdp : 1 ≤ d := by
                                    rcases Nat.eq_zero_or_pos d with z | z
                                    · subst z
                                      have := flt_1 (b := b) h0.L.2.1 X_ Y_
                                      omega
                                    · exact z
                                  obtain ⟨e, rfl⟩ : ∃ e, d = e + 1 := ⟨d - 1, by omega⟩
                                  have hsub := ch_sub (L := P) (d := e) (X := X_) (Y := Y_) (q := qq) (by omega)
                                  · skip
                                    refine lv_aload_n hx hb dX6_node_231 rfl (lv_at hl 0 rfl) ?_
                                    refine lv_iload_n hx hb dX6_node_232 rfl (lv_at hl 1 rfl) ?_
                                    refine lv_iload hx hb dX6_node_233 (lv_at hl 3 rfl) ?_
                                    refine ckVRi (As := [.int (nI 0), .int (nI qq)]) (rest := []) 0 [0, 1, 2] (c_X6_part l X m bl bk b sp mn xr yr vr cr wr nc wl wc rx ry rv fr (nI 0) f_ar (nI Ws.length) (nI (rk ZP (cdR b ((e + 1), X_, Y_)))) (nI (rk ZP (cdR b ((e + 1), X_, Y_) + 4 ^ (e + 1)))) f_rs qq e X_ Y_ 0 mf cf P ZP (by decide) h0.mz h0.C h0.Z h0.I h0.L hb1 hrg (by omega)) ⟨hx, hb, hml, hown, hts⟩ (cwV 2 hts gX6_node_X6_part rfl rfl rfl (by decide +kernel) ⟨Nat.le_of_ble_eq_true rfl, Nat.le_of_ble_eq_true rfl⟩) hK hN hP hD (by decide) rfl (ci := 6) rfl rfl rfl hl.1 rfl (Nat.le_of_ble_eq_true rfl) dX6_node_235 ⟨Nat.zero_le _, Nat.zero_le _⟩ (fun r_28 hc_235 => ?_)
                                    subst hc_235
                                    have hfl : (flt P e (2 * X_ + qq % 2) (2 * Y_ + qq / 2)).length ≤ 512 := Nat.le_trans (List.length_filter_le _ _) h0.L.1
                                    refine lv_if_le (tgt := 250) hx hb dX6_node_238 (by decide) (fun c_238 => ?_) (fun c_238 => ?_)
                                    · change nI ((flt P e (2 * X_ + qq % 2) (2 * Y_ + qq / 2)).length) ≤ nI 0 at c_238
                                      replace c_238 : ((flt P e (2 * X_ + qq % 2) (2 * Y_ + qq / 2)).length) ≤ 0 := (nI_leI (by omega) (by omega)).mp c_238
                                      have hms : vm = msk (X_ * 2 ^ (e + 1)) (Y_ * 2 ^ (e + 1)) (2 ^ (e + 1 - 1)) (flt P (e + 1) X_ Y_) (qq + 1) := by
                                        rcases hvm with ⟨z1, z2⟩ | ⟨z1, z2⟩
                                        · omega
                                        · rw [z2, Nat.add_sub_cancel]
                                          show _ = _ + (if (sub _ _ _ _ _).length = 0 then 0 else 2 ^ qq)
                                          rw [hsub, if_pos (by omega)]
                                          rfl
                                      refine lv_iinc (v := nI (qq + 1)) (lv' := [(5, .int (nI (qq + 1))), (0, .ref m), (1, .int (nI 0)), (4, .int (nI vm))]) hx hb dX6_node_250 hl (k := 3) rfl (by rw [show Int32.ofInt 1 = nI 1 from by decide]; exact nI_add _ _) (by decide) rfl (fun ls hl => ?_)
                                      refine lv_goto (tgt := 209) hx hb dX6_node_253 (by decide) ?_
                                      exact ih209 (qq + 1) vm (by omega) (by exact Or.inr ⟨by omega, hms⟩) (by omega) ls (lv_sub hl [1, 2, 3, 0] rfl)
                                    · change ¬ (nI ((flt P e (2 * X_ + qq % 2) (2 * Y_ + qq / 2)).length) ≤ nI 0) at c_238
                                      replace c_238 : ¬ ((flt P e (2 * X_ + qq % 2) (2 * Y_ + qq / 2)).length) ≤ 0 := fun h9 => c_238 ((nI_leI (by omega) (by omega)).mpr h9)
                                      have hms : vm + 2 ^ qq = msk (X_ * 2 ^ (e + 1)) (Y_ * 2 ^ (e + 1)) (2 ^ (e + 1 - 1)) (flt P (e + 1) X_ Y_) (qq + 1) := by
                                        rcases hvm with ⟨z1, z2⟩ | ⟨z1, z2⟩
                                        · omega
                                        · rw [z2, Nat.add_sub_cancel]
                                          show _ = _ + (if (sub _ _ _ _ _).length = 0 then 0 else 2 ^ qq)
                                          rw [hsub, if_neg (by omega)]
                                      refine lv_iload hx hb dX6_node_241 (lv_at hl 2 rfl) ?_
                                      refine lv_iconst (v := nI 1) hx hb dX6_node_243 (by decide) ?_
                                      refine lv_iload hx hb dX6_node_244 (lv_at hl 3 rfl) ?_
                                      refine lv_ishl hx hb dX6_node_246 ?_
                                      refine lv_topi (fun x_29 ex_29 => ?_)
                                      obtain rfl : x_29 = nI (2 ^ qq) := by
                                        rw [ex_29]
                                        exact bI_1shl (by omega)
                                      refine lv_ior hx hb dX6_node_247 ?_
                                      refine lv_topi (fun x_30 ex_30 => ?_)
                                      obtain rfl : x_30 = nI (vm + 2 ^ qq) := by
                                        rw [ex_30]
                                        refine or_msk ?_
                                        rcases hvm with ⟨z1, z2⟩ | ⟨z1, z2⟩
                                        · rw [z2]; exact Nat.pow_pos (by decide)
                                        · rw [z2]; exact msk_lt _ _ _ _ _
                                      refine lv_istore (lv' := [(4, .int (nI (vm + 2 ^ qq))), (0, .ref m), (1, .int (nI 0)), (5, .int (nI qq))]) hx hb dX6_node_248 hl (by decide) rfl (fun ls hl => ?_)
                                      refine lv_iinc (v := nI (qq + 1)) (lv' := [(5, .int (nI (qq + 1))), (4, .int (nI (vm + 2 ^ qq))), (0, .ref m), (1, .int (nI 0))]) hx hb dX6_node_250 hl (k := 3) rfl (by rw [show Int32.ofInt 1 = nI 1 from by decide]; exact nI_add _ _) (by decide) rfl (fun ls hl => ?_)
                                      refine lv_goto (tgt := 209) hx hb dX6_node_253 (by decide) ?_
                                      exact ih209 (qq + 1) (vm + 2 ^ qq) (by omega) (by exact Or.inr ⟨by omega, hms⟩) (by omega) ls (lv_sub hl [2, 3, 1, 0] rfl)
                          exact loop_209 _ 0 0 (by omega) (by by_cases hle : (flt P d X_ Y_).length ≤ bk; exact Or.inl ⟨hle, rfl⟩; exact Or.inr ⟨hle, rfl⟩) (Nat.lt_succ_self _) ls (lv_sub hl [2, 3, 1, 0] rfl)
                    · replace c_42 : ¬ kk < i := fun h9 => c_42 ((nI_ltI (by omega) (by omega)).mpr h9)
                      rcases w_cases Ws with rfl | ⟨W0, X_, Y_, rfl⟩ | ⟨W0, d, X_, Y_, rfl⟩
                      · skip
                        have hP : va_P X.1 vwCl [(m, .inr (6, [.int (nI bl), .int (nI bk), .int (nI b), .int (nI sp), .ref mn, .ref xr, .ref yr, .ref vr, .ref cr, .ref wr, .int (nI nc), .int (nI 0), .int f_ar, .ref wl, .ref wc, .int (nI 0), .int lv1, .int fi1, .int en1, .long cd1, .ref rx, .ref ry, .ref rv, .ref fr, .int f_rs])), (mn, .inl (X.2.1, 2, .inl mf)), (cr, .inl (X.2.2, 6600, .inr (.inl cf))), (wl, .inl (X.2.1, 80, .inl lf1)), (wc, .inl (X.2.2, 80, .inr (.inl kf1))), (wr, .inl (X.2.1, 6600, .inl wf))] _ := hP
                        have hD : va_D A_ [(m, .inr (6, [.int (nI bl), .int (nI bk), .int (nI b), .int (nI sp), .ref mn, .ref xr, .ref yr, .ref vr, .ref cr, .ref wr, .int (nI nc), .int (nI 0), .int f_ar, .ref wl, .ref wc, .int (nI 0), .int lv1, .int fi1, .int en1, .long cd1, .ref rx, .ref ry, .ref rv, .ref fr, .int f_rs])), (mn, .inl (X.2.1, 2, .inl mf)), (cr, .inl (X.2.2, 6600, .inr (.inl cf))), (wl, .inl (X.2.1, 80, .inl lf1)), (wc, .inl (X.2.2, 80, .inr (.inl kf1))), (wr, .inl (X.2.1, 6600, .inl wf))] := hD
                        refine lv_aload_n hx hb dX6_node_45 rfl (lv_at hl 0 rfl) ?_
                        refine lv_iload_n hx hb dX6_node_46 rfl (lv_at hl 1 rfl) ?_
                        refine ckVRi (As := [.int (nI 0)]) (rest := []) 0 [0] (c_X6_comes_0 l X m bl bk b sp mn xr yr vr cr wr nc wl wc rx ry rv fr (nI 0) f_ar lv1 fi1 en1 f_rs cd1 0) ⟨hx, hb, hml, hown, hts⟩ (cwV 1 hts gX6_node_X6_comes rfl rfl rfl (by decide +kernel) ⟨Nat.le_of_ble_eq_true rfl, Nat.le_of_ble_eq_true rfl⟩) hK hN hP hD (by decide) rfl (ci := 6) rfl rfl rfl hl.1 rfl (Nat.le_of_ble_eq_true rfl) dX6_node_47 ⟨Nat.zero_le _, Nat.zero_le _⟩ (fun r_31 hc_47 => ?_)
                        subst hc_47
                        refine lv_if_ne (tgt := 55) hx hb dX6_node_50 (by decide) (fun c_50 => ?_) (fun c_50 => ?_)
                        · exact absurd c_50 (by decide)
                        · skip
                          refine lv_iconst (v := (-1)) hx hb dX6_node_53 (by decide) ?_
                          have hdn : (tr bk b 0 0 P).length ≤ i := List.drop_eq_nil_iff.mp h2.symm
                          refine wM hQ ?_
                          exact rtI ((lf1, kf1), (nI 0, lv1, fi1, en1, cd1)) hx hb hr hlocks hP hS ((by show _ = _; rw [sel_0 (show nI 0 = 0 from rfl)]; show _ = fct _ x y; rw [hkk]; unfold fct; exact (if_neg (fun z => z.2.1 (nI_le (by omega) (by omega)))).symm)) dX6_node_54
                      · skip
                        rw [List.length_append] at hP hD
                        have hP : va_P X.1 vwCl [(m, .inr (6, [.int (nI bl), .int (nI bk), .int (nI b), .int (nI sp), .ref mn, .ref xr, .ref yr, .ref vr, .ref cr, .ref wr, .int (nI nc), .int (nI 0), .int f_ar, .ref wl, .ref wc, .int (nI (W0.length + 1)), .int lv1, .int fi1, .int en1, .long cd1, .ref rx, .ref ry, .ref rv, .ref fr, .int f_rs])), (mn, .inl (X.2.1, 2, .inl mf)), (cr, .inl (X.2.2, 6600, .inr (.inl cf))), (wl, .inl (X.2.1, 80, .inl lf1)), (wc, .inl (X.2.2, 80, .inr (.inl kf1))), (wr, .inl (X.2.1, 6600, .inl wf))] _ := hP
                        have hD : va_D A_ [(m, .inr (6, [.int (nI bl), .int (nI bk), .int (nI b), .int (nI sp), .ref mn, .ref xr, .ref yr, .ref vr, .ref cr, .ref wr, .int (nI nc), .int (nI 0), .int f_ar, .ref wl, .ref wc, .int (nI (W0.length + 1)), .int lv1, .int fi1, .int en1, .long cd1, .ref rx, .ref ry, .ref rv, .ref fr, .int f_rs])), (mn, .inl (X.2.1, 2, .inl mf)), (cr, .inl (X.2.2, 6600, .inr (.inl cf))), (wl, .inl (X.2.1, 80, .inl lf1)), (wc, .inl (X.2.2, 80, .inr (.inl kf1))), (wr, .inl (X.2.1, 6600, .inl wf))] := hD
                        refine lv_aload_n hx hb dX6_node_45 rfl (lv_at hl 0 rfl) ?_
                        refine lv_iload_n hx hb dX6_node_46 rfl (lv_at hl 1 rfl) ?_
                        refine ckVi (As := [.int (nI 0)]) (rest := []) 0 [0, 1, 2, 3, 4] (c_X6_comes_z l X m bl bk b sp mn xr yr vr cr wr nc wl wc rx ry rv fr (nI 0) f_ar lv1 fi1 en1 f_rs cd1 X_ Y_ 0 mf cf P ZP (by decide) h0.mz h0.C h0.Z h0.I h0.L hb1 W0 lf1 kf1 hwk hbk hbk2) ⟨hx, hb, hml, hown, hts⟩ (cwV 1 hts gX6_node_X6_comes rfl rfl rfl (by decide +kernel) ⟨Nat.le_of_ble_eq_true rfl, Nat.le_of_ble_eq_true rfl⟩) hK hN hP hD hS (by decide) rfl (ci := 6) rfl rfl (fun _ => rfl) rfl hl.1 rfl (Nat.le_of_ble_eq_true rfl) dX6_node_47 ⟨Nat.zero_le _, Nat.zero_le _⟩ (fun r_33 u_32 H locs hc_47 hP hD hS => ?_)
                        obtain ⟨lf2, kf2, W2⟩ := u_32
                        have hP : va_P X.1 vwCl [(m, .inr (6, [.int (nI bl), .int (nI bk), .int (nI b), .int (nI sp), .ref mn, .ref xr, .ref yr, .ref vr, .ref cr, .ref wr, .int (nI nc), .int (nI 0), .int f_ar, .ref wl, .ref wc, .int (nI ((W2).length)), .int (nI (b - (0))), .int (nI (rk ZP (cdR b (0, X_, Y_)))), .int (nI (rk ZP (cdR b (0, X_, Y_) + 4 ^ (0)))), .long (lN (cdR b (0, X_, Y_))), .ref rx, .ref ry, .ref rv, .ref fr, .int f_rs])), (mn, .inl (X.2.1, 2, .inl mf)), (cr, .inl (X.2.2, 6600, .inr (.inl cf))), (wl, .inl (X.2.1, 80, .inl lf2)), (wc, .inl (X.2.2, 80, .inr (.inl kf2))), (wr, .inl (X.2.1, 6600, .inl wf))] H := hP
                        have hD : va_D A_ [(m, .inr (6, [.int (nI bl), .int (nI bk), .int (nI b), .int (nI sp), .ref mn, .ref xr, .ref yr, .ref vr, .ref cr, .ref wr, .int (nI nc), .int (nI 0), .int f_ar, .ref wl, .ref wc, .int (nI ((W2).length)), .int (nI (b - (0))), .int (nI (rk ZP (cdR b (0, X_, Y_)))), .int (nI (rk ZP (cdR b (0, X_, Y_) + 4 ^ (0)))), .long (lN (cdR b (0, X_, Y_))), .ref rx, .ref ry, .ref rv, .ref fr, .int f_rs])), (mn, .inl (X.2.1, 2, .inl mf)), (cr, .inl (X.2.2, 6600, .inr (.inl cf))), (wl, .inl (X.2.1, 80, .inl lf2)), (wc, .inl (X.2.2, 80, .inr (.inl kf2))), (wr, .inl (X.2.1, 6600, .inl wf))] := hD
                        try dsimp only at hc_47
                        obtain ⟨rfl, hw2, hrm⟩ := hc_47
                        · skip
                          have hrc := rem_cons h0.L.2.1 hbk hrm
                          rw [h2] at hrc
                          obtain ⟨hT9, hT8, hT7⟩ := drop_hd hrc.symm
                          have hr9 := (hwk W0.length (by simp)).2.2.1
                          rw [rg_get] at hr9
                          refine lv_if_ne (tgt := 55) hx hb dX6_node_50 (by decide) (fun c_50 => ?_) (fun c_50 => ?_)
                          · skip
                            refine lv_iinc (v := nI (i + 1)) (lv' := [(4, .int (nI (i + 1))), (0, .ref m), (1, .int (nI 0)), (2, .int x), (3, .int y)]) hx hb dX6_node_55 hl (k := 4) rfl (by rw [show Int32.ofInt 1 = nI 1 from by decide]; exact nI_add _ _) (by decide) rfl (fun ls hl => ?_)
                            refine lv_goto (tgt := 39) hx hb dX6_node_58 (by decide) ?_
                            exact ih39 (i + 1) W2 lf2 kf2 (nI (b - (0))) (nI (rk ZP (cdR b (0, X_, Y_)))) (nI (rk ZP (cdR b (0, X_, Y_) + 4 ^ (0)))) (lN (cdR b (0, X_, Y_))) (0, X_, Y_) (by exact hw2) (by exact hT8) (by exact Or.inr ⟨by rw [Nat.add_sub_cancel]; exact hT9, hr9, rfl, rfl, rfl, rfl⟩) (by omega) (by omega) (by omega) _ _ hP hD hS ls (lv_sub hl [1, 2, 3, 4, 0] rfl)
                          · exact absurd c_50 (by decide)
                      · skip
                        rw [List.length_append] at hP hD
                        have hP : va_P X.1 vwCl [(m, .inr (6, [.int (nI bl), .int (nI bk), .int (nI b), .int (nI sp), .ref mn, .ref xr, .ref yr, .ref vr, .ref cr, .ref wr, .int (nI nc), .int (nI 0), .int f_ar, .ref wl, .ref wc, .int (nI (W0.length + 1)), .int lv1, .int fi1, .int en1, .long cd1, .ref rx, .ref ry, .ref rv, .ref fr, .int f_rs])), (mn, .inl (X.2.1, 2, .inl mf)), (cr, .inl (X.2.2, 6600, .inr (.inl cf))), (wl, .inl (X.2.1, 80, .inl lf1)), (wc, .inl (X.2.2, 80, .inr (.inl kf1))), (wr, .inl (X.2.1, 6600, .inl wf))] _ := hP
                        have hD : va_D A_ [(m, .inr (6, [.int (nI bl), .int (nI bk), .int (nI b), .int (nI sp), .ref mn, .ref xr, .ref yr, .ref vr, .ref cr, .ref wr, .int (nI nc), .int (nI 0), .int f_ar, .ref wl, .ref wc, .int (nI (W0.length + 1)), .int lv1, .int fi1, .int en1, .long cd1, .ref rx, .ref ry, .ref rv, .ref fr, .int f_rs])), (mn, .inl (X.2.1, 2, .inl mf)), (cr, .inl (X.2.2, 6600, .inr (.inl cf))), (wl, .inl (X.2.1, 80, .inl lf1)), (wc, .inl (X.2.2, 80, .inr (.inl kf1))), (wr, .inl (X.2.1, 6600, .inl wf))] := hD
                        refine lv_aload_n hx hb dX6_node_45 rfl (lv_at hl 0 rfl) ?_
                        refine lv_iload_n hx hb dX6_node_46 rfl (lv_at hl 1 rfl) ?_
                        refine ckVi (As := [.int (nI 0)]) (rest := []) 0 [0, 1, 2, 3, 4] (c_X6_comes_s l X m bl bk b sp mn xr yr vr cr wr nc wl wc rx ry rv fr (nI 0) f_ar lv1 fi1 en1 f_rs cd1 d X_ Y_ 0 mf cf P ZP (by decide) h0.mz h0.C h0.Z h0.I h0.L hb1 W0 lf1 kf1 hwk hbk hbk2) ⟨hx, hb, hml, hown, hts⟩ (cwV 1 hts gX6_node_X6_comes rfl rfl rfl (by decide +kernel) ⟨Nat.le_of_ble_eq_true rfl, Nat.le_of_ble_eq_true rfl⟩) hK hN hP hD hS (by decide) rfl (ci := 6) rfl rfl (fun _ => rfl) rfl hl.1 rfl (Nat.le_of_ble_eq_true rfl) dX6_node_47 ⟨Nat.zero_le _, Nat.zero_le _⟩ (fun r_35 u_34 H locs hc_47 hP hD hS => ?_)
                        obtain ⟨lf2, kf2, W2⟩ := u_34
                        have hP : va_P X.1 vwCl [(m, .inr (6, [.int (nI bl), .int (nI bk), .int (nI b), .int (nI sp), .ref mn, .ref xr, .ref yr, .ref vr, .ref cr, .ref wr, .int (nI nc), .int (nI 0), .int f_ar, .ref wl, .ref wc, .int (nI ((W2).length)), .int (nI (b - (d + 1))), .int (nI (rk ZP (cdR b (d + 1, X_, Y_)))), .int (nI (rk ZP (cdR b (d + 1, X_, Y_) + 4 ^ (d + 1)))), .long (lN (cdR b (d + 1, X_, Y_))), .ref rx, .ref ry, .ref rv, .ref fr, .int f_rs])), (mn, .inl (X.2.1, 2, .inl mf)), (cr, .inl (X.2.2, 6600, .inr (.inl cf))), (wl, .inl (X.2.1, 80, .inl lf2)), (wc, .inl (X.2.2, 80, .inr (.inl kf2))), (wr, .inl (X.2.1, 6600, .inl wf))] H := hP
                        have hD : va_D A_ [(m, .inr (6, [.int (nI bl), .int (nI bk), .int (nI b), .int (nI sp), .ref mn, .ref xr, .ref yr, .ref vr, .ref cr, .ref wr, .int (nI nc), .int (nI 0), .int f_ar, .ref wl, .ref wc, .int (nI ((W2).length)), .int (nI (b - (d + 1))), .int (nI (rk ZP (cdR b (d + 1, X_, Y_)))), .int (nI (rk ZP (cdR b (d + 1, X_, Y_) + 4 ^ (d + 1)))), .long (lN (cdR b (d + 1, X_, Y_))), .ref rx, .ref ry, .ref rv, .ref fr, .int f_rs])), (mn, .inl (X.2.1, 2, .inl mf)), (cr, .inl (X.2.2, 6600, .inr (.inl cf))), (wl, .inl (X.2.1, 80, .inl lf2)), (wc, .inl (X.2.2, 80, .inr (.inl kf2))), (wr, .inl (X.2.1, 6600, .inl wf))] := hD
                        try dsimp only at hc_47
                        obtain ⟨rfl, hw2, hrm⟩ := hc_47
                        · skip
                          have hrc := rem_cons h0.L.2.1 hbk hrm
                          rw [h2] at hrc
                          obtain ⟨hT9, hT8, hT7⟩ := drop_hd hrc.symm
                          have hr9 := (hwk W0.length (by simp)).2.2.1
                          rw [rg_get] at hr9
                          refine lv_if_ne (tgt := 55) hx hb dX6_node_50 (by decide) (fun c_50 => ?_) (fun c_50 => ?_)
                          · skip
                            refine lv_iinc (v := nI (i + 1)) (lv' := [(4, .int (nI (i + 1))), (0, .ref m), (1, .int (nI 0)), (2, .int x), (3, .int y)]) hx hb dX6_node_55 hl (k := 4) rfl (by rw [show Int32.ofInt 1 = nI 1 from by decide]; exact nI_add _ _) (by decide) rfl (fun ls hl => ?_)
                            refine lv_goto (tgt := 39) hx hb dX6_node_58 (by decide) ?_
                            exact ih39 (i + 1) W2 lf2 kf2 (nI (b - (d + 1))) (nI (rk ZP (cdR b (d + 1, X_, Y_)))) (nI (rk ZP (cdR b (d + 1, X_, Y_) + 4 ^ (d + 1)))) (lN (cdR b (d + 1, X_, Y_))) (d + 1, X_, Y_) (by exact hw2) (by exact hT8) (by exact Or.inr ⟨by rw [Nat.add_sub_cancel]; exact hT9, hr9, rfl, rfl, rfl, rfl⟩) (by omega) (by omega) (by omega) _ _ hP hD hS ls (lv_sub hl [1, 2, 3, 4, 0] rfl)
                          · exact absurd c_50 (by decide)
                have hP : va_P X.1 vwCl [(m, .inr (6, [.int (nI bl), .int (nI bk), .int (nI b), .int (nI sp), .ref mn, .ref xr, .ref yr, .ref vr, .ref cr, .ref wr, .int (nI nc), .int (nI 0), .int f_ar, .ref wl, .ref wc, .int (nI (([(b, 0, 0)] : List Rg).length)), .int f_lv, .int f_fi, .int f_en, .long f_cd, .ref rx, .ref ry, .ref rv, .ref fr, .int f_rs])), (mn, .inl (X.2.1, 2, .inl mf)), (cr, .inl (X.2.2, 6600, .inr (.inl cf))), (wl, .inl (X.2.1, 80, .inl lf0)), (wc, .inl (X.2.2, 80, .inr (.inl kf0))), (wr, .inl (X.2.1, 6600, .inl wf))] _ := hP
                have hD : va_D A_ [(m, .inr (6, [.int (nI bl), .int (nI bk), .int (nI b), .int (nI sp), .ref mn, .ref xr, .ref yr, .ref vr, .ref cr, .ref wr, .int (nI nc), .int (nI 0), .int f_ar, .ref wl, .ref wc, .int (nI (([(b, 0, 0)] : List Rg).length)), .int f_lv, .int f_fi, .int f_en, .long f_cd, .ref rx, .ref ry, .ref rv, .ref fr, .int f_rs])), (mn, .inl (X.2.1, 2, .inl mf)), (cr, .inl (X.2.2, 6600, .inr (.inl cf))), (wl, .inl (X.2.1, 80, .inl lf0)), (wc, .inl (X.2.2, 80, .inr (.inl kf0))), (wr, .inl (X.2.1, 6600, .inl wf))] := hD
                exact loop_39 _ 0 ([(b, 0, 0)]) lf0 kf0 f_lv f_fi f_en f_cd rg0 (by exact wOk_init hbe.1 hbe.2) (by rw [rem_init h0.I]; rfl) (by exact Or.inl rfl) (by omega) (by omega) (Nat.lt_succ_self _) _ _ hP hD hS ls (lv_sub hl [1, 2, 3, 4, 0] rfl)
              · skip
                refine lv_iconst (v := (-1)) hx hb dX6_node_30 (by decide) ?_
                refine wM hQ ?_
                exact rtI ((lf, kf), (f_wt, f_lv, f_fi, f_en, f_cd)) hx hb hr hlocks hP hS ((by show _ = _; rw [sel_0 (show nI 0 = 0 from rfl)]; show _ = fct _ x y; unfold fct; exact (if_neg (fun z => by first | exact z.1 c_18 | exact z.2.2.1 c_22 | exact c_27 ((lt6 y).mp z.2.2.2))).symm)) dX6_node_31
      · skip
        exact absurd (Or.inl rfl) hc_11
    · skip
      subst hs
      refine lv_iload_n hx hb dX6_node_10 rfl (lv_at hl 1 rfl) ?_
      refine ckSRi (As := [.int (nI 1)]) (rest := []) [] (c_X6_isState l X (nI 1)) ⟨hx, hb, hml, hown, hts⟩ (va_cwS 1 hts gX6_node_X6_isState rfl rfl rfl (by decide +kernel) ⟨Nat.le_of_ble_eq_true rfl, Nat.le_of_ble_eq_true rfl⟩) hK hN hP hD (by decide) rfl rfl hl.1 rfl (Nat.le_of_ble_eq_true rfl) dX6_node_11 ⟨Nat.zero_le _, Nat.zero_le _⟩ (fun r_36 hc_11 => ?_)
      rcases hc_11 with ⟨hc_11, rfl⟩ | ⟨hc_11, rfl⟩
      · skip
        refine lv_if_eq (tgt := 30) hx hb dX6_node_14 (by decide) (fun c_14 => ?_) (fun c_14 => ?_)
        · exact absurd c_14 (by decide)
        · skip
          refine lv_iload_n hx hb dX6_node_17 rfl (lv_at hl 2 rfl) ?_
          refine lv_if_lt (tgt := 30) hx hb dX6_node_18 (by decide) (fun c_18 => ?_) (fun c_18 => ?_)
          · skip
            refine lv_iconst (v := (-1)) hx hb dX6_node_30 (by decide) ?_
            refine wM hQ ?_
            exact rtI ((lf, kf), (f_wt, f_lv, f_fi, f_en, f_cd)) hx hb hr hlocks hP hS ((by show _ = _; rw [sel_1 rfl]; show _ = fct _ x y; unfold fct; exact (if_neg (fun z => by first | exact z.1 c_18 | exact z.2.2.1 c_22 | exact c_27 ((lt6 y).mp z.2.2.2))).symm)) dX6_node_31
          · skip
            obtain ⟨kk, hkb, hkk⟩ := nI_of c_18
            have hTl := tr_len_lt (bk := bk) (b := b) h1.L h1.I hb1
            refine lv_iload_n hx hb dX6_node_21 rfl (lv_at hl 3 rfl) ?_
            refine lv_if_lt (tgt := 30) hx hb dX6_node_22 (by decide) (fun c_22 => ?_) (fun c_22 => ?_)
            · skip
              refine lv_iconst (v := (-1)) hx hb dX6_node_30 (by decide) ?_
              refine wM hQ ?_
              exact rtI ((lf, kf), (f_wt, f_lv, f_fi, f_en, f_cd)) hx hb hr hlocks hP hS ((by show _ = _; rw [sel_1 rfl]; show _ = fct _ x y; unfold fct; exact (if_neg (fun z => by first | exact z.1 c_18 | exact z.2.2.1 c_22 | exact c_27 ((lt6 y).mp z.2.2.2))).symm)) dX6_node_31
            · skip
              refine lv_iload_n hx hb dX6_node_25 rfl (lv_at hl 3 rfl) ?_
              refine lv_iconst (v := nI 5) hx hb dX6_node_26 (by decide) ?_
              refine lv_icmp_le (tgt := 32) hx hb dX6_node_27 (by decide) (fun c_27 => ?_) (fun c_27 => ?_)
              · skip
                refine lv_aload_n hx hb dX6_node_32 rfl (lv_at hl 0 rfl) ?_
                refine ckVv (As := []) (rest := []) 0 [0, 3, 4] (c_X6_begins l X m bl bk b sp mn xr yr vr cr wr nc wl wc rx ry rv fr (nI 0) f_ar f_wt f_lv f_fi f_en f_rs f_cd lf kf) ⟨hx, hb, hml, hown, hts⟩ (cwV 0 hts gX6_node_X6_begins rfl rfl rfl (by decide +kernel) ⟨Nat.le_of_ble_eq_true rfl, Nat.le_of_ble_eq_true rfl⟩) hK hN hP hD hS (by decide) rfl (ci := 6) rfl rfl (fun _ => rfl) rfl hl.1 rfl (Nat.le_of_ble_eq_true rfl) dX6_node_33 ⟨Nat.zero_le _, Nat.zero_le _⟩ (fun u_37 H locs hbe hP hD hS => ?_)
                obtain ⟨lf0, kf0⟩ := u_37
                have hP : va_P X.1 vwCl [(m, .inr (6, [.int (nI bl), .int (nI bk), .int (nI b), .int (nI sp), .ref mn, .ref xr, .ref yr, .ref vr, .ref cr, .ref wr, .int (nI nc), .int (nI 0), .int f_ar, .ref wl, .ref wc, .int (nI 1), .int f_lv, .int f_fi, .int f_en, .long f_cd, .ref rx, .ref ry, .ref rv, .ref fr, .int f_rs])), (mn, .inl (X.2.1, 2, .inl mf)), (cr, .inl (X.2.2, 6600, .inr (.inl cf))), (wl, .inl (X.2.1, 80, .inl lf0)), (wc, .inl (X.2.2, 80, .inr (.inl kf0))), (wr, .inl (X.2.1, 6600, .inl wf))] H := hP
                have hD : va_D A_ [(m, .inr (6, [.int (nI bl), .int (nI bk), .int (nI b), .int (nI sp), .ref mn, .ref xr, .ref yr, .ref vr, .ref cr, .ref wr, .int (nI nc), .int (nI 0), .int f_ar, .ref wl, .ref wc, .int (nI 1), .int f_lv, .int f_fi, .int f_en, .long f_cd, .ref rx, .ref ry, .ref rv, .ref fr, .int f_rs])), (mn, .inl (X.2.1, 2, .inl mf)), (cr, .inl (X.2.2, 6600, .inr (.inl cf))), (wl, .inl (X.2.1, 80, .inl lf0)), (wc, .inl (X.2.2, 80, .inr (.inl kf0))), (wr, .inl (X.2.1, 6600, .inl wf))] := hD
                try dsimp only at hbe
                refine lv_iconst (v := nI 0) hx hb dX6_node_36 (by decide) ?_
                refine lv_istore (lv' := [(4, .int (nI 0)), (0, .ref m), (1, .int (nI 1)), (2, .int x), (3, .int y)]) hx hb dX6_node_37 hl (by decide) rfl (fun ls hl => ?_)
                have loop_39 : ∀ (fu : Nat) (i : Nat) (Ws : List Rg) (lf1 : Nat → Int32) (kf1 : Nat → Int64) (lv1 : Int32) (fi1 : Int32) (en1 : Int32) (cd1 : Int64) (rr : Rg), (wOk b lf1 kf1 Ws) → (rem bk Qm Ws = (tr bk b 0 0 Qm).drop i) → (curOk b bk Qm ZQm (tr bk b 0 0 Qm) i rr lv1 fi1 en1 cd1) → (i ≤ kk + 1) → (i ≤ (tr bk b 0 0 Qm).length) → kk + 1 - i < fu → ∀ (H : Heap) (locs : List Loc), va_P X.1 vwCl [(m, .inr (6, [.int (nI bl), .int (nI bk), .int (nI b), .int (nI sp), .ref mn, .ref xr, .ref yr, .ref vr, .ref cr, .ref wr, .int (nI nc), .int (nI 0), .int f_ar, .ref wl, .ref wc, .int (nI Ws.length), .int lv1, .int fi1, .int en1, .long cd1, .ref rx, .ref ry, .ref rv, .ref fr, .int f_rs])), (mn, .inl (X.2.1, 2, .inl mf)), (cr, .inl (X.2.2, 6600, .inr (.inl cf))), (wl, .inl (X.2.1, 80, .inl lf1)), (wc, .inl (X.2.2, 80, .inr (.inl kf1))), (wr, .inl (X.2.1, 6600, .inl wf))] H → va_D A_ [(m, .inr (6, [.int (nI bl), .int (nI bk), .int (nI b), .int (nI sp), .ref mn, .ref xr, .ref yr, .ref vr, .ref cr, .ref wr, .int (nI nc), .int (nI 0), .int f_ar, .ref wl, .ref wc, .int (nI Ws.length), .int lv1, .int fi1, .int en1, .long cd1, .ref rx, .ref ry, .ref rv, .ref fr, .int f_rs])), (mn, .inl (X.2.1, 2, .inl mf)), (cr, .inl (X.2.2, 6600, .inr (.inl cf))), (wl, .inl (X.2.1, 80, .inl lf1)), (wc, .inl (X.2.2, 80, .inr (.inl kf1))), (wr, .inl (X.2.1, 6600, .inl wf))] → va_S A_ sz.heap H locs → ∀ (ls : Array Slot), lv_has ls 6 [(0, .ref m), (1, .int (nI 1)), (2, .int x), (3, .int y), (4, .int (nI i))] → W pz l ez (headSpec wsX6_node (rmk 5)).room sz mz ([.ref m, .int (nI 1), .int x, .int y].toArray) below meth cz H locs 0 0 Q (F0 mz 39 ls []) := by
                  intro fu
                  induction fu with
                  | zero => intro i Ws lf1 kf1 lv1 fi1 en1 cd1 rr hwk h2 hcur hi1 hi2 hfu; exact absurd hfu (Nat.not_lt_zero _)
                  | succ fu ih39 =>
                    intro i Ws lf1 kf1 lv1 fi1 en1 cd1 rr hwk h2 hcur hi1 hi2 hfu H locs hP hD hS ls hl
                    refine lv_iload hx hb dX6_node_39 (lv_at hl 4 rfl) ?_
                    refine lv_iload_n hx hb dX6_node_41 rfl (lv_at hl 2 rfl) ?_
                    refine lv_topi (fun x_39 ex_39 => ?_)
                    obtain rfl : x_39 = nI kk := by
                      rw [ex_39]
                      exact hkk
                    refine lv_icmp_gt (tgt := 61) hx hb dX6_node_42 (by decide) (fun c_42 => ?_) (fun c_42 => ?_)
                    · replace c_42 : kk < i := (nI_ltI (by omega) (by omega)).mp c_42
                      obtain rfl : i = kk + 1 := by omega
                      obtain ⟨d, X_, Y_⟩ := rr
                      obtain ⟨hT, hrg, rfl, rfl, rfl, rfl⟩ := hcur.resolve_left (by omega)
                      rw [Nat.add_sub_cancel] at hT
                      have hd : d ≤ b := hrg.1
                      have hrk := reg_rk h1.Z h1.I hrg
                      have hcl : cdR b (d, X_, Y_) + 4 ^ d ≤ 4 ^ b := cdR_lt hrg
                      have h4 : 4 ^ b ≤ 4 ^ 15 := Nat.pow_le_pow_right (by decide) hb1
                      have hrx := rx_lt hrg
                      have hpos4 : 0 < 4 ^ d := Nat.pow_pos (by decide)
                      have hpb : 2 ^ b ≤ 32768 := Nat.pow_le_pow_right (n := 2) (by decide) hb1
                      have hcz := cdz (X := X_) (Y := Y_) hd
                      have hzl : rk ZQm (cdR b (d, X_, Y_)) + (flt Qm d X_ Y_).length ≤ 512 := by
                        have e1 := rk_le ZQm (cdR b (d, X_, Y_) + 4 ^ d)
                        rw [hrk, h1.Z.len] at e1
                        have := h1.L.1
                        omega
                      refine lv_iconst (v := nI 0) hx hb dX6_node_61 (by decide) ?_
                      refine lv_istore (lv' := [(4, .int (nI 0)), (0, .ref m), (1, .int (nI 1)), (2, .int x), (3, .int y)]) hx hb dX6_node_62 hl (by decide) rfl (fun ls hl => ?_)
                      refine lv_iload_n hx hb dX6_node_64 rfl (lv_at hl 4 rfl) ?_
                      rcases sw_cases y 5 with h_65 | h_65
                      · refine lv_tableOut (tgt := 259) hx hb dX6_node_65 (by rcases h_65 with h9 | h9; exact Or.inl h9; right; omega) (by decide) ?_
                        refine lv_aload_n hx hb dX6_node_259 rfl (lv_at hl 1 rfl) ?_
                        refine va_get (D := X.1) (ci := 6) (v := .int (nI (rk ZQm (cdR b (d, X_, Y_))))) (C := RX6) (T := TX6) (N := 25) hx hb hts hin6 hown hK hP 0 rfl rfl 17 (by decide) lk84 (fun _ h9 => h9) rfl dX6_node_260 ?_
                        refine lv_istore (lv' := [(5, .int (nI (rk ZQm (cdR b (d, X_, Y_))))), (4, .int (nI 0)), (0, .ref m), (1, .int (nI 1)), (2, .int x), (3, .int y)]) hx hb dX6_node_263 hl (by decide) rfl (fun ls hl => ?_)
                        have loop_265 : ∀ (fu : Nat) (ii : Nat) (vs_ : Nat), (rk ZQm (cdR b (d, X_, Y_)) ≤ ii) → (ii ≤ rk ZQm (cdR b (d, X_, Y_) + 4 ^ d)) → (vs_ + low (ZQm.take (rk ZQm (cdR b (d, X_, Y_)))) = low (ZQm.take ii)) → rk ZQm (cdR b (d, X_, Y_) + 4 ^ d) - ii < fu → ∀ (ls : Array Slot), lv_has ls 6 [(0, .ref m), (1, .int (nI 1)), (4, .int (nI vs_)), (5, .int (nI ii))] → W pz l ez (headSpec wsX6_node (rmk 5)).room sz mz ([.ref m, .int (nI 1), .int x, .int y].toArray) below meth cz H locs 0 0 Q (F0 mz 265 ls []) := by
                          intro fu
                          induction fu with
                          | zero => intro ii vs_ hi3 hi4 hsv hfu; exact absurd hfu (Nat.not_lt_zero _)
                          | succ fu ih265 =>
                            intro ii vs_ hi3 hi4 hsv hfu ls hl
                            refine lv_iload hx hb dX6_node_265 (lv_at hl 3 rfl) ?_
                            refine lv_aload_n hx hb dX6_node_267 rfl (lv_at hl 0 rfl) ?_
                            refine va_get (D := X.1) (ci := 6) (v := .int (nI (rk ZQm (cdR b (d, X_, Y_) + 4 ^ d)))) (C := RX6) (T := TX6) (N := 25) hx hb hts hin6 hown hK hP 0 rfl rfl 18 (by decide) lk91 (fun _ h9 => h9) rfl dX6_node_268 ?_
                            refine lv_icmp_ge (tgt := 301) hx hb dX6_node_271 (by decide) (fun c_271 => ?_) (fun c_271 => ?_)
                            · replace c_271 : (rk ZQm (cdR b (d, X_, Y_) + 4 ^ d)) ≤ ii := (nI_leI (by omega) (by omega)).mp c_271
                              refine lv_iload hx hb dX6_node_301 (lv_at hl 2 rfl) ?_
                              have hrl9 := reg_low h1.Z h1.I hrg
                              rw [← show ii = rk ZQm (cdR b (d, X_, Y_) + 4 ^ d) from by omega] at hrl9
                              refine wM hQ ?_
                              exact rtI ((lf1, kf1), (nI Ws.length, nI (b - d), nI (rk ZQm (cdR b (d, X_, Y_))), nI (rk ZQm (cdR b (d, X_, Y_) + 4 ^ d)), lN (cdR b (d, X_, Y_)))) hx hb hr hlocks hP hS ((by show _ = _; rw [sel_1 rfl]; show _ = fct _ x y; rw [hkk, w5 c_22 c_27 h_65, fct_at hT (by decide) hTl]; show nI vs_ = nI (low (flt Qm d X_ Y_)); congr 1; omega)) dX6_node_303
                            · replace c_271 : ¬ (rk ZQm (cdR b (d, X_, Y_) + 4 ^ d)) ≤ ii := fun h9 => c_271 ((nI_leI (by omega) (by omega)).mpr h9)
                              have hiz : ii < ZQm.length := Nat.lt_of_lt_of_le (show ii < rk ZQm (cdR b (d, X_, Y_) + 4 ^ d) by omega) (rk_le _ _)
                              have hvz := zvb h1.Z h1.L hiz
                              have hz51 : ZQm.length ≤ 512 := by rw [h1.Z.len]; exact h1.L.1
                              refine lv_iload hx hb dX6_node_274 (lv_at hl 2 rfl) ?_
                              refine lv_aload_n hx hb dX6_node_276 rfl (lv_at hl 0 rfl) ?_
                              refine va_get (D := X.1) (ci := 6) (v := .ref wr) (C := RX6) (T := TX6) (N := 25) hx hb hts hin6 hown hK hP 0 rfl rfl 9 (by decide) lk26 (fun _ h9 => h9) rfl dX6_node_277 ?_
                              refine lv_sipush (v := nI 3300) hx hb dX6_node_280 (by decide) ?_
                              refine lv_iload_n hx hb dX6_node_283 rfl (lv_at hl 1 rfl) ?_
                              refine lv_imul hx hb dX6_node_284 ?_
                              refine lv_topi (fun x_40 ex_40 => ?_)
                              obtain rfl : x_40 = nI (3300 * 1) := by
                                rw [ex_40]
                                exact pk_mul _ _
                              refine lv_iload hx hb dX6_node_285 (lv_at hl 3 rfl) ?_
                              refine lv_iadd hx hb dX6_node_287 ?_
                              refine lv_topi (fun x_41 ex_41 => ?_)
                              obtain rfl : x_41 = nI ((3300 * 1) + ii) := by
                                rw [ex_41]
                                exact nI_add _ _
                              have hi_42 : vp_in (nI ((3300 * 1) + ii)) 6600 := vp_in_nI (by omega) (by omega)
                              refine va_iald hx hb hK hP 5 0 rfl rfl hi_42 dX6_node_288 ?_
                              refine lv_topi (fun x_43 ex_43 => ?_)
                              obtain rfl : x_43 = wf ((3300 * 1) + ii) := by
                                rw [ex_43]
                                rw [nI_clamp (by omega)]
                              refine lv_topi (fun x_44 ex_44 => ?_)
                              obtain rfl : x_44 = nI (pV ZQm ii) := by
                                rw [ex_44]
                                exact h1.W ii (by omega)
                              refine lv_ldc (v := 65535) hx hb hown (hts (.constant RX6 112 (65535)) (by decide +kernel)) dX6_node_289 ?_
                              refine lv_topi (fun x_45 ex_45 => ?_)
                              obtain rfl : x_45 = nI 65535 := by
                                rw [ex_45]
                                rfl
                              refine lv_iand hx hb dX6_node_291 ?_
                              refine lv_topi (fun x_46 ex_46 => ?_)
                              obtain rfl : x_46 = nI (pV ZQm ii % 65536) := by
                                rw [ex_46]
                                exact pk_andN (by omega) 16 (by decide)
                              refine lv_iadd hx hb dX6_node_292 ?_
                              refine lv_topi (fun x_47 ex_47 => ?_)
                              obtain rfl : x_47 = nI (vs_ + (pV ZQm ii % 65536)) := by
                                rw [ex_47]
                                exact nI_add _ _
                              refine lv_istore (lv' := [(4, .int (nI (vs_ + (pV ZQm ii % 65536)))), (0, .ref m), (1, .int (nI 1)), (5, .int (nI ii))]) hx hb dX6_node_293 hl (by decide) rfl (fun ls hl => ?_)
                              refine lv_iinc (v := nI (ii + 1)) (lv' := [(5, .int (nI (ii + 1))), (4, .int (nI (vs_ + (pV ZQm ii % 65536)))), (0, .ref m), (1, .int (nI 1))]) hx hb dX6_node_295 hl (k := 3) rfl (by rw [show Int32.ofInt 1 = nI 1 from by decide]; exact nI_add _ _) (by decide) rfl (fun ls hl => ?_)
                              refine lv_goto (tgt := 265) hx hb dX6_node_298 (by decide) ?_
                              exact ih265 (ii + 1) (vs_ + pV ZQm ii % 65536) (by omega) (by omega) (by rw [low_tk (by omega)]; omega) (by omega) ls (lv_sub hl [2, 3, 1, 0] rfl)
                        exact loop_265 _ (rk ZQm (cdR b (d, X_, Y_))) 0 (by omega) (by omega) (by omega) (Nat.lt_succ_self _) ls (lv_sub hl [2, 3, 1, 0] rfl)
                      · obtain ⟨j_65, hj_65, rfl⟩ := h_65
                        rcases sw_lt5 hj_65 with rfl | rfl | rfl | rfl | rfl
                        · refine lv_tableIn (tgt := 100) hx hb dX6_node_65 (by decide) (by decide) rfl (by decide) ?_
                          refine lv_iconst (v := nI 1) hx hb dX6_node_100 (by decide) ?_
                          refine lv_aload_n hx hb dX6_node_101 rfl (lv_at hl 1 rfl) ?_
                          refine va_get (D := X.1) (ci := 6) (v := .int (nI b)) (C := RX6) (T := TX6) (N := 25) hx hb hts hin6 hown hK hP 0 rfl rfl 2 (by decide) lk57 (fun _ h9 => h9) rfl dX6_node_102 ?_
                          refine lv_aload_n hx hb dX6_node_105 rfl (lv_at hl 1 rfl) ?_
                          refine va_get (D := X.1) (ci := 6) (v := .int (nI (b - d))) (C := RX6) (T := TX6) (N := 25) hx hb hts hin6 hown hK hP 0 rfl rfl 16 (by decide) lk81 (fun _ h9 => h9) rfl dX6_node_106 ?_
                          refine lv_isub hx hb dX6_node_109 ?_
                          refine lv_topi (fun x_48 ex_48 => ?_)
                          obtain rfl : x_48 = nI d := by
                            rw [ex_48]
                            rw [pk_sub (by omega)]
                            congr 1
                            omega
                          refine lv_ishl hx hb dX6_node_110 ?_
                          refine lv_topi (fun x_49 ex_49 => ?_)
                          obtain rfl : x_49 = nI (2 ^ d) := by
                            rw [ex_49]
                            exact bI_1shl (by omega)
                          refine wM hQ ?_
                          exact rtI ((lf1, kf1), (nI Ws.length, nI (b - d), nI (rk ZQm (cdR b (d, X_, Y_))), nI (rk ZQm (cdR b (d, X_, Y_) + 4 ^ d)), lN (cdR b (d, X_, Y_)))) hx hb hr hlocks hP hS ((by show _ = _; rw [sel_1 rfl]; show _ = fct _ x (nI 0); rw [hkk, fct_at hT (by decide) hTl]; show _ = nI (2 ^ d); rfl)) dX6_node_111
                        · refine lv_tableIn (tgt := 112) hx hb dX6_node_65 (by decide) (by decide) rfl (by decide) ?_
                          refine lv_iconst (v := nI 0) hx hb dX6_node_112 (by decide) ?_
                          refine lv_istore (lv' := [(5, .int (nI 0)), (4, .int (nI 0)), (0, .ref m), (1, .int (nI 1)), (2, .int x), (3, .int (nI 1))]) hx hb dX6_node_113 hl (by decide) rfl (fun ls hl => ?_)
                          have loop_115 : ∀ (fu : Nat) (jj : Nat), (jj ≤ b) → b - jj < fu → ∀ (ls : Array Slot), lv_has ls 6 [(0, .ref m), (1, .int (nI 1)), (4, .int (nI ((X_ * 2 ^ d) % 2 ^ jj))), (5, .int (nI jj))] → W pz l ez (headSpec wsX6_node (rmk 5)).room sz mz ([.ref m, .int (nI 1), .int x, .int (nI 1)].toArray) below meth cz H locs 0 0 Q (F0 mz 115 ls []) := by
                            intro fu
                            induction fu with
                            | zero => intro jj hj hfu; exact absurd hfu (Nat.not_lt_zero _)
                            | succ fu ih115 =>
                              intro jj hj hfu ls hl
                              refine lv_iload hx hb dX6_node_115 (lv_at hl 3 rfl) ?_
                              refine lv_aload_n hx hb dX6_node_117 rfl (lv_at hl 0 rfl) ?_
                              refine va_get (D := X.1) (ci := 6) (v := .int (nI b)) (C := RX6) (T := TX6) (N := 25) hx hb hts hin6 hown hK hP 0 rfl rfl 2 (by decide) lk57 (fun _ h9 => h9) rfl dX6_node_118 ?_
                              refine lv_icmp_ge (tgt := 150) hx hb dX6_node_121 (by decide) (fun c_121 => ?_) (fun c_121 => ?_)
                              · replace c_121 : b ≤ jj := (nI_leI (by omega) (by omega)).mp c_121
                                refine lv_iload hx hb dX6_node_150 (lv_at hl 2 rfl) ?_
                                refine wM hQ ?_
                                exact rtI ((lf1, kf1), (nI Ws.length, nI (b - d), nI (rk ZQm (cdR b (d, X_, Y_))), nI (rk ZQm (cdR b (d, X_, Y_) + 4 ^ d)), lN (cdR b (d, X_, Y_)))) hx hb hr hlocks hP hS ((by show _ = _; rw [sel_1 rfl]; show _ = fct _ x (nI 1); rw [hkk, fct_at hT (by decide) hTl]; show _ = nI (X_ * 2 ^ d); rw [show jj = b from by omega, Nat.mod_eq_of_lt hrx.1])) dX6_node_152
                              · replace c_121 : ¬ b ≤ jj := fun h9 => c_121 ((nI_leI (by omega) (by omega)).mpr h9)
                                refine lv_iload hx hb dX6_node_124 (lv_at hl 2 rfl) ?_
                                refine lv_aload_n hx hb dX6_node_126 rfl (lv_at hl 0 rfl) ?_
                                refine va_get (D := X.1) (ci := 6) (v := .long (lN (cdR b (d, X_, Y_)))) (C := RX6) (T := TX6) (N := 25) hx hb hts hin6 hown hK hP 0 rfl rfl 19 (by decide) lk77 (fun _ h9 => h9) rfl dX6_node_127 ?_
                                refine lv_iconst (v := nI 2) hx hb dX6_node_130 (by decide) ?_
                                refine lv_iload hx hb dX6_node_131 (lv_at hl 3 rfl) ?_
                                refine lv_imul hx hb dX6_node_133 ?_
                                refine lv_topi (fun x_50 ex_50 => ?_)
                                obtain rfl : x_50 = nI (2 * jj) := by
                                  rw [ex_50]
                                  exact pk_mul _ _
                                refine lv_lshr (v := (lN (cdR b (d, X_, Y_))) >>> ((nI (2 * jj)).toInt64 &&& 63)) hx hb dX6_node_134 rfl ?_
                                refine lv_topl (fun x_51 ex_51 => ?_)
                                obtain rfl : x_51 = lN (zc b (X_ * 2 ^ d) (Y_ * 2 ^ d) / 4 ^ jj) := by
                                  rw [ex_51]
                                  rw [shr_l (by omega) (by omega), p4, hcz]
                                refine lv_lconst (v := lN 1) hx hb dX6_node_135 (by decide) ?_
                                refine lv_land hx hb dX6_node_136 ?_
                                refine lv_topl (fun x_52 ex_52 => ?_)
                                obtain rfl : x_52 = lN ((X_ * 2 ^ d) / 2 ^ jj % 2) := by
                                  rw [ex_52]
                                  exact (wb_mask (k := 1) (Nat.lt_of_le_of_lt (Nat.div_le_self _ _) (by rw [← hcz]; omega)) (by decide)).trans (by rw [Nat.pow_one, zbx (by omega)])
                                refine lv_l2i (v := nI ((X_ * 2 ^ d) / 2 ^ jj % 2)) hx hb dX6_node_137 (lN_i _) ?_
                                refine lv_iload hx hb dX6_node_138 (lv_at hl 3 rfl) ?_
                                refine lv_ishl hx hb dX6_node_140 ?_
                                refine lv_topi (fun x_53 ex_53 => ?_)
                                obtain rfl : x_53 = nI ((X_ * 2 ^ d) / 2 ^ jj % 2 * 2 ^ jj) := by
                                  rw [ex_53]
                                  exact pk_shlN _ jj (s_l jj (by omega)) (bit_lt (by omega))
                                refine lv_ior hx hb dX6_node_141 ?_
                                refine lv_topi (fun x_54 ex_54 => ?_)
                                obtain rfl : x_54 = nI ((X_ * 2 ^ d) % 2 ^ (jj + 1)) := by
                                  rw [ex_54]
                                  exact or_bit
                                refine lv_istore (lv' := [(4, .int (nI ((X_ * 2 ^ d) % 2 ^ (jj + 1)))), (0, .ref m), (1, .int (nI 1)), (5, .int (nI jj))]) hx hb dX6_node_142 hl (by decide) rfl (fun ls hl => ?_)
                                refine lv_iinc (v := nI (jj + 1)) (lv' := [(5, .int (nI (jj + 1))), (4, .int (nI ((X_ * 2 ^ d) % 2 ^ (jj + 1)))), (0, .ref m), (1, .int (nI 1))]) hx hb dX6_node_144 hl (k := 3) rfl (by rw [show Int32.ofInt 1 = nI 1 from by decide]; exact nI_add _ _) (by decide) rfl (fun ls hl => ?_)
                                refine lv_goto (tgt := 115) hx hb dX6_node_147 (by decide) ?_
                                exact ih115 (jj + 1) (by omega) (by omega) ls (lv_sub hl [2, 3, 1, 0] rfl)
                          have hl : lv_has ls 6 [(5, .int (nI 0)), (4, .int (nI ((X_ * 2 ^ d) % 2 ^ 0))), (0, .ref m), (1, .int (nI 1)), (2, .int x), (3, .int (nI 1))] := by
                            rw [Nat.pow_zero, Nat.mod_one]
                            exact hl
                          exact loop_115 _ 0 (by omega) (Nat.lt_succ_self _) ls (lv_sub hl [2, 3, 1, 0] rfl)
                        · refine lv_tableIn (tgt := 153) hx hb dX6_node_65 (by decide) (by decide) rfl (by decide) ?_
                          refine lv_iconst (v := nI 0) hx hb dX6_node_153 (by decide) ?_
                          refine lv_istore (lv' := [(5, .int (nI 0)), (4, .int (nI 0)), (0, .ref m), (1, .int (nI 1)), (2, .int x), (3, .int (nI 2))]) hx hb dX6_node_154 hl (by decide) rfl (fun ls hl => ?_)
                          have loop_156 : ∀ (fu : Nat) (jj : Nat), (jj ≤ b) → b - jj < fu → ∀ (ls : Array Slot), lv_has ls 6 [(0, .ref m), (1, .int (nI 1)), (4, .int (nI ((Y_ * 2 ^ d) % 2 ^ jj))), (5, .int (nI jj))] → W pz l ez (headSpec wsX6_node (rmk 5)).room sz mz ([.ref m, .int (nI 1), .int x, .int (nI 2)].toArray) below meth cz H locs 0 0 Q (F0 mz 156 ls []) := by
                            intro fu
                            induction fu with
                            | zero => intro jj hj hfu; exact absurd hfu (Nat.not_lt_zero _)
                            | succ fu ih156 =>
                              intro jj hj hfu ls hl
                              refine lv_iload hx hb dX6_node_156 (lv_at hl 3 rfl) ?_
                              refine lv_aload_n hx hb dX6_node_158 rfl (lv_at hl 0 rfl) ?_
                              refine va_get (D := X.1) (ci := 6) (v := .int (nI b)) (C := RX6) (T := TX6) (N := 25) hx hb hts hin6 hown hK hP 0 rfl rfl 2 (by decide) lk57 (fun _ h9 => h9) rfl dX6_node_159 ?_
                              refine lv_icmp_ge (tgt := 193) hx hb dX6_node_162 (by decide) (fun c_162 => ?_) (fun c_162 => ?_)
                              · replace c_162 : b ≤ jj := (nI_leI (by omega) (by omega)).mp c_162
                                refine lv_iload hx hb dX6_node_193 (lv_at hl 2 rfl) ?_
                                refine wM hQ ?_
                                exact rtI ((lf1, kf1), (nI Ws.length, nI (b - d), nI (rk ZQm (cdR b (d, X_, Y_))), nI (rk ZQm (cdR b (d, X_, Y_) + 4 ^ d)), lN (cdR b (d, X_, Y_)))) hx hb hr hlocks hP hS ((by show _ = _; rw [sel_1 rfl]; show _ = fct _ x (nI 2); rw [hkk, fct_at hT (by decide) hTl]; show _ = nI (Y_ * 2 ^ d); rw [show jj = b from by omega, Nat.mod_eq_of_lt hrx.2])) dX6_node_195
                              · replace c_162 : ¬ b ≤ jj := fun h9 => c_162 ((nI_leI (by omega) (by omega)).mpr h9)
                                refine lv_iload hx hb dX6_node_165 (lv_at hl 2 rfl) ?_
                                refine lv_aload_n hx hb dX6_node_167 rfl (lv_at hl 0 rfl) ?_
                                refine va_get (D := X.1) (ci := 6) (v := .long (lN (cdR b (d, X_, Y_)))) (C := RX6) (T := TX6) (N := 25) hx hb hts hin6 hown hK hP 0 rfl rfl 19 (by decide) lk77 (fun _ h9 => h9) rfl dX6_node_168 ?_
                                refine lv_iconst (v := nI 2) hx hb dX6_node_171 (by decide) ?_
                                refine lv_iload hx hb dX6_node_172 (lv_at hl 3 rfl) ?_
                                refine lv_imul hx hb dX6_node_174 ?_
                                refine lv_topi (fun x_55 ex_55 => ?_)
                                obtain rfl : x_55 = nI (2 * jj) := by
                                  rw [ex_55]
                                  exact pk_mul _ _
                                refine lv_iconst (v := nI 1) hx hb dX6_node_175 (by decide) ?_
                                refine lv_iadd hx hb dX6_node_176 ?_
                                refine lv_topi (fun x_56 ex_56 => ?_)
                                obtain rfl : x_56 = nI ((2 * jj) + 1) := by
                                  rw [ex_56]
                                  exact nI_add _ _
                                refine lv_lshr (v := (lN (cdR b (d, X_, Y_))) >>> ((nI ((2 * jj) + 1)).toInt64 &&& 63)) hx hb dX6_node_177 rfl ?_
                                refine lv_topl (fun x_57 ex_57 => ?_)
                                obtain rfl : x_57 = lN (zc b (X_ * 2 ^ d) (Y_ * 2 ^ d) / 4 ^ jj / 2) := by
                                  rw [ex_57]
                                  rw [shr_l (by omega) (by omega), Nat.pow_succ, p4, ← Nat.div_div_eq_div_mul, hcz]
                                refine lv_lconst (v := lN 1) hx hb dX6_node_178 (by decide) ?_
                                refine lv_land hx hb dX6_node_179 ?_
                                refine lv_topl (fun x_58 ex_58 => ?_)
                                obtain rfl : x_58 = lN ((Y_ * 2 ^ d) / 2 ^ jj % 2) := by
                                  rw [ex_58]
                                  exact (wb_mask (k := 1) (Nat.lt_of_le_of_lt (Nat.div_le_self _ _) (Nat.lt_of_le_of_lt (Nat.div_le_self _ _) (by rw [← hcz]; omega))) (by decide)).trans (by rw [Nat.pow_one, zby (by omega)])
                                refine lv_l2i (v := nI ((Y_ * 2 ^ d) / 2 ^ jj % 2)) hx hb dX6_node_180 (lN_i _) ?_
                                refine lv_iload hx hb dX6_node_181 (lv_at hl 3 rfl) ?_
                                refine lv_ishl hx hb dX6_node_183 ?_
                                refine lv_topi (fun x_59 ex_59 => ?_)
                                obtain rfl : x_59 = nI ((Y_ * 2 ^ d) / 2 ^ jj % 2 * 2 ^ jj) := by
                                  rw [ex_59]
                                  exact pk_shlN _ jj (s_l jj (by omega)) (bit_lt (by omega))
                                refine lv_ior hx hb dX6_node_184 ?_
                                refine lv_topi (fun x_60 ex_60 => ?_)
                                obtain rfl : x_60 = nI ((Y_ * 2 ^ d) % 2 ^ (jj + 1)) := by
                                  rw [ex_60]
                                  exact or_bit
                                refine lv_istore (lv' := [(4, .int (nI ((Y_ * 2 ^ d) % 2 ^ (jj + 1)))), (0, .ref m), (1, .int (nI 1)), (5, .int (nI jj))]) hx hb dX6_node_185 hl (by decide) rfl (fun ls hl => ?_)
                                refine lv_iinc (v := nI (jj + 1)) (lv' := [(5, .int (nI (jj + 1))), (4, .int (nI ((Y_ * 2 ^ d) % 2 ^ (jj + 1)))), (0, .ref m), (1, .int (nI 1))]) hx hb dX6_node_187 hl (k := 3) rfl (by rw [show Int32.ofInt 1 = nI 1 from by decide]; exact nI_add _ _) (by decide) rfl (fun ls hl => ?_)
                                refine lv_goto (tgt := 156) hx hb dX6_node_190 (by decide) ?_
                                exact ih156 (jj + 1) (by omega) (by omega) ls (lv_sub hl [2, 3, 1, 0] rfl)
                          have hl : lv_has ls 6 [(5, .int (nI 0)), (4, .int (nI ((Y_ * 2 ^ d) % 2 ^ 0))), (0, .ref m), (1, .int (nI 1)), (2, .int x), (3, .int (nI 2))] := by
                            rw [Nat.pow_zero, Nat.mod_one]
                            exact hl
                          exact loop_156 _ 0 (by omega) (Nat.lt_succ_self _) ls (lv_sub hl [2, 3, 1, 0] rfl)
                        · refine lv_tableIn (tgt := 196) hx hb dX6_node_65 (by decide) (by decide) rfl (by decide) ?_
                          refine lv_aload_n hx hb dX6_node_196 rfl (lv_at hl 1 rfl) ?_
                          refine va_get (D := X.1) (ci := 6) (v := .int (nI (rk ZQm (cdR b (d, X_, Y_) + 4 ^ d)))) (C := RX6) (T := TX6) (N := 25) hx hb hts hin6 hown hK hP 0 rfl rfl 18 (by decide) lk91 (fun _ h9 => h9) rfl dX6_node_197 ?_
                          refine lv_aload_n hx hb dX6_node_200 rfl (lv_at hl 1 rfl) ?_
                          refine va_get (D := X.1) (ci := 6) (v := .int (nI (rk ZQm (cdR b (d, X_, Y_))))) (C := RX6) (T := TX6) (N := 25) hx hb hts hin6 hown hK hP 0 rfl rfl 17 (by decide) lk84 (fun _ h9 => h9) rfl dX6_node_201 ?_
                          refine lv_isub hx hb dX6_node_204 ?_
                          refine lv_topi (fun x_61 ex_61 => ?_)
                          obtain rfl : x_61 = nI ((flt Qm d X_ Y_).length) := by
                            rw [ex_61]
                            rw [hrk, pk_sub (by omega)]
                            congr 1
                            omega
                          refine wM hQ ?_
                          exact rtI ((lf1, kf1), (nI Ws.length, nI (b - d), nI (rk ZQm (cdR b (d, X_, Y_))), nI (rk ZQm (cdR b (d, X_, Y_) + 4 ^ d)), lN (cdR b (d, X_, Y_)))) hx hb hr hlocks hP hS ((by show _ = _; rw [sel_1 rfl]; show _ = fct _ x (nI 3); rw [hkk, fct_at hT (by decide) hTl]; rfl)) dX6_node_205
                        · refine lv_tableIn (tgt := 206) hx hb dX6_node_65 (by decide) (by decide) rfl (by decide) ?_
                          refine lv_iconst (v := nI 0) hx hb dX6_node_206 (by decide) ?_
                          refine lv_istore (lv' := [(5, .int (nI 0)), (4, .int (nI 0)), (0, .ref m), (1, .int (nI 1)), (2, .int x), (3, .int (nI 4))]) hx hb dX6_node_207 hl (by decide) rfl (fun ls hl => ?_)
                          have loop_209 : ∀ (fu : Nat) (qq : Nat) (vm : Nat), (qq ≤ 4) → (((flt Qm d X_ Y_).length ≤ bk ∧ vm = 0) ∨ (¬ (flt Qm d X_ Y_).length ≤ bk ∧ vm = msk (X_ * 2 ^ d) (Y_ * 2 ^ d) (2 ^ (d - 1)) (flt Qm d X_ Y_) qq)) → 4 - qq < fu → ∀ (ls : Array Slot), lv_has ls 6 [(0, .ref m), (1, .int (nI 1)), (4, .int (nI vm)), (5, .int (nI qq))] → W pz l ez (headSpec wsX6_node (rmk 5)).room sz mz ([.ref m, .int (nI 1), .int x, .int (nI 4)].toArray) below meth cz H locs 0 0 Q (F0 mz 209 ls []) := by
                            intro fu
                            induction fu with
                            | zero => intro qq vm hq4 hvm hfu; exact absurd hfu (Nat.not_lt_zero _)
                            | succ fu ih209 =>
                              intro qq vm hq4 hvm hfu ls hl
                              refine lv_iload hx hb dX6_node_209 (lv_at hl 3 rfl) ?_
                              refine lv_iconst (v := nI 4) hx hb dX6_node_211 (by decide) ?_
                              refine lv_icmp_ge (tgt := 256) hx hb dX6_node_212 (by decide) (fun c_212 => ?_) (fun c_212 => ?_)
                              · replace c_212 : 4 ≤ qq := (nI_leI (by omega) (by omega)).mp c_212
                                refine lv_iload hx hb dX6_node_256 (lv_at hl 2 rfl) ?_
                                have hv9 : vm = (if (flt Qm d X_ Y_).length ≤ bk then 0 else msk (X_ * 2 ^ d) (Y_ * 2 ^ d) (2 ^ (d - 1)) (flt Qm d X_ Y_) 4) := by
                                  by_cases hle : (flt Qm d X_ Y_).length ≤ bk
                                  · rw [if_pos hle]; rcases hvm with ⟨z1, z2⟩ | ⟨z1, z2⟩ <;> omega
                                  · rw [if_neg hle]; rcases hvm with ⟨z1, z2⟩ | ⟨z1, z2⟩
                                    · omega
                                    · rw [z2, show qq = 4 from by omega]
                                refine wM hQ ?_
                                exact rtI ((lf1, kf1), (nI Ws.length, nI (b - d), nI (rk ZQm (cdR b (d, X_, Y_))), nI (rk ZQm (cdR b (d, X_, Y_) + 4 ^ d)), lN (cdR b (d, X_, Y_)))) hx hb hr hlocks hP hS ((by show _ = _; rw [sel_1 rfl]; show _ = fct _ x (nI 4); rw [hkk, fct_at hT (by decide) hTl]; show nI vm = nI (if (flt Qm d X_ Y_).length ≤ bk then 0 else msk (X_ * 2 ^ d) (Y_ * 2 ^ d) (2 ^ (d - 1)) (flt Qm d X_ Y_) 4); rw [← hv9])) dX6_node_258
                              · replace c_212 : ¬ 4 ≤ qq := fun h9 => c_212 ((nI_leI (by omega) (by omega)).mpr h9)
                                refine lv_aload_n hx hb dX6_node_215 rfl (lv_at hl 0 rfl) ?_
                                refine va_get (D := X.1) (ci := 6) (v := .int (nI (rk ZQm (cdR b (d, X_, Y_) + 4 ^ d)))) (C := RX6) (T := TX6) (N := 25) hx hb hts hin6 hown hK hP 0 rfl rfl 18 (by decide) lk91 (fun _ h9 => h9) rfl dX6_node_216 ?_
                                refine lv_aload_n hx hb dX6_node_219 rfl (lv_at hl 0 rfl) ?_
                                refine va_get (D := X.1) (ci := 6) (v := .int (nI (rk ZQm (cdR b (d, X_, Y_))))) (C := RX6) (T := TX6) (N := 25) hx hb hts hin6 hown hK hP 0 rfl rfl 17 (by decide) lk84 (fun _ h9 => h9) rfl dX6_node_220 ?_
                                refine lv_isub hx hb dX6_node_223 ?_
                                refine lv_topi (fun x_62 ex_62 => ?_)
                                obtain rfl : x_62 = nI ((flt Qm d X_ Y_).length) := by
                                  rw [ex_62]
                                  rw [hrk, pk_sub (by omega)]
                                  congr 1
                                  omega
                                refine lv_aload_n hx hb dX6_node_224 rfl (lv_at hl 0 rfl) ?_
                                refine va_get (D := X.1) (ci := 6) (v := .int (nI bk)) (C := RX6) (T := TX6) (N := 25) hx hb hts hin6 hown hK hP 0 rfl rfl 1 (by decide) lk54 (fun _ h9 => h9) rfl dX6_node_225 ?_
                                refine lv_icmp_le (tgt := 256) hx hb dX6_node_228 (by decide) (fun c_228 => ?_) (fun c_228 => ?_)
                                · replace c_228 : ((flt Qm d X_ Y_).length) ≤ bk := (nI_leI (by omega) (by omega)).mp c_228
                                  refine lv_iload hx hb dX6_node_256 (lv_at hl 2 rfl) ?_
                                  have hv9 : vm = (if (flt Qm d X_ Y_).length ≤ bk then 0 else msk (X_ * 2 ^ d) (Y_ * 2 ^ d) (2 ^ (d - 1)) (flt Qm d X_ Y_) 4) := by
                                    by_cases hle : (flt Qm d X_ Y_).length ≤ bk
                                    · rw [if_pos hle]; rcases hvm with ⟨z1, z2⟩ | ⟨z1, z2⟩ <;> omega
                                    · rw [if_neg hle]; rcases hvm with ⟨z1, z2⟩ | ⟨z1, z2⟩
                                      · omega
                                      · rw [z2, show qq = 4 from by omega]
                                  refine wM hQ ?_
                                  exact rtI ((lf1, kf1), (nI Ws.length, nI (b - d), nI (rk ZQm (cdR b (d, X_, Y_))), nI (rk ZQm (cdR b (d, X_, Y_) + 4 ^ d)), lN (cdR b (d, X_, Y_)))) hx hb hr hlocks hP hS ((by show _ = _; rw [sel_1 rfl]; show _ = fct _ x (nI 4); rw [hkk, fct_at hT (by decide) hTl]; show nI vm = nI (if (flt Qm d X_ Y_).length ≤ bk then 0 else msk (X_ * 2 ^ d) (Y_ * 2 ^ d) (2 ^ (d - 1)) (flt Qm d X_ Y_) 4); rw [← hv9])) dX6_node_258
                                · replace c_228 : ¬ ((flt Qm d X_ Y_).length) ≤ bk := fun h9 => c_228 ((nI_leI (by omega) (by omega)).mpr h9)
                                  have hdp : 1 ≤ d := by
                                    rcases Nat.eq_zero_or_pos d with z | z
                                    · subst z
                                      have := flt_1 (b := b) h1.L.2.1 X_ Y_
                                      omega
                                    · exact z
                                  obtain ⟨e, rfl⟩ : ∃ e, d = e + 1 := ⟨d - 1, by omega⟩
                                  have hsub := ch_sub (L := Qm) (d := e) (X := X_) (Y := Y_) (q := qq) (by omega)
                                  · skip
                                    refine lv_aload_n hx hb dX6_node_231 rfl (lv_at hl 0 rfl) ?_
                                    refine lv_iload_n hx hb dX6_node_232 rfl (lv_at hl 1 rfl) ?_
                                    refine lv_iload hx hb dX6_node_233 (lv_at hl 3 rfl) ?_
                                    refine ckVRi (As := [.int (nI 1), .int (nI qq)]) (rest := []) 0 [0, 1, 2] (c_X6_part l X m bl bk b sp mn xr yr vr cr wr nc wl wc rx ry rv fr (nI 0) f_ar (nI Ws.length) (nI (rk ZQm (cdR b ((e + 1), X_, Y_)))) (nI (rk ZQm (cdR b ((e + 1), X_, Y_) + 4 ^ (e + 1)))) f_rs qq e X_ Y_ 1 mf cf Qm ZQm (by decide) h1.mz h1.C h1.Z h1.I h1.L hb1 hrg (by omega)) ⟨hx, hb, hml, hown, hts⟩ (cwV 2 hts gX6_node_X6_part rfl rfl rfl (by decide +kernel) ⟨Nat.le_of_ble_eq_true rfl, Nat.le_of_ble_eq_true rfl⟩) hK hN hP hD (by decide) rfl (ci := 6) rfl rfl rfl hl.1 rfl (Nat.le_of_ble_eq_true rfl) dX6_node_235 ⟨Nat.zero_le _, Nat.zero_le _⟩ (fun r_63 hc_235 => ?_)
                                    subst hc_235
                                    have hfl : (flt Qm e (2 * X_ + qq % 2) (2 * Y_ + qq / 2)).length ≤ 512 := Nat.le_trans (List.length_filter_le _ _) h1.L.1
                                    refine lv_if_le (tgt := 250) hx hb dX6_node_238 (by decide) (fun c_238 => ?_) (fun c_238 => ?_)
                                    · change nI ((flt Qm e (2 * X_ + qq % 2) (2 * Y_ + qq / 2)).length) ≤ nI 0 at c_238
                                      replace c_238 : ((flt Qm e (2 * X_ + qq % 2) (2 * Y_ + qq / 2)).length) ≤ 0 := (nI_leI (by omega) (by omega)).mp c_238
                                      have hms : vm = msk (X_ * 2 ^ (e + 1)) (Y_ * 2 ^ (e + 1)) (2 ^ (e + 1 - 1)) (flt Qm (e + 1) X_ Y_) (qq + 1) := by
                                        rcases hvm with ⟨z1, z2⟩ | ⟨z1, z2⟩
                                        · omega
                                        · rw [z2, Nat.add_sub_cancel]
                                          show _ = _ + (if (sub _ _ _ _ _).length = 0 then 0 else 2 ^ qq)
                                          rw [hsub, if_pos (by omega)]
                                          rfl
                                      refine lv_iinc (v := nI (qq + 1)) (lv' := [(5, .int (nI (qq + 1))), (0, .ref m), (1, .int (nI 1)), (4, .int (nI vm))]) hx hb dX6_node_250 hl (k := 3) rfl (by rw [show Int32.ofInt 1 = nI 1 from by decide]; exact nI_add _ _) (by decide) rfl (fun ls hl => ?_)
                                      refine lv_goto (tgt := 209) hx hb dX6_node_253 (by decide) ?_
                                      exact ih209 (qq + 1) vm (by omega) (by exact Or.inr ⟨by omega, hms⟩) (by omega) ls (lv_sub hl [1, 2, 3, 0] rfl)
                                    · change ¬ (nI ((flt Qm e (2 * X_ + qq % 2) (2 * Y_ + qq / 2)).length) ≤ nI 0) at c_238
                                      replace c_238 : ¬ ((flt Qm e (2 * X_ + qq % 2) (2 * Y_ + qq / 2)).length) ≤ 0 := fun h9 => c_238 ((nI_leI (by omega) (by omega)).mpr h9)
                                      have hms : vm + 2 ^ qq = msk (X_ * 2 ^ (e + 1)) (Y_ * 2 ^ (e + 1)) (2 ^ (e + 1 - 1)) (flt Qm (e + 1) X_ Y_) (qq + 1) := by
                                        rcases hvm with ⟨z1, z2⟩ | ⟨z1, z2⟩
                                        · omega
                                        · rw [z2, Nat.add_sub_cancel]
                                          show _ = _ + (if (sub _ _ _ _ _).length = 0 then 0 else 2 ^ qq)
                                          rw [hsub, if_neg (by omega)]
                                      refine lv_iload hx hb dX6_node_241 (lv_at hl 2 rfl) ?_
                                      refine lv_iconst (v := nI 1) hx hb dX6_node_243 (by decide) ?_
                                      refine lv_iload hx hb dX6_node_244 (lv_at hl 3 rfl) ?_
                                      refine lv_ishl hx hb dX6_node_246 ?_
                                      refine lv_topi (fun x_64 ex_64 => ?_)
                                      obtain rfl : x_64 = nI (2 ^ qq) := by
                                        rw [ex_64]
                                        exact bI_1shl (by omega)
                                      refine lv_ior hx hb dX6_node_247 ?_
                                      refine lv_topi (fun x_65 ex_65 => ?_)
                                      obtain rfl : x_65 = nI (vm + 2 ^ qq) := by
                                        rw [ex_65]
                                        refine or_msk ?_
                                        rcases hvm with ⟨z1, z2⟩ | ⟨z1, z2⟩
                                        · rw [z2]; exact Nat.pow_pos (by decide)
                                        · rw [z2]; exact msk_lt _ _ _ _ _
                                      refine lv_istore (lv' := [(4, .int (nI (vm + 2 ^ qq))), (0, .ref m), (1, .int (nI 1)), (5, .int (nI qq))]) hx hb dX6_node_248 hl (by decide) rfl (fun ls hl => ?_)
                                      refine lv_iinc (v := nI (qq + 1)) (lv' := [(5, .int (nI (qq + 1))), (4, .int (nI (vm + 2 ^ qq))), (0, .ref m), (1, .int (nI 1))]) hx hb dX6_node_250 hl (k := 3) rfl (by rw [show Int32.ofInt 1 = nI 1 from by decide]; exact nI_add _ _) (by decide) rfl (fun ls hl => ?_)
                                      refine lv_goto (tgt := 209) hx hb dX6_node_253 (by decide) ?_
                                      exact ih209 (qq + 1) (vm + 2 ^ qq) (by omega) (by exact Or.inr ⟨by omega, hms⟩) (by omega) ls (lv_sub hl [2, 3, 1, 0] rfl)
                          exact loop_209 _ 0 0 (by omega) (by by_cases hle : (flt Qm d X_ Y_).length ≤ bk; exact Or.inl ⟨hle, rfl⟩; exact Or.inr ⟨hle, rfl⟩) (Nat.lt_succ_self _) ls (lv_sub hl [2, 3, 1, 0] rfl)
                    · replace c_42 : ¬ kk < i := fun h9 => c_42 ((nI_ltI (by omega) (by omega)).mpr h9)
                      rcases w_cases Ws with rfl | ⟨W0, X_, Y_, rfl⟩ | ⟨W0, d, X_, Y_, rfl⟩
                      · skip
                        have hP : va_P X.1 vwCl [(m, .inr (6, [.int (nI bl), .int (nI bk), .int (nI b), .int (nI sp), .ref mn, .ref xr, .ref yr, .ref vr, .ref cr, .ref wr, .int (nI nc), .int (nI 0), .int f_ar, .ref wl, .ref wc, .int (nI 0), .int lv1, .int fi1, .int en1, .long cd1, .ref rx, .ref ry, .ref rv, .ref fr, .int f_rs])), (mn, .inl (X.2.1, 2, .inl mf)), (cr, .inl (X.2.2, 6600, .inr (.inl cf))), (wl, .inl (X.2.1, 80, .inl lf1)), (wc, .inl (X.2.2, 80, .inr (.inl kf1))), (wr, .inl (X.2.1, 6600, .inl wf))] _ := hP
                        have hD : va_D A_ [(m, .inr (6, [.int (nI bl), .int (nI bk), .int (nI b), .int (nI sp), .ref mn, .ref xr, .ref yr, .ref vr, .ref cr, .ref wr, .int (nI nc), .int (nI 0), .int f_ar, .ref wl, .ref wc, .int (nI 0), .int lv1, .int fi1, .int en1, .long cd1, .ref rx, .ref ry, .ref rv, .ref fr, .int f_rs])), (mn, .inl (X.2.1, 2, .inl mf)), (cr, .inl (X.2.2, 6600, .inr (.inl cf))), (wl, .inl (X.2.1, 80, .inl lf1)), (wc, .inl (X.2.2, 80, .inr (.inl kf1))), (wr, .inl (X.2.1, 6600, .inl wf))] := hD
                        refine lv_aload_n hx hb dX6_node_45 rfl (lv_at hl 0 rfl) ?_
                        refine lv_iload_n hx hb dX6_node_46 rfl (lv_at hl 1 rfl) ?_
                        refine ckVRi (As := [.int (nI 1)]) (rest := []) 0 [0] (c_X6_comes_0 l X m bl bk b sp mn xr yr vr cr wr nc wl wc rx ry rv fr (nI 0) f_ar lv1 fi1 en1 f_rs cd1 1) ⟨hx, hb, hml, hown, hts⟩ (cwV 1 hts gX6_node_X6_comes rfl rfl rfl (by decide +kernel) ⟨Nat.le_of_ble_eq_true rfl, Nat.le_of_ble_eq_true rfl⟩) hK hN hP hD (by decide) rfl (ci := 6) rfl rfl rfl hl.1 rfl (Nat.le_of_ble_eq_true rfl) dX6_node_47 ⟨Nat.zero_le _, Nat.zero_le _⟩ (fun r_66 hc_47 => ?_)
                        subst hc_47
                        refine lv_if_ne (tgt := 55) hx hb dX6_node_50 (by decide) (fun c_50 => ?_) (fun c_50 => ?_)
                        · exact absurd c_50 (by decide)
                        · skip
                          refine lv_iconst (v := (-1)) hx hb dX6_node_53 (by decide) ?_
                          have hdn : (tr bk b 0 0 Qm).length ≤ i := List.drop_eq_nil_iff.mp h2.symm
                          refine wM hQ ?_
                          exact rtI ((lf1, kf1), (nI 0, lv1, fi1, en1, cd1)) hx hb hr hlocks hP hS ((by show _ = _; rw [sel_1 rfl]; show _ = fct _ x y; rw [hkk]; unfold fct; exact (if_neg (fun z => z.2.1 (nI_le (by omega) (by omega)))).symm)) dX6_node_54
                      · skip
                        rw [List.length_append] at hP hD
                        have hP : va_P X.1 vwCl [(m, .inr (6, [.int (nI bl), .int (nI bk), .int (nI b), .int (nI sp), .ref mn, .ref xr, .ref yr, .ref vr, .ref cr, .ref wr, .int (nI nc), .int (nI 0), .int f_ar, .ref wl, .ref wc, .int (nI (W0.length + 1)), .int lv1, .int fi1, .int en1, .long cd1, .ref rx, .ref ry, .ref rv, .ref fr, .int f_rs])), (mn, .inl (X.2.1, 2, .inl mf)), (cr, .inl (X.2.2, 6600, .inr (.inl cf))), (wl, .inl (X.2.1, 80, .inl lf1)), (wc, .inl (X.2.2, 80, .inr (.inl kf1))), (wr, .inl (X.2.1, 6600, .inl wf))] _ := hP
                        have hD : va_D A_ [(m, .inr (6, [.int (nI bl), .int (nI bk), .int (nI b), .int (nI sp), .ref mn, .ref xr, .ref yr, .ref vr, .ref cr, .ref wr, .int (nI nc), .int (nI 0), .int f_ar, .ref wl, .ref wc, .int (nI (W0.length + 1)), .int lv1, .int fi1, .int en1, .long cd1, .ref rx, .ref ry, .ref rv, .ref fr, .int f_rs])), (mn, .inl (X.2.1, 2, .inl mf)), (cr, .inl (X.2.2, 6600, .inr (.inl cf))), (wl, .inl (X.2.1, 80, .inl lf1)), (wc, .inl (X.2.2, 80, .inr (.inl kf1))), (wr, .inl (X.2.1, 6600, .inl wf))] := hD
                        refine lv_aload_n hx hb dX6_node_45 rfl (lv_at hl 0 rfl) ?_
                        refine lv_iload_n hx hb dX6_node_46 rfl (lv_at hl 1 rfl) ?_
                        refine ckVi (As := [.int (nI 1)]) (rest := []) 0 [0, 1, 2, 3, 4] (c_X6_comes_z l X m bl bk b sp mn xr yr vr cr wr nc wl wc rx ry rv fr (nI 0) f_ar lv1 fi1 en1 f_rs cd1 X_ Y_ 1 mf cf Qm ZQm (by decide) h1.mz h1.C h1.Z h1.I h1.L hb1 W0 lf1 kf1 hwk hbk hbk2) ⟨hx, hb, hml, hown, hts⟩ (cwV 1 hts gX6_node_X6_comes rfl rfl rfl (by decide +kernel) ⟨Nat.le_of_ble_eq_true rfl, Nat.le_of_ble_eq_true rfl⟩) hK hN hP hD hS (by decide) rfl (ci := 6) rfl rfl (fun _ => rfl) rfl hl.1 rfl (Nat.le_of_ble_eq_true rfl) dX6_node_47 ⟨Nat.zero_le _, Nat.zero_le _⟩ (fun r_68 u_67 H locs hc_47 hP hD hS => ?_)
                        obtain ⟨lf2, kf2, W2⟩ := u_67
                        have hP : va_P X.1 vwCl [(m, .inr (6, [.int (nI bl), .int (nI bk), .int (nI b), .int (nI sp), .ref mn, .ref xr, .ref yr, .ref vr, .ref cr, .ref wr, .int (nI nc), .int (nI 0), .int f_ar, .ref wl, .ref wc, .int (nI ((W2).length)), .int (nI (b - (0))), .int (nI (rk ZQm (cdR b (0, X_, Y_)))), .int (nI (rk ZQm (cdR b (0, X_, Y_) + 4 ^ (0)))), .long (lN (cdR b (0, X_, Y_))), .ref rx, .ref ry, .ref rv, .ref fr, .int f_rs])), (mn, .inl (X.2.1, 2, .inl mf)), (cr, .inl (X.2.2, 6600, .inr (.inl cf))), (wl, .inl (X.2.1, 80, .inl lf2)), (wc, .inl (X.2.2, 80, .inr (.inl kf2))), (wr, .inl (X.2.1, 6600, .inl wf))] H := hP
                        have hD : va_D A_ [(m, .inr (6, [.int (nI bl), .int (nI bk), .int (nI b), .int (nI sp), .ref mn, .ref xr, .ref yr, .ref vr, .ref cr, .ref wr, .int (nI nc), .int (nI 0), .int f_ar, .ref wl, .ref wc, .int (nI ((W2).length)), .int (nI (b - (0))), .int (nI (rk ZQm (cdR b (0, X_, Y_)))), .int (nI (rk ZQm (cdR b (0, X_, Y_) + 4 ^ (0)))), .long (lN (cdR b (0, X_, Y_))), .ref rx, .ref ry, .ref rv, .ref fr, .int f_rs])), (mn, .inl (X.2.1, 2, .inl mf)), (cr, .inl (X.2.2, 6600, .inr (.inl cf))), (wl, .inl (X.2.1, 80, .inl lf2)), (wc, .inl (X.2.2, 80, .inr (.inl kf2))), (wr, .inl (X.2.1, 6600, .inl wf))] := hD
                        try dsimp only at hc_47
                        obtain ⟨rfl, hw2, hrm⟩ := hc_47
                        · skip
                          have hrc := rem_cons h1.L.2.1 hbk hrm
                          rw [h2] at hrc
                          obtain ⟨hT9, hT8, hT7⟩ := drop_hd hrc.symm
                          have hr9 := (hwk W0.length (by simp)).2.2.1
                          rw [rg_get] at hr9
                          refine lv_if_ne (tgt := 55) hx hb dX6_node_50 (by decide) (fun c_50 => ?_) (fun c_50 => ?_)
                          · skip
                            refine lv_iinc (v := nI (i + 1)) (lv' := [(4, .int (nI (i + 1))), (0, .ref m), (1, .int (nI 1)), (2, .int x), (3, .int y)]) hx hb dX6_node_55 hl (k := 4) rfl (by rw [show Int32.ofInt 1 = nI 1 from by decide]; exact nI_add _ _) (by decide) rfl (fun ls hl => ?_)
                            refine lv_goto (tgt := 39) hx hb dX6_node_58 (by decide) ?_
                            exact ih39 (i + 1) W2 lf2 kf2 (nI (b - (0))) (nI (rk ZQm (cdR b (0, X_, Y_)))) (nI (rk ZQm (cdR b (0, X_, Y_) + 4 ^ (0)))) (lN (cdR b (0, X_, Y_))) (0, X_, Y_) (by exact hw2) (by exact hT8) (by exact Or.inr ⟨by rw [Nat.add_sub_cancel]; exact hT9, hr9, rfl, rfl, rfl, rfl⟩) (by omega) (by omega) (by omega) _ _ hP hD hS ls (lv_sub hl [1, 2, 3, 4, 0] rfl)
                          · exact absurd c_50 (by decide)
                      · skip
                        rw [List.length_append] at hP hD
                        have hP : va_P X.1 vwCl [(m, .inr (6, [.int (nI bl), .int (nI bk), .int (nI b), .int (nI sp), .ref mn, .ref xr, .ref yr, .ref vr, .ref cr, .ref wr, .int (nI nc), .int (nI 0), .int f_ar, .ref wl, .ref wc, .int (nI (W0.length + 1)), .int lv1, .int fi1, .int en1, .long cd1, .ref rx, .ref ry, .ref rv, .ref fr, .int f_rs])), (mn, .inl (X.2.1, 2, .inl mf)), (cr, .inl (X.2.2, 6600, .inr (.inl cf))), (wl, .inl (X.2.1, 80, .inl lf1)), (wc, .inl (X.2.2, 80, .inr (.inl kf1))), (wr, .inl (X.2.1, 6600, .inl wf))] _ := hP
                        have hD : va_D A_ [(m, .inr (6, [.int (nI bl), .int (nI bk), .int (nI b), .int (nI sp), .ref mn, .ref xr, .ref yr, .ref vr, .ref cr, .ref wr, .int (nI nc), .int (nI 0), .int f_ar, .ref wl, .ref wc, .int (nI (W0.length + 1)), .int lv1, .int fi1, .int en1, .long cd1, .ref rx, .ref ry, .ref rv, .ref fr, .int f_rs])), (mn, .inl (X.2.1, 2, .inl mf)), (cr, .inl (X.2.2, 6600, .inr (.inl cf))), (wl, .inl (X.2.1, 80, .inl lf1)), (wc, .inl (X.2.2, 80, .inr (.inl kf1))), (wr, .inl (X.2.1, 6600, .inl wf))] := hD
                        refine lv_aload_n hx hb dX6_node_45 rfl (lv_at hl 0 rfl) ?_
                        refine lv_iload_n hx hb dX6_node_46 rfl (lv_at hl 1 rfl) ?_
                        refine ckVi (As := [.int (nI 1)]) (rest := []) 0 [0, 1, 2, 3, 4] (c_X6_comes_s l X m bl bk b sp mn xr yr vr cr wr nc wl wc rx ry rv fr (nI 0) f_ar lv1 fi1 en1 f_rs cd1 d X_ Y_ 1 mf cf Qm ZQm (by decide) h1.mz h1.C h1.Z h1.I h1.L hb1 W0 lf1 kf1 hwk hbk hbk2) ⟨hx, hb, hml, hown, hts⟩ (cwV 1 hts gX6_node_X6_comes rfl rfl rfl (by decide +kernel) ⟨Nat.le_of_ble_eq_true rfl, Nat.le_of_ble_eq_true rfl⟩) hK hN hP hD hS (by decide) rfl (ci := 6) rfl rfl (fun _ => rfl) rfl hl.1 rfl (Nat.le_of_ble_eq_true rfl) dX6_node_47 ⟨Nat.zero_le _, Nat.zero_le _⟩ (fun r_70 u_69 H locs hc_47 hP hD hS => ?_)
                        obtain ⟨lf2, kf2, W2⟩ := u_69
                        have hP : va_P X.1 vwCl [(m, .inr (6, [.int (nI bl), .int (nI bk), .int (nI b), .int (nI sp), .ref mn, .ref xr, .ref yr, .ref vr, .ref cr, .ref wr, .int (nI nc), .int (nI 0), .int f_ar, .ref wl, .ref wc, .int (nI ((W2).length)), .int (nI (b - (d + 1))), .int (nI (rk ZQm (cdR b (d + 1, X_, Y_)))), .int (nI (rk ZQm (cdR b (d + 1, X_, Y_) + 4 ^ (d + 1)))), .long (lN (cdR b (d + 1, X_, Y_))), .ref rx, .ref ry, .ref rv, .ref fr, .int f_rs])), (mn, .inl (X.2.1, 2, .inl mf)), (cr, .inl (X.2.2, 6600, .inr (.inl cf))), (wl, .inl (X.2.1, 80, .inl lf2)), (wc, .inl (X.2.2, 80, .inr (.inl kf2))), (wr, .inl (X.2.1, 6600, .inl wf))] H := hP
                        have hD : va_D A_ [(m, .inr (6, [.int (nI bl), .int (nI bk), .int (nI b), .int (nI sp), .ref mn, .ref xr, .ref yr, .ref vr, .ref cr, .ref wr, .int (nI nc), .int (nI 0), .int f_ar, .ref wl, .ref wc, .int (nI ((W2).length)), .int (nI (b - (d + 1))), .int (nI (rk ZQm (cdR b (d + 1, X_, Y_)))), .int (nI (rk ZQm (cdR b (d + 1, X_, Y_) + 4 ^ (d + 1)))), .long (lN (cdR b (d + 1, X_, Y_))), .ref rx, .ref ry, .ref rv, .ref fr, .int f_rs])), (mn, .inl (X.2.1, 2, .inl mf)), (cr, .inl (X.2.2, 6600, .inr (.inl cf))), (wl, .inl (X.2.1, 80, .inl lf2)), (wc, .inl (X.2.2, 80, .inr (.inl kf2))), (wr, .inl (X.2.1, 6600, .inl wf))] := hD
                        try dsimp only at hc_47
                        obtain ⟨rfl, hw2, hrm⟩ := hc_47
                        · skip
                          have hrc := rem_cons h1.L.2.1 hbk hrm
                          rw [h2] at hrc
                          obtain ⟨hT9, hT8, hT7⟩ := drop_hd hrc.symm
                          have hr9 := (hwk W0.length (by simp)).2.2.1
                          rw [rg_get] at hr9
                          refine lv_if_ne (tgt := 55) hx hb dX6_node_50 (by decide) (fun c_50 => ?_) (fun c_50 => ?_)
                          · skip
                            refine lv_iinc (v := nI (i + 1)) (lv' := [(4, .int (nI (i + 1))), (0, .ref m), (1, .int (nI 1)), (2, .int x), (3, .int y)]) hx hb dX6_node_55 hl (k := 4) rfl (by rw [show Int32.ofInt 1 = nI 1 from by decide]; exact nI_add _ _) (by decide) rfl (fun ls hl => ?_)
                            refine lv_goto (tgt := 39) hx hb dX6_node_58 (by decide) ?_
                            exact ih39 (i + 1) W2 lf2 kf2 (nI (b - (d + 1))) (nI (rk ZQm (cdR b (d + 1, X_, Y_)))) (nI (rk ZQm (cdR b (d + 1, X_, Y_) + 4 ^ (d + 1)))) (lN (cdR b (d + 1, X_, Y_))) (d + 1, X_, Y_) (by exact hw2) (by exact hT8) (by exact Or.inr ⟨by rw [Nat.add_sub_cancel]; exact hT9, hr9, rfl, rfl, rfl, rfl⟩) (by omega) (by omega) (by omega) _ _ hP hD hS ls (lv_sub hl [1, 2, 3, 4, 0] rfl)
                          · exact absurd c_50 (by decide)
                have hP : va_P X.1 vwCl [(m, .inr (6, [.int (nI bl), .int (nI bk), .int (nI b), .int (nI sp), .ref mn, .ref xr, .ref yr, .ref vr, .ref cr, .ref wr, .int (nI nc), .int (nI 0), .int f_ar, .ref wl, .ref wc, .int (nI (([(b, 0, 0)] : List Rg).length)), .int f_lv, .int f_fi, .int f_en, .long f_cd, .ref rx, .ref ry, .ref rv, .ref fr, .int f_rs])), (mn, .inl (X.2.1, 2, .inl mf)), (cr, .inl (X.2.2, 6600, .inr (.inl cf))), (wl, .inl (X.2.1, 80, .inl lf0)), (wc, .inl (X.2.2, 80, .inr (.inl kf0))), (wr, .inl (X.2.1, 6600, .inl wf))] _ := hP
                have hD : va_D A_ [(m, .inr (6, [.int (nI bl), .int (nI bk), .int (nI b), .int (nI sp), .ref mn, .ref xr, .ref yr, .ref vr, .ref cr, .ref wr, .int (nI nc), .int (nI 0), .int f_ar, .ref wl, .ref wc, .int (nI (([(b, 0, 0)] : List Rg).length)), .int f_lv, .int f_fi, .int f_en, .long f_cd, .ref rx, .ref ry, .ref rv, .ref fr, .int f_rs])), (mn, .inl (X.2.1, 2, .inl mf)), (cr, .inl (X.2.2, 6600, .inr (.inl cf))), (wl, .inl (X.2.1, 80, .inl lf0)), (wc, .inl (X.2.2, 80, .inr (.inl kf0))), (wr, .inl (X.2.1, 6600, .inl wf))] := hD
                exact loop_39 _ 0 ([(b, 0, 0)]) lf0 kf0 f_lv f_fi f_en f_cd rg0 (by exact wOk_init hbe.1 hbe.2) (by rw [rem_init h1.I]; rfl) (by exact Or.inl rfl) (by omega) (by omega) (Nat.lt_succ_self _) _ _ hP hD hS ls (lv_sub hl [1, 2, 3, 4, 0] rfl)
              · skip
                refine lv_iconst (v := (-1)) hx hb dX6_node_30 (by decide) ?_
                refine wM hQ ?_
                exact rtI ((lf, kf), (f_wt, f_lv, f_fi, f_en, f_cd)) hx hb hr hlocks hP hS ((by show _ = _; rw [sel_1 rfl]; show _ = fct _ x y; unfold fct; exact (if_neg (fun z => by first | exact z.1 c_18 | exact z.2.2.1 c_22 | exact c_27 ((lt6 y).mp z.2.2.2))).symm)) dX6_node_31
      · skip
        exact absurd (Or.inr rfl) hc_11
    · skip
      skip
      refine lv_iload_n hx hb dX6_node_10 rfl (lv_at hl 1 rfl) ?_
      refine ckSRi (As := [.int s_]) (rest := []) [] (c_X6_isState l X s_) ⟨hx, hb, hml, hown, hts⟩ (va_cwS 1 hts gX6_node_X6_isState rfl rfl rfl (by decide +kernel) ⟨Nat.le_of_ble_eq_true rfl, Nat.le_of_ble_eq_true rfl⟩) hK hN hP hD (by decide) rfl rfl hl.1 rfl (Nat.le_of_ble_eq_true rfl) dX6_node_11 ⟨Nat.zero_le _, Nat.zero_le _⟩ (fun r_71 hc_11 => ?_)
      rcases hc_11 with ⟨hc_11, rfl⟩ | ⟨hc_11, rfl⟩
      · skip
        exact absurd hc_11 (fun z => z.elim hs.1 hs.2)
      · skip
        refine lv_if_eq (tgt := 30) hx hb dX6_node_14 (by decide) (fun c_14 => ?_) (fun c_14 => ?_)
        · skip
          refine lv_iconst (v := (-1)) hx hb dX6_node_30 (by decide) ?_
          refine wM hQ ?_
          exact rtI ((lf, kf), (f_wt, f_lv, f_fi, f_en, f_cd)) hx hb hr hlocks hP hS ((by show _ = _; rw [sel_n hs.1 hs.2]; rfl)) dX6_node_31
        · exact absurd c_14 (by decide)
  · exact absurd c_4 (by decide)
