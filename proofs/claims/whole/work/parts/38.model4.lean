/-! PointStoreModel: nodes, depth: contracts, laid by program (wip/gen/spec_m4.py) -/
set_option maxHeartbeats 4000000 in
set_option maxRecDepth 100000 in
theorem c_X6_nodes (l : Launch) (X : kX) (m bl bk b sp mn xr yr vr cr wr nc wl wc rx ry rv fr : Nat) (f_of f_ar f_wt f_lv f_fi f_en f_rs : Int32) (f_cd : Int64) (s : Nat) (mf : Nat → Int32) (cf : Nat → Int64) (L Z : PL) (hs : s ≤ 1) (hm : mf s = nI Z.length) (hC : mC cf s Z) (hz : zOk b L Z) (hi : insd b L) (hL : lOk L) (hb1 : b ≤ 15) (lf : Nat → Int32) (kf : Nat → Int64) (hbk : 1 ≤ bk) (hbk2 : bk ≤ 8) : CWi l X yX6_nodes wsX6_nodes 4 [.ref m, .int (nI s)] [(m, .inr (6, [.int (nI bl), .int (nI bk), .int (nI b), .int (nI sp), .ref mn, .ref xr, .ref yr, .ref vr, .ref cr, .ref wr, .int (nI nc), .int f_of, .int f_ar, .ref wl, .ref wc, .int f_wt, .int f_lv, .int f_fi, .int f_en, .long f_cd, .ref rx, .ref ry, .ref rv, .ref fr, .int f_rs])), (mn, .inl (X.2.1, 2, .inl mf)), (cr, .inl (X.2.2, 6600, .inr (.inl cf))), (wl, .inl (X.2.1, 80, .inl lf)), (wc, .inl (X.2.2, 80, .inr (.inl kf)))] (S := ((Nat → Int32) × (Nat → Int64)) × (Int32 × Int32 × Int32 × Int32 × Int64)) (fun r _ => r = nI (tr bk b 0 0 L).length) (fun ⟨⟨lf2, kf2⟩, ⟨g_wt, g_lv, g_fi, g_en, g_cd⟩⟩ => [(m, .inr (6, [.int (nI bl), .int (nI bk), .int (nI b), .int (nI sp), .ref mn, .ref xr, .ref yr, .ref vr, .ref cr, .ref wr, .int (nI nc), .int f_of, .int f_ar, .ref wl, .ref wc, .int g_wt, .int g_lv, .int g_fi, .int g_en, .long g_cd, .ref rx, .ref ry, .ref rv, .ref fr, .int f_rs])), (mn, .inl (X.2.1, 2, .inl mf)), (cr, .inl (X.2.2, 6600, .inr (.inl cf))), (wl, .inl (X.2.1, 80, .inl lf2)), (wc, .inl (X.2.2, 80, .inr (.inl kf2)))]) := by
  refine Met.ofW (cc := cX6_nodes) (maxL := 3) (ret := some (.int)) (by decide) rfl ?_
  intro pz ez sz mz args below meth cz s₁ Bz hml hv
  obtain ⟨rfl, hP, hK, hD0, hN⟩ := hv
  have hx := Bz.exec
  have hb := Bz.bytes
  have hr := Bz.returns
  have hts := atoms_spec (ws := wsX6_nodes) Bz.pre
  have hown : sz.vm.findClass RX6 = some mz.cls := findClass_of_methodNamed Bz.named
  have hlocks := Bz.notSynchronized
  have hD := inW.self hD0
  have hS : va_S (inW [(m, .inr (6, [.int (nI bl), .int (nI bk), .int (nI b), .int (nI sp), .ref mn, .ref xr, .ref yr, .ref vr, .ref cr, .ref wr, .int (nI nc), .int f_of, .int f_ar, .ref wl, .ref wc, .int f_wt, .int f_lv, .int f_fi, .int f_en, .long f_cd, .ref rx, .ref ry, .ref rv, .ref fr, .int f_rs])), (mn, .inl (X.2.1, 2, .inl mf)), (cr, .inl (X.2.2, 6600, .inr (.inl cf))), (wl, .inl (X.2.1, 80, .inl lf)), (wc, .inl (X.2.2, 80, .inr (.inl kf)))]) sz.heap sz.heap [] := va_S.rf
  have hl := lv_entry ([.ref m, .int (nI s)]) (n := 3) (Nat.le_of_ble_eq_true rfl)
  rw [lg_entry_eq]
  generalize (lg_sl ([.ref m, .int (nI s)]) ++ List.replicate (3 - (lg_sl ([.ref m, .int (nI s)])).length) Slot.unset).toArray = ls at hl ⊢
  have hl : lv_has ls 3 [(0, .ref m), (1, .int (nI s))] := hl
  refine wQ (fun Q hQ => ?_)
  generalize hAe : inW [(m, .inr (6, [.int (nI bl), .int (nI bk), .int (nI b), .int (nI sp), .ref mn, .ref xr, .ref yr, .ref vr, .ref cr, .ref wr, .int (nI nc), .int f_of, .int f_ar, .ref wl, .ref wc, .int f_wt, .int f_lv, .int f_fi, .int f_en, .long f_cd, .ref rx, .ref ry, .ref rv, .ref fr, .int f_rs])), (mn, .inl (X.2.1, 2, .inl mf)), (cr, .inl (X.2.2, 6600, .inr (.inl cf))), (wl, .inl (X.2.1, 80, .inl lf)), (wc, .inl (X.2.2, 80, .inr (.inl kf)))] = A_ at hD hS hQ
  refine lv_iconst (v := nI 0) hx hb dX6_nodes_0 (by decide) ?_
  refine lv_istore_n (lv' := [(2, .int (nI 0)), (0, .ref m), (1, .int (nI s))]) hx hb dX6_nodes_1 rfl hl (by decide) rfl (fun ls hl => ?_)
  refine lv_aload_n hx hb dX6_nodes_2 rfl (lv_at hl 1 rfl) ?_
  refine ckVv (As := []) (rest := []) 0 [0, 3, 4] (c_X6_begins l X m bl bk b sp mn xr yr vr cr wr nc wl wc rx ry rv fr f_of f_ar f_wt f_lv f_fi f_en f_rs f_cd lf kf) ⟨hx, hb, hml, hown, hts⟩ (cwV 0 hts gX6_nodes_X6_begins rfl rfl rfl (by decide +kernel) ⟨Nat.le_of_ble_eq_true rfl, Nat.le_of_ble_eq_true rfl⟩) hK hN hP hD hS (by decide) rfl (ci := 6) rfl rfl (fun _ => rfl) rfl hl.1 rfl (Nat.le_of_ble_eq_true rfl) dX6_nodes_3 ⟨Nat.zero_le _, Nat.zero_le _⟩ (fun u_1 H locs hbe hP hD hS => ?_)
  obtain ⟨lf0, kf0⟩ := u_1
  have hP : va_P X.1 vwCl [(m, .inr (6, [.int (nI bl), .int (nI bk), .int (nI b), .int (nI sp), .ref mn, .ref xr, .ref yr, .ref vr, .ref cr, .ref wr, .int (nI nc), .int f_of, .int f_ar, .ref wl, .ref wc, .int (nI 1), .int f_lv, .int f_fi, .int f_en, .long f_cd, .ref rx, .ref ry, .ref rv, .ref fr, .int f_rs])), (mn, .inl (X.2.1, 2, .inl mf)), (cr, .inl (X.2.2, 6600, .inr (.inl cf))), (wl, .inl (X.2.1, 80, .inl lf0)), (wc, .inl (X.2.2, 80, .inr (.inl kf0)))] H := hP
  have hD : va_D A_ [(m, .inr (6, [.int (nI bl), .int (nI bk), .int (nI b), .int (nI sp), .ref mn, .ref xr, .ref yr, .ref vr, .ref cr, .ref wr, .int (nI nc), .int f_of, .int f_ar, .ref wl, .ref wc, .int (nI 1), .int f_lv, .int f_fi, .int f_en, .long f_cd, .ref rx, .ref ry, .ref rv, .ref fr, .int f_rs])), (mn, .inl (X.2.1, 2, .inl mf)), (cr, .inl (X.2.2, 6600, .inr (.inl cf))), (wl, .inl (X.2.1, 80, .inl lf0)), (wc, .inl (X.2.2, 80, .inr (.inl kf0)))] := hD
  try dsimp only at hbe
  have loop_6 : ∀ (fu : Nat) (c : Nat) (Ws : List Rg) (lf1 : Nat → Int32) (kf1 : Nat → Int64) (lv1 : Int32) (fi1 : Int32) (en1 : Int32) (cd1 : Int64), (wOk b lf1 kf1 Ws) → (c + (rem bk L Ws).length = (tr bk b 0 0 L).length) → (rem bk L Ws).length < fu → ∀ (H : Heap) (locs : List Loc), va_P X.1 vwCl [(m, .inr (6, [.int (nI bl), .int (nI bk), .int (nI b), .int (nI sp), .ref mn, .ref xr, .ref yr, .ref vr, .ref cr, .ref wr, .int (nI nc), .int f_of, .int f_ar, .ref wl, .ref wc, .int (nI Ws.length), .int lv1, .int fi1, .int en1, .long cd1, .ref rx, .ref ry, .ref rv, .ref fr, .int f_rs])), (mn, .inl (X.2.1, 2, .inl mf)), (cr, .inl (X.2.2, 6600, .inr (.inl cf))), (wl, .inl (X.2.1, 80, .inl lf1)), (wc, .inl (X.2.2, 80, .inr (.inl kf1)))] H → va_D A_ [(m, .inr (6, [.int (nI bl), .int (nI bk), .int (nI b), .int (nI sp), .ref mn, .ref xr, .ref yr, .ref vr, .ref cr, .ref wr, .int (nI nc), .int f_of, .int f_ar, .ref wl, .ref wc, .int (nI Ws.length), .int lv1, .int fi1, .int en1, .long cd1, .ref rx, .ref ry, .ref rv, .ref fr, .int f_rs])), (mn, .inl (X.2.1, 2, .inl mf)), (cr, .inl (X.2.2, 6600, .inr (.inl cf))), (wl, .inl (X.2.1, 80, .inl lf1)), (wc, .inl (X.2.2, 80, .inr (.inl kf1)))] → va_S A_ sz.heap H locs → ∀ (ls : Array Slot), lv_has ls 3 [(0, .ref m), (1, .int (nI s)), (2, .int (nI c))] → W pz l ez (headSpec wsX6_nodes (rmk 4)).room sz mz ([.ref m, .int (nI s)].toArray) below meth cz H locs 0 0 Q (F0 mz 6 ls []) := by
    intro fu
    induction fu with
    | zero => intro c Ws lf1 kf1 lv1 fi1 en1 cd1 h1 h2 hfu; exact absurd hfu (Nat.not_lt_zero _)
    | succ fu ih6 =>
      intro c Ws lf1 kf1 lv1 fi1 en1 cd1 h1 h2 hfu H locs hP hD hS ls hl
      rcases w_cases Ws with rfl | ⟨W0, X_, Y_, rfl⟩ | ⟨W0, d, X_, Y_, rfl⟩
      · skip
        have hP : va_P X.1 vwCl [(m, .inr (6, [.int (nI bl), .int (nI bk), .int (nI b), .int (nI sp), .ref mn, .ref xr, .ref yr, .ref vr, .ref cr, .ref wr, .int (nI nc), .int f_of, .int f_ar, .ref wl, .ref wc, .int (nI 0), .int lv1, .int fi1, .int en1, .long cd1, .ref rx, .ref ry, .ref rv, .ref fr, .int f_rs])), (mn, .inl (X.2.1, 2, .inl mf)), (cr, .inl (X.2.2, 6600, .inr (.inl cf))), (wl, .inl (X.2.1, 80, .inl lf1)), (wc, .inl (X.2.2, 80, .inr (.inl kf1)))] _ := hP
        have hD : va_D A_ [(m, .inr (6, [.int (nI bl), .int (nI bk), .int (nI b), .int (nI sp), .ref mn, .ref xr, .ref yr, .ref vr, .ref cr, .ref wr, .int (nI nc), .int f_of, .int f_ar, .ref wl, .ref wc, .int (nI 0), .int lv1, .int fi1, .int en1, .long cd1, .ref rx, .ref ry, .ref rv, .ref fr, .int f_rs])), (mn, .inl (X.2.1, 2, .inl mf)), (cr, .inl (X.2.2, 6600, .inr (.inl cf))), (wl, .inl (X.2.1, 80, .inl lf1)), (wc, .inl (X.2.2, 80, .inr (.inl kf1)))] := hD
        refine lv_aload_n hx hb dX6_nodes_6 rfl (lv_at hl 0 rfl) ?_
        refine lv_iload_n hx hb dX6_nodes_7 rfl (lv_at hl 1 rfl) ?_
        refine ckVRi (As := [.int (nI s)]) (rest := []) 0 [0] (c_X6_comes_0 l X m bl bk b sp mn xr yr vr cr wr nc wl wc rx ry rv fr f_of f_ar lv1 fi1 en1 f_rs cd1 s) ⟨hx, hb, hml, hown, hts⟩ (cwV 1 hts gX6_nodes_X6_comes rfl rfl rfl (by decide +kernel) ⟨Nat.le_of_ble_eq_true rfl, Nat.le_of_ble_eq_true rfl⟩) hK hN hP hD (by decide) rfl (ci := 6) rfl rfl rfl hl.1 rfl (Nat.le_of_ble_eq_true rfl) dX6_nodes_8 ⟨Nat.zero_le _, Nat.zero_le _⟩ (fun r_3 hc_8 => ?_)
        subst hc_8
        refine lv_if_eq (tgt := 21) hx hb dX6_nodes_11 (by decide) (fun c_11 => ?_) (fun c_11 => ?_)
        · skip
          refine lv_iload_n hx hb dX6_nodes_21 rfl (lv_at hl 2 rfl) ?_
          refine wM hQ ?_
          exact rtI ((lf1, kf1), (nI 0, lv1, fi1, en1, cd1)) hx hb hr hlocks hP hS ((by show nI c = _; rw [rem_nil] at h2; rw [← h2]; rfl)) dX6_nodes_22
        · exact absurd c_11 (by decide)
      · skip
        rw [List.length_append] at hP hD
        have hP : va_P X.1 vwCl [(m, .inr (6, [.int (nI bl), .int (nI bk), .int (nI b), .int (nI sp), .ref mn, .ref xr, .ref yr, .ref vr, .ref cr, .ref wr, .int (nI nc), .int f_of, .int f_ar, .ref wl, .ref wc, .int (nI (W0.length + 1)), .int lv1, .int fi1, .int en1, .long cd1, .ref rx, .ref ry, .ref rv, .ref fr, .int f_rs])), (mn, .inl (X.2.1, 2, .inl mf)), (cr, .inl (X.2.2, 6600, .inr (.inl cf))), (wl, .inl (X.2.1, 80, .inl lf1)), (wc, .inl (X.2.2, 80, .inr (.inl kf1)))] _ := hP
        have hD : va_D A_ [(m, .inr (6, [.int (nI bl), .int (nI bk), .int (nI b), .int (nI sp), .ref mn, .ref xr, .ref yr, .ref vr, .ref cr, .ref wr, .int (nI nc), .int f_of, .int f_ar, .ref wl, .ref wc, .int (nI (W0.length + 1)), .int lv1, .int fi1, .int en1, .long cd1, .ref rx, .ref ry, .ref rv, .ref fr, .int f_rs])), (mn, .inl (X.2.1, 2, .inl mf)), (cr, .inl (X.2.2, 6600, .inr (.inl cf))), (wl, .inl (X.2.1, 80, .inl lf1)), (wc, .inl (X.2.2, 80, .inr (.inl kf1)))] := hD
        refine lv_aload_n hx hb dX6_nodes_6 rfl (lv_at hl 0 rfl) ?_
        refine lv_iload_n hx hb dX6_nodes_7 rfl (lv_at hl 1 rfl) ?_
        refine ckVi (As := [.int (nI s)]) (rest := []) 0 [0, 1, 2, 3, 4] (c_X6_comes_z l X m bl bk b sp mn xr yr vr cr wr nc wl wc rx ry rv fr f_of f_ar lv1 fi1 en1 f_rs cd1 X_ Y_ s mf cf L Z hs hm hC hz hi hL hb1 W0 lf1 kf1 h1 hbk hbk2) ⟨hx, hb, hml, hown, hts⟩ (cwV 1 hts gX6_nodes_X6_comes rfl rfl rfl (by decide +kernel) ⟨Nat.le_of_ble_eq_true rfl, Nat.le_of_ble_eq_true rfl⟩) hK hN hP hD hS (by decide) rfl (ci := 6) rfl rfl (fun _ => rfl) rfl hl.1 rfl (Nat.le_of_ble_eq_true rfl) dX6_nodes_8 ⟨Nat.zero_le _, Nat.zero_le _⟩ (fun r_5 u_4 H locs hc_8 hP hD hS => ?_)
        obtain ⟨lf2, kf2, W2⟩ := u_4
        have hP : va_P X.1 vwCl [(m, .inr (6, [.int (nI bl), .int (nI bk), .int (nI b), .int (nI sp), .ref mn, .ref xr, .ref yr, .ref vr, .ref cr, .ref wr, .int (nI nc), .int f_of, .int f_ar, .ref wl, .ref wc, .int (nI ((W2).length)), .int (nI (b - (0))), .int (nI (rk Z (cdR b (0, X_, Y_)))), .int (nI (rk Z (cdR b (0, X_, Y_) + 4 ^ (0)))), .long (lN (cdR b (0, X_, Y_))), .ref rx, .ref ry, .ref rv, .ref fr, .int f_rs])), (mn, .inl (X.2.1, 2, .inl mf)), (cr, .inl (X.2.2, 6600, .inr (.inl cf))), (wl, .inl (X.2.1, 80, .inl lf2)), (wc, .inl (X.2.2, 80, .inr (.inl kf2)))] H := hP
        have hD : va_D A_ [(m, .inr (6, [.int (nI bl), .int (nI bk), .int (nI b), .int (nI sp), .ref mn, .ref xr, .ref yr, .ref vr, .ref cr, .ref wr, .int (nI nc), .int f_of, .int f_ar, .ref wl, .ref wc, .int (nI ((W2).length)), .int (nI (b - (0))), .int (nI (rk Z (cdR b (0, X_, Y_)))), .int (nI (rk Z (cdR b (0, X_, Y_) + 4 ^ (0)))), .long (lN (cdR b (0, X_, Y_))), .ref rx, .ref ry, .ref rv, .ref fr, .int f_rs])), (mn, .inl (X.2.1, 2, .inl mf)), (cr, .inl (X.2.2, 6600, .inr (.inl cf))), (wl, .inl (X.2.1, 80, .inl lf2)), (wc, .inl (X.2.2, 80, .inr (.inl kf2)))] := hD
        try dsimp only at hc_8
        obtain ⟨rfl, hw2, hrm⟩ := hc_8
        · skip
          have hrc := rem_cons hL.2.1 hbk hrm
          refine lv_if_eq (tgt := 21) hx hb dX6_nodes_11 (by decide) (fun c_11 => ?_) (fun c_11 => ?_)
          · exact absurd c_11 (by decide)
          · skip
            refine lv_iload_n hx hb dX6_nodes_14 rfl (lv_at hl 2 rfl) ?_
            refine lv_iconst (v := nI 1) hx hb dX6_nodes_15 (by decide) ?_
            refine lv_iadd hx hb dX6_nodes_16 ?_
            refine lv_topi (fun x_6 ex_6 => ?_)
            obtain rfl : x_6 = nI (c + 1) := by
              rw [ex_6]
              exact nI_add _ _
            refine lv_istore_n (lv' := [(2, .int (nI (c + 1))), (0, .ref m), (1, .int (nI s))]) hx hb dX6_nodes_17 rfl hl (by decide) rfl (fun ls hl => ?_)
            refine lv_goto (tgt := 6) hx hb dX6_nodes_18 (by decide) ?_
            exact ih6 (c + 1) W2 lf2 kf2 (nI (b - (0))) (nI (rk Z (cdR b (0, X_, Y_)))) (nI (rk Z (cdR b (0, X_, Y_) + 4 ^ (0)))) (lN (cdR b (0, X_, Y_))) (by exact hw2) (by rw [← h2, hrc, List.length_cons]; omega) (by rw [hrc, List.length_cons] at hfu; omega) _ _ hP hD hS ls (lv_sub hl [1, 2, 0] rfl)
      · skip
        rw [List.length_append] at hP hD
        have hP : va_P X.1 vwCl [(m, .inr (6, [.int (nI bl), .int (nI bk), .int (nI b), .int (nI sp), .ref mn, .ref xr, .ref yr, .ref vr, .ref cr, .ref wr, .int (nI nc), .int f_of, .int f_ar, .ref wl, .ref wc, .int (nI (W0.length + 1)), .int lv1, .int fi1, .int en1, .long cd1, .ref rx, .ref ry, .ref rv, .ref fr, .int f_rs])), (mn, .inl (X.2.1, 2, .inl mf)), (cr, .inl (X.2.2, 6600, .inr (.inl cf))), (wl, .inl (X.2.1, 80, .inl lf1)), (wc, .inl (X.2.2, 80, .inr (.inl kf1)))] _ := hP
        have hD : va_D A_ [(m, .inr (6, [.int (nI bl), .int (nI bk), .int (nI b), .int (nI sp), .ref mn, .ref xr, .ref yr, .ref vr, .ref cr, .ref wr, .int (nI nc), .int f_of, .int f_ar, .ref wl, .ref wc, .int (nI (W0.length + 1)), .int lv1, .int fi1, .int en1, .long cd1, .ref rx, .ref ry, .ref rv, .ref fr, .int f_rs])), (mn, .inl (X.2.1, 2, .inl mf)), (cr, .inl (X.2.2, 6600, .inr (.inl cf))), (wl, .inl (X.2.1, 80, .inl lf1)), (wc, .inl (X.2.2, 80, .inr (.inl kf1)))] := hD
        refine lv_aload_n hx hb dX6_nodes_6 rfl (lv_at hl 0 rfl) ?_
        refine lv_iload_n hx hb dX6_nodes_7 rfl (lv_at hl 1 rfl) ?_
        refine ckVi (As := [.int (nI s)]) (rest := []) 0 [0, 1, 2, 3, 4] (c_X6_comes_s l X m bl bk b sp mn xr yr vr cr wr nc wl wc rx ry rv fr f_of f_ar lv1 fi1 en1 f_rs cd1 d X_ Y_ s mf cf L Z hs hm hC hz hi hL hb1 W0 lf1 kf1 h1 hbk hbk2) ⟨hx, hb, hml, hown, hts⟩ (cwV 1 hts gX6_nodes_X6_comes rfl rfl rfl (by decide +kernel) ⟨Nat.le_of_ble_eq_true rfl, Nat.le_of_ble_eq_true rfl⟩) hK hN hP hD hS (by decide) rfl (ci := 6) rfl rfl (fun _ => rfl) rfl hl.1 rfl (Nat.le_of_ble_eq_true rfl) dX6_nodes_8 ⟨Nat.zero_le _, Nat.zero_le _⟩ (fun r_8 u_7 H locs hc_8 hP hD hS => ?_)
        obtain ⟨lf2, kf2, W2⟩ := u_7
        have hP : va_P X.1 vwCl [(m, .inr (6, [.int (nI bl), .int (nI bk), .int (nI b), .int (nI sp), .ref mn, .ref xr, .ref yr, .ref vr, .ref cr, .ref wr, .int (nI nc), .int f_of, .int f_ar, .ref wl, .ref wc, .int (nI ((W2).length)), .int (nI (b - (d + 1))), .int (nI (rk Z (cdR b (d + 1, X_, Y_)))), .int (nI (rk Z (cdR b (d + 1, X_, Y_) + 4 ^ (d + 1)))), .long (lN (cdR b (d + 1, X_, Y_))), .ref rx, .ref ry, .ref rv, .ref fr, .int f_rs])), (mn, .inl (X.2.1, 2, .inl mf)), (cr, .inl (X.2.2, 6600, .inr (.inl cf))), (wl, .inl (X.2.1, 80, .inl lf2)), (wc, .inl (X.2.2, 80, .inr (.inl kf2)))] H := hP
        have hD : va_D A_ [(m, .inr (6, [.int (nI bl), .int (nI bk), .int (nI b), .int (nI sp), .ref mn, .ref xr, .ref yr, .ref vr, .ref cr, .ref wr, .int (nI nc), .int f_of, .int f_ar, .ref wl, .ref wc, .int (nI ((W2).length)), .int (nI (b - (d + 1))), .int (nI (rk Z (cdR b (d + 1, X_, Y_)))), .int (nI (rk Z (cdR b (d + 1, X_, Y_) + 4 ^ (d + 1)))), .long (lN (cdR b (d + 1, X_, Y_))), .ref rx, .ref ry, .ref rv, .ref fr, .int f_rs])), (mn, .inl (X.2.1, 2, .inl mf)), (cr, .inl (X.2.2, 6600, .inr (.inl cf))), (wl, .inl (X.2.1, 80, .inl lf2)), (wc, .inl (X.2.2, 80, .inr (.inl kf2)))] := hD
        try dsimp only at hc_8
        obtain ⟨rfl, hw2, hrm⟩ := hc_8
        · skip
          have hrc := rem_cons hL.2.1 hbk hrm
          refine lv_if_eq (tgt := 21) hx hb dX6_nodes_11 (by decide) (fun c_11 => ?_) (fun c_11 => ?_)
          · exact absurd c_11 (by decide)
          · skip
            refine lv_iload_n hx hb dX6_nodes_14 rfl (lv_at hl 2 rfl) ?_
            refine lv_iconst (v := nI 1) hx hb dX6_nodes_15 (by decide) ?_
            refine lv_iadd hx hb dX6_nodes_16 ?_
            refine lv_topi (fun x_9 ex_9 => ?_)
            obtain rfl : x_9 = nI (c + 1) := by
              rw [ex_9]
              exact nI_add _ _
            refine lv_istore_n (lv' := [(2, .int (nI (c + 1))), (0, .ref m), (1, .int (nI s))]) hx hb dX6_nodes_17 rfl hl (by decide) rfl (fun ls hl => ?_)
            refine lv_goto (tgt := 6) hx hb dX6_nodes_18 (by decide) ?_
            exact ih6 (c + 1) W2 lf2 kf2 (nI (b - (d + 1))) (nI (rk Z (cdR b (d + 1, X_, Y_)))) (nI (rk Z (cdR b (d + 1, X_, Y_) + 4 ^ (d + 1)))) (lN (cdR b (d + 1, X_, Y_))) (by exact hw2) (by rw [← h2, hrc, List.length_cons]; omega) (by rw [hrc, List.length_cons] at hfu; omega) _ _ hP hD hS ls (lv_sub hl [1, 2, 0] rfl)
  have hP : va_P X.1 vwCl [(m, .inr (6, [.int (nI bl), .int (nI bk), .int (nI b), .int (nI sp), .ref mn, .ref xr, .ref yr, .ref vr, .ref cr, .ref wr, .int (nI nc), .int f_of, .int f_ar, .ref wl, .ref wc, .int (nI (([(b, 0, 0)] : List Rg).length)), .int f_lv, .int f_fi, .int f_en, .long f_cd, .ref rx, .ref ry, .ref rv, .ref fr, .int f_rs])), (mn, .inl (X.2.1, 2, .inl mf)), (cr, .inl (X.2.2, 6600, .inr (.inl cf))), (wl, .inl (X.2.1, 80, .inl lf0)), (wc, .inl (X.2.2, 80, .inr (.inl kf0)))] _ := hP
  have hD : va_D A_ [(m, .inr (6, [.int (nI bl), .int (nI bk), .int (nI b), .int (nI sp), .ref mn, .ref xr, .ref yr, .ref vr, .ref cr, .ref wr, .int (nI nc), .int f_of, .int f_ar, .ref wl, .ref wc, .int (nI (([(b, 0, 0)] : List Rg).length)), .int f_lv, .int f_fi, .int f_en, .long f_cd, .ref rx, .ref ry, .ref rv, .ref fr, .int f_rs])), (mn, .inl (X.2.1, 2, .inl mf)), (cr, .inl (X.2.2, 6600, .inr (.inl cf))), (wl, .inl (X.2.1, 80, .inl lf0)), (wc, .inl (X.2.2, 80, .inr (.inl kf0)))] := hD
  exact loop_6 _ 0 ([(b, 0, 0)]) lf0 kf0 f_lv f_fi f_en f_cd (by exact wOk_init hbe.1 hbe.2) (by rw [rem_init hi, Nat.zero_add]) (Nat.lt_succ_self _) _ _ hP hD hS ls (lv_sub hl [1, 2, 0] rfl)
set_option maxHeartbeats 4000000 in
set_option maxRecDepth 100000 in
theorem c_X6_depth (l : Launch) (X : kX) (m bl bk b sp mn xr yr vr cr wr nc wl wc rx ry rv fr : Nat) (f_of f_ar f_wt f_lv f_fi f_en f_rs : Int32) (f_cd : Int64) (mf : Nat → Int32) (cf : Nat → Int64) (L Z : PL) (hm : mf 0 = nI Z.length) (hC : mC cf 0 Z) (hz : zOk b L Z) (hi : insd b L) (hL : lOk L) (hb1 : b ≤ 15) (lf : Nat → Int32) (kf : Nat → Int64) (hbk : 1 ≤ bk) (hbk2 : bk ≤ 8) : CWi l X yX6_depth wsX6_depth 4 [.ref m] [(m, .inr (6, [.int (nI bl), .int (nI bk), .int (nI b), .int (nI sp), .ref mn, .ref xr, .ref yr, .ref vr, .ref cr, .ref wr, .int (nI nc), .int f_of, .int f_ar, .ref wl, .ref wc, .int f_wt, .int f_lv, .int f_fi, .int f_en, .long f_cd, .ref rx, .ref ry, .ref rv, .ref fr, .int f_rs])), (mn, .inl (X.2.1, 2, .inl mf)), (cr, .inl (X.2.2, 6600, .inr (.inl cf))), (wl, .inl (X.2.1, 80, .inl lf)), (wc, .inl (X.2.2, 80, .inr (.inl kf)))] (S := ((Nat → Int32) × (Nat → Int64)) × (Int32 × Int32 × Int32 × Int32 × Int64)) (fun r _ => r = nI (dpt b (tr bk b 0 0 L))) (fun ⟨⟨lf2, kf2⟩, ⟨g_wt, g_lv, g_fi, g_en, g_cd⟩⟩ => [(m, .inr (6, [.int (nI bl), .int (nI bk), .int (nI b), .int (nI sp), .ref mn, .ref xr, .ref yr, .ref vr, .ref cr, .ref wr, .int (nI nc), .int f_of, .int f_ar, .ref wl, .ref wc, .int g_wt, .int g_lv, .int g_fi, .int g_en, .long g_cd, .ref rx, .ref ry, .ref rv, .ref fr, .int f_rs])), (mn, .inl (X.2.1, 2, .inl mf)), (cr, .inl (X.2.2, 6600, .inr (.inl cf))), (wl, .inl (X.2.1, 80, .inl lf2)), (wc, .inl (X.2.2, 80, .inr (.inl kf2)))]) := by
  refine Met.ofW (cc := cX6_depth) (maxL := 2) (ret := some (.int)) (by decide) rfl ?_
  intro pz ez sz mz args below meth cz s₁ Bz hml hv
  obtain ⟨rfl, hP, hK, hD0, hN⟩ := hv
  have hx := Bz.exec
  have hb := Bz.bytes
  have hr := Bz.returns
  have hts := atoms_spec (ws := wsX6_depth) Bz.pre
  have hown : sz.vm.findClass RX6 = some mz.cls := findClass_of_methodNamed Bz.named
  have hlocks := Bz.notSynchronized
  have hD := inW.self hD0
  have hS : va_S (inW [(m, .inr (6, [.int (nI bl), .int (nI bk), .int (nI b), .int (nI sp), .ref mn, .ref xr, .ref yr, .ref vr, .ref cr, .ref wr, .int (nI nc), .int f_of, .int f_ar, .ref wl, .ref wc, .int f_wt, .int f_lv, .int f_fi, .int f_en, .long f_cd, .ref rx, .ref ry, .ref rv, .ref fr, .int f_rs])), (mn, .inl (X.2.1, 2, .inl mf)), (cr, .inl (X.2.2, 6600, .inr (.inl cf))), (wl, .inl (X.2.1, 80, .inl lf)), (wc, .inl (X.2.2, 80, .inr (.inl kf)))]) sz.heap sz.heap [] := va_S.rf
  have hl := lv_entry ([.ref m]) (n := 2) (Nat.le_of_ble_eq_true rfl)
  rw [lg_entry_eq]
  generalize (lg_sl ([.ref m]) ++ List.replicate (2 - (lg_sl ([.ref m])).length) Slot.unset).toArray = ls at hl ⊢
  have hl : lv_has ls 2 [(0, .ref m)] := hl
  have lk81 := hts (.fieldLink RX6 81 "PointStoreModel" "level" "I") (by decide +kernel)
  have hin6 : ∀ w ∈ u_ws RX6 TX6 25, w ∈ wsX6_depth := by decide +kernel
  refine wQ (fun Q hQ => ?_)
  generalize hAe : inW [(m, .inr (6, [.int (nI bl), .int (nI bk), .int (nI b), .int (nI sp), .ref mn, .ref xr, .ref yr, .ref vr, .ref cr, .ref wr, .int (nI nc), .int f_of, .int f_ar, .ref wl, .ref wc, .int f_wt, .int f_lv, .int f_fi, .int f_en, .long f_cd, .ref rx, .ref ry, .ref rv, .ref fr, .int f_rs])), (mn, .inl (X.2.1, 2, .inl mf)), (cr, .inl (X.2.2, 6600, .inr (.inl cf))), (wl, .inl (X.2.1, 80, .inl lf)), (wc, .inl (X.2.2, 80, .inr (.inl kf)))] = A_ at hD hS hQ
  have hs : 0 ≤ 1 := Nat.zero_le 1
  refine lv_iconst (v := nI 0) hx hb dX6_depth_0 (by decide) ?_
  refine lv_istore_n (lv' := [(1, .int (nI 0)), (0, .ref m)]) hx hb dX6_depth_1 rfl hl (by decide) rfl (fun ls hl => ?_)
  refine lv_aload_n hx hb dX6_depth_2 rfl (lv_at hl 1 rfl) ?_
  refine ckVv (As := []) (rest := []) 0 [0, 3, 4] (c_X6_begins l X m bl bk b sp mn xr yr vr cr wr nc wl wc rx ry rv fr f_of f_ar f_wt f_lv f_fi f_en f_rs f_cd lf kf) ⟨hx, hb, hml, hown, hts⟩ (cwV 0 hts gX6_depth_X6_begins rfl rfl rfl (by decide +kernel) ⟨Nat.le_of_ble_eq_true rfl, Nat.le_of_ble_eq_true rfl⟩) hK hN hP hD hS (by decide) rfl (ci := 6) rfl rfl (fun _ => rfl) rfl hl.1 rfl (Nat.le_of_ble_eq_true rfl) dX6_depth_3 ⟨Nat.zero_le _, Nat.zero_le _⟩ (fun u_1 H locs hbe hP hD hS => ?_)
  obtain ⟨lf0, kf0⟩ := u_1
  have hP : va_P X.1 vwCl [(m, .inr (6, [.int (nI bl), .int (nI bk), .int (nI b), .int (nI sp), .ref mn, .ref xr, .ref yr, .ref vr, .ref cr, .ref wr, .int (nI nc), .int f_of, .int f_ar, .ref wl, .ref wc, .int (nI 1), .int f_lv, .int f_fi, .int f_en, .long f_cd, .ref rx, .ref ry, .ref rv, .ref fr, .int f_rs])), (mn, .inl (X.2.1, 2, .inl mf)), (cr, .inl (X.2.2, 6600, .inr (.inl cf))), (wl, .inl (X.2.1, 80, .inl lf0)), (wc, .inl (X.2.2, 80, .inr (.inl kf0)))] H := hP
  have hD : va_D A_ [(m, .inr (6, [.int (nI bl), .int (nI bk), .int (nI b), .int (nI sp), .ref mn, .ref xr, .ref yr, .ref vr, .ref cr, .ref wr, .int (nI nc), .int f_of, .int f_ar, .ref wl, .ref wc, .int (nI 1), .int f_lv, .int f_fi, .int f_en, .long f_cd, .ref rx, .ref ry, .ref rv, .ref fr, .int f_rs])), (mn, .inl (X.2.1, 2, .inl mf)), (cr, .inl (X.2.2, 6600, .inr (.inl cf))), (wl, .inl (X.2.1, 80, .inl lf0)), (wc, .inl (X.2.2, 80, .inr (.inl kf0)))] := hD
  try dsimp only at hbe
  have loop_6 : ∀ (fu : Nat) (c : Nat) (Ws : List Rg) (lf1 : Nat → Int32) (kf1 : Nat → Int64) (lv1 : Int32) (fi1 : Int32) (en1 : Int32) (cd1 : Int64), (wOk b lf1 kf1 Ws) → (max c (dpt b (rem bk L Ws)) = dpt b (tr bk b 0 0 L)) → (c ≤ b) → (rem bk L Ws).length < fu → ∀ (H : Heap) (locs : List Loc), va_P X.1 vwCl [(m, .inr (6, [.int (nI bl), .int (nI bk), .int (nI b), .int (nI sp), .ref mn, .ref xr, .ref yr, .ref vr, .ref cr, .ref wr, .int (nI nc), .int f_of, .int f_ar, .ref wl, .ref wc, .int (nI Ws.length), .int lv1, .int fi1, .int en1, .long cd1, .ref rx, .ref ry, .ref rv, .ref fr, .int f_rs])), (mn, .inl (X.2.1, 2, .inl mf)), (cr, .inl (X.2.2, 6600, .inr (.inl cf))), (wl, .inl (X.2.1, 80, .inl lf1)), (wc, .inl (X.2.2, 80, .inr (.inl kf1)))] H → va_D A_ [(m, .inr (6, [.int (nI bl), .int (nI bk), .int (nI b), .int (nI sp), .ref mn, .ref xr, .ref yr, .ref vr, .ref cr, .ref wr, .int (nI nc), .int f_of, .int f_ar, .ref wl, .ref wc, .int (nI Ws.length), .int lv1, .int fi1, .int en1, .long cd1, .ref rx, .ref ry, .ref rv, .ref fr, .int f_rs])), (mn, .inl (X.2.1, 2, .inl mf)), (cr, .inl (X.2.2, 6600, .inr (.inl cf))), (wl, .inl (X.2.1, 80, .inl lf1)), (wc, .inl (X.2.2, 80, .inr (.inl kf1)))] → va_S A_ sz.heap H locs → ∀ (ls : Array Slot), lv_has ls 2 [(0, .ref m), (1, .int (nI c))] → W pz l ez (headSpec wsX6_depth (rmk 4)).room sz mz ([.ref m].toArray) below meth cz H locs 0 0 Q (F0 mz 6 ls []) := by
    intro fu
    induction fu with
    | zero => intro c Ws lf1 kf1 lv1 fi1 en1 cd1 h1 h2 h3 hfu; exact absurd hfu (Nat.not_lt_zero _)
    | succ fu ih6 =>
      intro c Ws lf1 kf1 lv1 fi1 en1 cd1 h1 h2 h3 hfu H locs hP hD hS ls hl
      rcases w_cases Ws with rfl | ⟨W0, X_, Y_, rfl⟩ | ⟨W0, d, X_, Y_, rfl⟩
      · skip
        have hP : va_P X.1 vwCl [(m, .inr (6, [.int (nI bl), .int (nI bk), .int (nI b), .int (nI sp), .ref mn, .ref xr, .ref yr, .ref vr, .ref cr, .ref wr, .int (nI nc), .int f_of, .int f_ar, .ref wl, .ref wc, .int (nI 0), .int lv1, .int fi1, .int en1, .long cd1, .ref rx, .ref ry, .ref rv, .ref fr, .int f_rs])), (mn, .inl (X.2.1, 2, .inl mf)), (cr, .inl (X.2.2, 6600, .inr (.inl cf))), (wl, .inl (X.2.1, 80, .inl lf1)), (wc, .inl (X.2.2, 80, .inr (.inl kf1)))] _ := hP
        have hD : va_D A_ [(m, .inr (6, [.int (nI bl), .int (nI bk), .int (nI b), .int (nI sp), .ref mn, .ref xr, .ref yr, .ref vr, .ref cr, .ref wr, .int (nI nc), .int f_of, .int f_ar, .ref wl, .ref wc, .int (nI 0), .int lv1, .int fi1, .int en1, .long cd1, .ref rx, .ref ry, .ref rv, .ref fr, .int f_rs])), (mn, .inl (X.2.1, 2, .inl mf)), (cr, .inl (X.2.2, 6600, .inr (.inl cf))), (wl, .inl (X.2.1, 80, .inl lf1)), (wc, .inl (X.2.2, 80, .inr (.inl kf1)))] := hD
        refine lv_aload_n hx hb dX6_depth_6 rfl (lv_at hl 0 rfl) ?_
        refine lv_iconst (v := nI 0) hx hb dX6_depth_7 (by decide) ?_
        refine ckVRi (As := [.int (nI 0)]) (rest := []) 0 [0] (c_X6_comes_0 l X m bl bk b sp mn xr yr vr cr wr nc wl wc rx ry rv fr f_of f_ar lv1 fi1 en1 f_rs cd1 0) ⟨hx, hb, hml, hown, hts⟩ (cwV 1 hts gX6_depth_X6_comes rfl rfl rfl (by decide +kernel) ⟨Nat.le_of_ble_eq_true rfl, Nat.le_of_ble_eq_true rfl⟩) hK hN hP hD (by decide) rfl (ci := 6) rfl rfl rfl hl.1 rfl (Nat.le_of_ble_eq_true rfl) dX6_depth_8 ⟨Nat.zero_le _, Nat.zero_le _⟩ (fun r_3 hc_8 => ?_)
        subst hc_8
        refine lv_if_eq (tgt := 34) hx hb dX6_depth_11 (by decide) (fun c_11 => ?_) (fun c_11 => ?_)
        · skip
          refine lv_iload_n hx hb dX6_depth_34 rfl (lv_at hl 1 rfl) ?_
          refine wM hQ ?_
          exact rtI ((lf1, kf1), (nI 0, lv1, fi1, en1, cd1)) hx hb hr hlocks hP hS ((by show nI c = _; rw [rem_nil] at h2; rw [← h2]; show _ = nI (max c 0); rw [Nat.max_zero])) dX6_depth_35
        · exact absurd c_11 (by decide)
      · skip
        rw [List.length_append] at hP hD
        have hP : va_P X.1 vwCl [(m, .inr (6, [.int (nI bl), .int (nI bk), .int (nI b), .int (nI sp), .ref mn, .ref xr, .ref yr, .ref vr, .ref cr, .ref wr, .int (nI nc), .int f_of, .int f_ar, .ref wl, .ref wc, .int (nI (W0.length + 1)), .int lv1, .int fi1, .int en1, .long cd1, .ref rx, .ref ry, .ref rv, .ref fr, .int f_rs])), (mn, .inl (X.2.1, 2, .inl mf)), (cr, .inl (X.2.2, 6600, .inr (.inl cf))), (wl, .inl (X.2.1, 80, .inl lf1)), (wc, .inl (X.2.2, 80, .inr (.inl kf1)))] _ := hP
        have hD : va_D A_ [(m, .inr (6, [.int (nI bl), .int (nI bk), .int (nI b), .int (nI sp), .ref mn, .ref xr, .ref yr, .ref vr, .ref cr, .ref wr, .int (nI nc), .int f_of, .int f_ar, .ref wl, .ref wc, .int (nI (W0.length + 1)), .int lv1, .int fi1, .int en1, .long cd1, .ref rx, .ref ry, .ref rv, .ref fr, .int f_rs])), (mn, .inl (X.2.1, 2, .inl mf)), (cr, .inl (X.2.2, 6600, .inr (.inl cf))), (wl, .inl (X.2.1, 80, .inl lf1)), (wc, .inl (X.2.2, 80, .inr (.inl kf1)))] := hD
        refine lv_aload_n hx hb dX6_depth_6 rfl (lv_at hl 0 rfl) ?_
        refine lv_iconst (v := nI 0) hx hb dX6_depth_7 (by decide) ?_
        refine ckVi (As := [.int (nI 0)]) (rest := []) 0 [0, 1, 2, 3, 4] (c_X6_comes_z l X m bl bk b sp mn xr yr vr cr wr nc wl wc rx ry rv fr f_of f_ar lv1 fi1 en1 f_rs cd1 X_ Y_ 0 mf cf L Z hs hm hC hz hi hL hb1 W0 lf1 kf1 h1 hbk hbk2) ⟨hx, hb, hml, hown, hts⟩ (cwV 1 hts gX6_depth_X6_comes rfl rfl rfl (by decide +kernel) ⟨Nat.le_of_ble_eq_true rfl, Nat.le_of_ble_eq_true rfl⟩) hK hN hP hD hS (by decide) rfl (ci := 6) rfl rfl (fun _ => rfl) rfl hl.1 rfl (Nat.le_of_ble_eq_true rfl) dX6_depth_8 ⟨Nat.zero_le _, Nat.zero_le _⟩ (fun r_5 u_4 H locs hc_8 hP hD hS => ?_)
        obtain ⟨lf2, kf2, W2⟩ := u_4
        have hP : va_P X.1 vwCl [(m, .inr (6, [.int (nI bl), .int (nI bk), .int (nI b), .int (nI sp), .ref mn, .ref xr, .ref yr, .ref vr, .ref cr, .ref wr, .int (nI nc), .int f_of, .int f_ar, .ref wl, .ref wc, .int (nI ((W2).length)), .int (nI (b - (0))), .int (nI (rk Z (cdR b (0, X_, Y_)))), .int (nI (rk Z (cdR b (0, X_, Y_) + 4 ^ (0)))), .long (lN (cdR b (0, X_, Y_))), .ref rx, .ref ry, .ref rv, .ref fr, .int f_rs])), (mn, .inl (X.2.1, 2, .inl mf)), (cr, .inl (X.2.2, 6600, .inr (.inl cf))), (wl, .inl (X.2.1, 80, .inl lf2)), (wc, .inl (X.2.2, 80, .inr (.inl kf2)))] H := hP
        have hD : va_D A_ [(m, .inr (6, [.int (nI bl), .int (nI bk), .int (nI b), .int (nI sp), .ref mn, .ref xr, .ref yr, .ref vr, .ref cr, .ref wr, .int (nI nc), .int f_of, .int f_ar, .ref wl, .ref wc, .int (nI ((W2).length)), .int (nI (b - (0))), .int (nI (rk Z (cdR b (0, X_, Y_)))), .int (nI (rk Z (cdR b (0, X_, Y_) + 4 ^ (0)))), .long (lN (cdR b (0, X_, Y_))), .ref rx, .ref ry, .ref rv, .ref fr, .int f_rs])), (mn, .inl (X.2.1, 2, .inl mf)), (cr, .inl (X.2.2, 6600, .inr (.inl cf))), (wl, .inl (X.2.1, 80, .inl lf2)), (wc, .inl (X.2.2, 80, .inr (.inl kf2)))] := hD
        try dsimp only at hc_8
        obtain ⟨rfl, hw2, hrm⟩ := hc_8
        · skip
          have hrc := rem_cons hL.2.1 hbk hrm
          refine lv_if_eq (tgt := 34) hx hb dX6_depth_11 (by decide) (fun c_11 => ?_) (fun c_11 => ?_)
          · exact absurd c_11 (by decide)
          · skip
            refine lv_aload_n hx hb dX6_depth_14 rfl (lv_at hl 0 rfl) ?_
            refine va_get (D := X.1) (ci := 6) (v := .int (nI (b - (0)))) (C := RX6) (T := TX6) (N := 25) hx hb hts hin6 hown hK hP 0 rfl rfl 16 (by decide) lk81 (fun _ h9 => h9) rfl dX6_depth_15 ?_
            refine lv_iload_n hx hb dX6_depth_18 rfl (lv_at hl 1 rfl) ?_
            refine lv_icmp_le (tgt := 29) hx hb dX6_depth_19 (by decide) (fun c_19 => ?_) (fun c_19 => ?_)
            · replace c_19 : (b - (0)) ≤ c := (nI_leI (by omega) (by omega)).mp c_19
              refine lv_iload_n hx hb dX6_depth_29 rfl (lv_at hl 1 rfl) ?_
              refine lv_istore_n (lv' := [(1, .int (nI c)), (0, .ref m)]) hx hb dX6_depth_30 rfl hl (by decide) rfl (fun ls hl => ?_)
              refine lv_goto (tgt := 6) hx hb dX6_depth_31 (by decide) ?_
              exact ih6 c W2 lf2 kf2 (nI (b - (0))) (nI (rk Z (cdR b (0, X_, Y_)))) (nI (rk Z (cdR b (0, X_, Y_) + 4 ^ (0)))) (lN (cdR b (0, X_, Y_))) (by exact hw2) (by rw [← h2, hrc]; show _ = max c (max (b - (0)) (dpt b (rem bk L W2))); omega) (by omega) (by rw [hrc, List.length_cons] at hfu; omega) _ _ hP hD hS ls (lv_sub hl [1, 0] rfl)
            · replace c_19 : ¬ (b - (0)) ≤ c := fun h9 => c_19 ((nI_leI (by omega) (by omega)).mpr h9)
              refine lv_aload_n hx hb dX6_depth_22 rfl (lv_at hl 0 rfl) ?_
              refine va_get (D := X.1) (ci := 6) (v := .int (nI (b - (0)))) (C := RX6) (T := TX6) (N := 25) hx hb hts hin6 hown hK hP 0 rfl rfl 16 (by decide) lk81 (fun _ h9 => h9) rfl dX6_depth_23 ?_
              refine lv_goto (tgt := 30) hx hb dX6_depth_26 (by decide) ?_
              refine lv_istore_n (lv' := [(1, .int (nI (b - (0)))), (0, .ref m)]) hx hb dX6_depth_30 rfl hl (by decide) rfl (fun ls hl => ?_)
              refine lv_goto (tgt := 6) hx hb dX6_depth_31 (by decide) ?_
              exact ih6 (b - (0)) W2 lf2 kf2 (nI (b - (0))) (nI (rk Z (cdR b (0, X_, Y_)))) (nI (rk Z (cdR b (0, X_, Y_) + 4 ^ (0)))) (lN (cdR b (0, X_, Y_))) (by exact hw2) (by rw [← h2, hrc]; show _ = max c (max (b - (0)) (dpt b (rem bk L W2))); omega) (by omega) (by rw [hrc, List.length_cons] at hfu; omega) _ _ hP hD hS ls (lv_sub hl [1, 0] rfl)
      · skip
        rw [List.length_append] at hP hD
        have hP : va_P X.1 vwCl [(m, .inr (6, [.int (nI bl), .int (nI bk), .int (nI b), .int (nI sp), .ref mn, .ref xr, .ref yr, .ref vr, .ref cr, .ref wr, .int (nI nc), .int f_of, .int f_ar, .ref wl, .ref wc, .int (nI (W0.length + 1)), .int lv1, .int fi1, .int en1, .long cd1, .ref rx, .ref ry, .ref rv, .ref fr, .int f_rs])), (mn, .inl (X.2.1, 2, .inl mf)), (cr, .inl (X.2.2, 6600, .inr (.inl cf))), (wl, .inl (X.2.1, 80, .inl lf1)), (wc, .inl (X.2.2, 80, .inr (.inl kf1)))] _ := hP
        have hD : va_D A_ [(m, .inr (6, [.int (nI bl), .int (nI bk), .int (nI b), .int (nI sp), .ref mn, .ref xr, .ref yr, .ref vr, .ref cr, .ref wr, .int (nI nc), .int f_of, .int f_ar, .ref wl, .ref wc, .int (nI (W0.length + 1)), .int lv1, .int fi1, .int en1, .long cd1, .ref rx, .ref ry, .ref rv, .ref fr, .int f_rs])), (mn, .inl (X.2.1, 2, .inl mf)), (cr, .inl (X.2.2, 6600, .inr (.inl cf))), (wl, .inl (X.2.1, 80, .inl lf1)), (wc, .inl (X.2.2, 80, .inr (.inl kf1)))] := hD
        refine lv_aload_n hx hb dX6_depth_6 rfl (lv_at hl 0 rfl) ?_
        refine lv_iconst (v := nI 0) hx hb dX6_depth_7 (by decide) ?_
        refine ckVi (As := [.int (nI 0)]) (rest := []) 0 [0, 1, 2, 3, 4] (c_X6_comes_s l X m bl bk b sp mn xr yr vr cr wr nc wl wc rx ry rv fr f_of f_ar lv1 fi1 en1 f_rs cd1 d X_ Y_ 0 mf cf L Z hs hm hC hz hi hL hb1 W0 lf1 kf1 h1 hbk hbk2) ⟨hx, hb, hml, hown, hts⟩ (cwV 1 hts gX6_depth_X6_comes rfl rfl rfl (by decide +kernel) ⟨Nat.le_of_ble_eq_true rfl, Nat.le_of_ble_eq_true rfl⟩) hK hN hP hD hS (by decide) rfl (ci := 6) rfl rfl (fun _ => rfl) rfl hl.1 rfl (Nat.le_of_ble_eq_true rfl) dX6_depth_8 ⟨Nat.zero_le _, Nat.zero_le _⟩ (fun r_7 u_6 H locs hc_8 hP hD hS => ?_)
        obtain ⟨lf2, kf2, W2⟩ := u_6
        have hP : va_P X.1 vwCl [(m, .inr (6, [.int (nI bl), .int (nI bk), .int (nI b), .int (nI sp), .ref mn, .ref xr, .ref yr, .ref vr, .ref cr, .ref wr, .int (nI nc), .int f_of, .int f_ar, .ref wl, .ref wc, .int (nI ((W2).length)), .int (nI (b - (d + 1))), .int (nI (rk Z (cdR b (d + 1, X_, Y_)))), .int (nI (rk Z (cdR b (d + 1, X_, Y_) + 4 ^ (d + 1)))), .long (lN (cdR b (d + 1, X_, Y_))), .ref rx, .ref ry, .ref rv, .ref fr, .int f_rs])), (mn, .inl (X.2.1, 2, .inl mf)), (cr, .inl (X.2.2, 6600, .inr (.inl cf))), (wl, .inl (X.2.1, 80, .inl lf2)), (wc, .inl (X.2.2, 80, .inr (.inl kf2)))] H := hP
        have hD : va_D A_ [(m, .inr (6, [.int (nI bl), .int (nI bk), .int (nI b), .int (nI sp), .ref mn, .ref xr, .ref yr, .ref vr, .ref cr, .ref wr, .int (nI nc), .int f_of, .int f_ar, .ref wl, .ref wc, .int (nI ((W2).length)), .int (nI (b - (d + 1))), .int (nI (rk Z (cdR b (d + 1, X_, Y_)))), .int (nI (rk Z (cdR b (d + 1, X_, Y_) + 4 ^ (d + 1)))), .long (lN (cdR b (d + 1, X_, Y_))), .ref rx, .ref ry, .ref rv, .ref fr, .int f_rs])), (mn, .inl (X.2.1, 2, .inl mf)), (cr, .inl (X.2.2, 6600, .inr (.inl cf))), (wl, .inl (X.2.1, 80, .inl lf2)), (wc, .inl (X.2.2, 80, .inr (.inl kf2)))] := hD
        try dsimp only at hc_8
        obtain ⟨rfl, hw2, hrm⟩ := hc_8
        · skip
          have hrc := rem_cons hL.2.1 hbk hrm
          refine lv_if_eq (tgt := 34) hx hb dX6_depth_11 (by decide) (fun c_11 => ?_) (fun c_11 => ?_)
          · exact absurd c_11 (by decide)
          · skip
            refine lv_aload_n hx hb dX6_depth_14 rfl (lv_at hl 0 rfl) ?_
            refine va_get (D := X.1) (ci := 6) (v := .int (nI (b - (d + 1)))) (C := RX6) (T := TX6) (N := 25) hx hb hts hin6 hown hK hP 0 rfl rfl 16 (by decide) lk81 (fun _ h9 => h9) rfl dX6_depth_15 ?_
            refine lv_iload_n hx hb dX6_depth_18 rfl (lv_at hl 1 rfl) ?_
            refine lv_icmp_le (tgt := 29) hx hb dX6_depth_19 (by decide) (fun c_19 => ?_) (fun c_19 => ?_)
            · replace c_19 : (b - (d + 1)) ≤ c := (nI_leI (by omega) (by omega)).mp c_19
              refine lv_iload_n hx hb dX6_depth_29 rfl (lv_at hl 1 rfl) ?_
              refine lv_istore_n (lv' := [(1, .int (nI c)), (0, .ref m)]) hx hb dX6_depth_30 rfl hl (by decide) rfl (fun ls hl => ?_)
              refine lv_goto (tgt := 6) hx hb dX6_depth_31 (by decide) ?_
              exact ih6 c W2 lf2 kf2 (nI (b - (d + 1))) (nI (rk Z (cdR b (d + 1, X_, Y_)))) (nI (rk Z (cdR b (d + 1, X_, Y_) + 4 ^ (d + 1)))) (lN (cdR b (d + 1, X_, Y_))) (by exact hw2) (by rw [← h2, hrc]; show _ = max c (max (b - (d + 1)) (dpt b (rem bk L W2))); omega) (by omega) (by rw [hrc, List.length_cons] at hfu; omega) _ _ hP hD hS ls (lv_sub hl [1, 0] rfl)
            · replace c_19 : ¬ (b - (d + 1)) ≤ c := fun h9 => c_19 ((nI_leI (by omega) (by omega)).mpr h9)
              refine lv_aload_n hx hb dX6_depth_22 rfl (lv_at hl 0 rfl) ?_
              refine va_get (D := X.1) (ci := 6) (v := .int (nI (b - (d + 1)))) (C := RX6) (T := TX6) (N := 25) hx hb hts hin6 hown hK hP 0 rfl rfl 16 (by decide) lk81 (fun _ h9 => h9) rfl dX6_depth_23 ?_
              refine lv_goto (tgt := 30) hx hb dX6_depth_26 (by decide) ?_
              refine lv_istore_n (lv' := [(1, .int (nI (b - (d + 1)))), (0, .ref m)]) hx hb dX6_depth_30 rfl hl (by decide) rfl (fun ls hl => ?_)
              refine lv_goto (tgt := 6) hx hb dX6_depth_31 (by decide) ?_
              exact ih6 (b - (d + 1)) W2 lf2 kf2 (nI (b - (d + 1))) (nI (rk Z (cdR b (d + 1, X_, Y_)))) (nI (rk Z (cdR b (d + 1, X_, Y_) + 4 ^ (d + 1)))) (lN (cdR b (d + 1, X_, Y_))) (by exact hw2) (by rw [← h2, hrc]; show _ = max c (max (b - (d + 1)) (dpt b (rem bk L W2))); omega) (by omega) (by rw [hrc, List.length_cons] at hfu; omega) _ _ hP hD hS ls (lv_sub hl [1, 0] rfl)
  have hP : va_P X.1 vwCl [(m, .inr (6, [.int (nI bl), .int (nI bk), .int (nI b), .int (nI sp), .ref mn, .ref xr, .ref yr, .ref vr, .ref cr, .ref wr, .int (nI nc), .int f_of, .int f_ar, .ref wl, .ref wc, .int (nI (([(b, 0, 0)] : List Rg).length)), .int f_lv, .int f_fi, .int f_en, .long f_cd, .ref rx, .ref ry, .ref rv, .ref fr, .int f_rs])), (mn, .inl (X.2.1, 2, .inl mf)), (cr, .inl (X.2.2, 6600, .inr (.inl cf))), (wl, .inl (X.2.1, 80, .inl lf0)), (wc, .inl (X.2.2, 80, .inr (.inl kf0)))] _ := hP
  have hD : va_D A_ [(m, .inr (6, [.int (nI bl), .int (nI bk), .int (nI b), .int (nI sp), .ref mn, .ref xr, .ref yr, .ref vr, .ref cr, .ref wr, .int (nI nc), .int f_of, .int f_ar, .ref wl, .ref wc, .int (nI (([(b, 0, 0)] : List Rg).length)), .int f_lv, .int f_fi, .int f_en, .long f_cd, .ref rx, .ref ry, .ref rv, .ref fr, .int f_rs])), (mn, .inl (X.2.1, 2, .inl mf)), (cr, .inl (X.2.2, 6600, .inr (.inl cf))), (wl, .inl (X.2.1, 80, .inl lf0)), (wc, .inl (X.2.2, 80, .inr (.inl kf0)))] := hD
  exact loop_6 _ 0 ([(b, 0, 0)]) lf0 kf0 f_lv f_fi f_en f_cd (by exact wOk_init hbe.1 hbe.2) (by rw [rem_init hi, Nat.zero_max]) (by omega) (Nat.lt_succ_self _) _ _ hP hD hS ls (lv_sub hl [1, 0] rfl)
