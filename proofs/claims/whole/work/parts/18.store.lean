/-! PointStore: insert: contracts, laid by program (wip/gen/spec_store.py) -/
set_option maxHeartbeats 4000000 in
set_option maxRecDepth 100000 in
theorem c_X5_comesIn (l : Launch) (X : kX) (a d p t t2 ch rs sp bl bk cp : Nat) (f_ct : Int32) (pk pv w fa oa b key x : Nat) (f_pw f_nn f_dd f_mo : Int32) (pkf pvf ff o : Nat → Int32) (P : PL) (h : ptOk pkf pvf P) (hlt : P.length < 512) (hno : lkp P key = none) (hk : key < 2 ^ 30) (hx0 : x < 2 ^ 31) (hbl : bl ≤ 400) (hb1 : b ≤ 15) (hbk : 1 ≤ bk) (hbk2 : bk ≤ 8) (htc : tcOk bk b (bl + 1) P w f_nn f_dd f_mo ff) (hin : insd b (pput P key x)) (hw : w + 2 < 2 ^ 31) : CWi l X yX5_comesIn wsX5_comesIn (b + 5) [.ref a, .int (nI key), .int (nI x)] [(a, .inr (5, [.int (nI bl), .int (nI bk), .int (nI sp), .ref d, .ref p, .ref t, .ref t2, .ref ch, .ref rs, .int f_pw, .int f_ct, .int (nI cp)])), (p, .inr (2, [.ref pk, .ref pv, .int (nI P.length), .int (nI w)])), (pk, .inl (X.2.1, 512, .inl pkf)), (pv, .inl (X.2.1, 512, .inl pvf)), (t, .inr (4, [.ref p, .int (nI bk), .int (nI b), .int (nI (bl + 1)), .ref fa, .ref oa, .int f_nn, .int f_dd, .int f_mo])), (fa, .inl (X.2.1, 6 * (bl + 1), .inl ff)), (oa, .inl (X.2.1, 512, .inl o))] (S := (Nat → Int32) × (Nat → Int32) × (Nat → Int32) × (Nat → Int32) × PL × Nat) (fun r u => (r = nI 1 ∧ (¬ bl < (tr bk b 0 0 (pput P key x)).length ∧ ptOk u.1 u.2.1 (pput P key x) ∧ u.2.2.2.2.1 = (pput P key x) ∧ u.2.2.2.2.2 = w + 1 ∧ fOk u.2.2.1 (gF bk b 0 0 (bl + 1) (pput P key x) []))) ∨ (r = nI 0 ∧ (bl < (tr bk b 0 0 (pput P key x)).length ∧ ptOk u.1 u.2.1 P ∧ u.2.2.2.2.1 = P ∧ u.2.2.2.2.2 = w + 2 ∧ fOk u.2.2.1 (gF bk b 0 0 (bl + 1) (pput P key x) [])))) (fun ⟨kf2, vf2, ff2, o2, P2, w2⟩ => [(a, .inr (5, [.int (nI bl), .int (nI bk), .int (nI sp), .ref d, .ref p, .ref t, .ref t2, .ref ch, .ref rs, .int f_pw, .int f_ct, .int (nI cp)])), (p, .inr (2, [.ref pk, .ref pv, .int (nI P2.length), .int (nI w2)])), (pk, .inl (X.2.1, 512, .inl kf2)), (pv, .inl (X.2.1, 512, .inl vf2)), (t, .inr (4, [.ref p, .int (nI bk), .int (nI b), .int (nI (bl + 1)), .ref fa, .ref oa, .int (nI ((gF bk b 0 0 (bl + 1) (pput P key x) []).length)), .int (nI (dpt b (gF bk b 0 0 (bl + 1) (pput P key x) []))), .int (nI (w + 1))])), (fa, .inl (X.2.1, 6 * (bl + 1), .inl ff2)), (oa, .inl (X.2.1, 512, .inl o2))]) := by
  refine Met.ofW (cc := cX5_comesIn) (maxL := 3) (ret := some (.boolean)) (by decide) rfl ?_
  intro pz ez sz mz args below meth cz s₁ Bz hml hv
  obtain ⟨rfl, hP, hK, hD0, hN⟩ := hv
  have hx := Bz.exec
  have hb := Bz.bytes
  have hr := Bz.returns
  have hts := atoms_spec (ws := wsX5_comesIn) Bz.pre
  have hown : sz.vm.findClass RX5 = some mz.cls := findClass_of_methodNamed Bz.named
  have hlocks := Bz.notSynchronized
  have hD := inW.self hD0
  have hS : va_S (inW [(a, .inr (5, [.int (nI bl), .int (nI bk), .int (nI sp), .ref d, .ref p, .ref t, .ref t2, .ref ch, .ref rs, .int f_pw, .int f_ct, .int (nI cp)])), (p, .inr (2, [.ref pk, .ref pv, .int (nI P.length), .int (nI w)])), (pk, .inl (X.2.1, 512, .inl pkf)), (pv, .inl (X.2.1, 512, .inl pvf)), (t, .inr (4, [.ref p, .int (nI bk), .int (nI b), .int (nI (bl + 1)), .ref fa, .ref oa, .int f_nn, .int f_dd, .int f_mo])), (fa, .inl (X.2.1, 6 * (bl + 1), .inl ff)), (oa, .inl (X.2.1, 512, .inl o))]) sz.heap sz.heap [] := va_S.rf
  have hl := lv_entry ([.ref a, .int (nI key), .int (nI x)]) (n := 3) (Nat.le_of_ble_eq_true rfl)
  rw [lg_entry_eq]
  generalize (lg_sl ([.ref a, .int (nI key), .int (nI x)]) ++ List.replicate (3 - (lg_sl ([.ref a, .int (nI key), .int (nI x)])).length) Slot.unset).toArray = ls at hl ⊢
  have hl : lv_has ls 3 [(0, .ref a), (1, .int (nI key)), (2, .int (nI x))] := hl
  have lk16 := hts (.fieldLink RX5 16 "PointStore" "blocks" "I") (by decide +kernel)
  have lk35 := hts (.fieldLink RX5 35 "PointStore" "pending" "LPointStore$Points;") (by decide +kernel)
  have lk44 := hts (.fieldLink RX5 44 "PointStore" "pendingTree" "LPointStore$Tree;") (by decide +kernel)
  have lk191 := hts (.fieldLink RX5 191 "PointStore$Tree" "nodes" "I") (by decide +kernel)
  have hin4 : ∀ w ∈ u_ws RX4 TX4 9, w ∈ wsX5_comesIn := by decide +kernel
  have hin5 : ∀ w ∈ u_ws RX5 TX5 12, w ∈ wsX5_comesIn := by decide +kernel
  refine wQ (fun Q hQ => ?_)
  generalize hAe : inW [(a, .inr (5, [.int (nI bl), .int (nI bk), .int (nI sp), .ref d, .ref p, .ref t, .ref t2, .ref ch, .ref rs, .int f_pw, .int f_ct, .int (nI cp)])), (p, .inr (2, [.ref pk, .ref pv, .int (nI P.length), .int (nI w)])), (pk, .inl (X.2.1, 512, .inl pkf)), (pv, .inl (X.2.1, 512, .inl pvf)), (t, .inr (4, [.ref p, .int (nI bk), .int (nI b), .int (nI (bl + 1)), .ref fa, .ref oa, .int f_nn, .int f_dd, .int f_mo])), (fa, .inl (X.2.1, 6 * (bl + 1), .inl ff)), (oa, .inl (X.2.1, 512, .inl o))] = A_ at hD hS hQ
  have hpl := pput_len (L := P) (key := key) (v := x)
  have hdl : pdel (pput P key x) key = P := pdel_pput h.2.2.1 hno
  have htv : tv (pput P key x) key (w + 1) = w + 2 := tv_pput h.2.2.1
  refine lv_aload_n hx hb dX5_comesIn_0 rfl (lv_at hl 0 rfl) ?_
  refine va_get (D := X.1) (ci := 5) (v := .ref p) (C := RX5) (T := TX5) (N := 12) hx hb hts hin5 hown hK hP 0 rfl rfl 4 (by decide) lk35 (fun _ h9 => h9) rfl dX5_comesIn_1 ?_
  refine ckVRi (As := []) (rest := []) 0 [1] (c_X2_isFull l X p pk pv P.length w h.1) ⟨hx, hb, hml, hown, hts⟩ (cwV 0 hts gX5_comesIn_X2_isFull rfl rfl rfl (by decide +kernel) ⟨(by show 0 + 1 + 1 ≤ b + 5 + 1; omega), (by show 8 + (1 + 11) + 100 * (0 + 1) ≤ 100 * (b + 5 + 1); omega)⟩) hK hN hP hD (by decide) rfl (ci := 2) rfl rfl rfl hl.1 rfl (Nat.le_of_ble_eq_true rfl) dX5_comesIn_4 ⟨Nat.zero_le _, Nat.zero_le _⟩ (fun r_1 hc_4 => ?_)
  rcases hc_4 with ⟨hc_4, rfl⟩ | ⟨hc_4, rfl⟩
  · skip
    omega
  · skip
    refine lv_if_eq (tgt := 12) hx hb dX5_comesIn_7 (by decide) (fun c_7 => ?_) (fun c_7 => ?_)
    · skip
      refine lv_aload_n hx hb dX5_comesIn_12 rfl (lv_at hl 0 rfl) ?_
      refine va_get (D := X.1) (ci := 5) (v := .ref p) (C := RX5) (T := TX5) (N := 12) hx hb hts hin5 hown hK hP 0 rfl rfl 4 (by decide) lk35 (fun _ h9 => h9) rfl dX5_comesIn_13 ?_
      refine lv_iload_n hx hb dX5_comesIn_16 rfl (lv_at hl 1 rfl) ?_
      refine lv_iload_n hx hb dX5_comesIn_17 rfl (lv_at hl 2 rfl) ?_
      refine ckVv (As := [.int (nI key), .int (nI x)]) (rest := []) 0 [1, 2, 3] (c_X2_put l X p pk pv w key x pkf pvf P h hk hx0 (by omega)) ⟨hx, hb, hml, hown, hts⟩ (cwV 2 hts gX5_comesIn_X2_put rfl rfl rfl (by decide +kernel) ⟨(by show 1 + 1 + 1 ≤ b + 5 + 1; omega), (by show 8 + (4 + 11) + 100 * (1 + 1) ≤ 100 * (b + 5 + 1); omega)⟩) hK hN hP hD hS (by decide) rfl (ci := 2) rfl rfl (fun _ => rfl) rfl hl.1 rfl (Nat.le_of_ble_eq_true rfl) dX5_comesIn_18 ⟨Nat.zero_le _, Nat.zero_le _⟩ (fun u_2 H locs hpu hP hD hS => ?_)
      obtain ⟨pkf2, pvf2⟩ := u_2
      have hP : va_P X.1 vwCl [(a, .inr (5, [.int (nI bl), .int (nI bk), .int (nI sp), .ref d, .ref p, .ref t, .ref t2, .ref ch, .ref rs, .int f_pw, .int f_ct, .int (nI cp)])), (p, .inr (2, [.ref pk, .ref pv, .int (nI ((pput P key x).length)), .int (nI (w + 1))])), (pk, .inl (X.2.1, 512, .inl pkf2)), (pv, .inl (X.2.1, 512, .inl pvf2)), (t, .inr (4, [.ref p, .int (nI bk), .int (nI b), .int (nI (bl + 1)), .ref fa, .ref oa, .int f_nn, .int f_dd, .int f_mo])), (fa, .inl (X.2.1, 6 * (bl + 1), .inl ff)), (oa, .inl (X.2.1, 512, .inl o))] H := hP
      have hD : va_D A_ [(a, .inr (5, [.int (nI bl), .int (nI bk), .int (nI sp), .ref d, .ref p, .ref t, .ref t2, .ref ch, .ref rs, .int f_pw, .int f_ct, .int (nI cp)])), (p, .inr (2, [.ref pk, .ref pv, .int (nI ((pput P key x).length)), .int (nI (w + 1))])), (pk, .inl (X.2.1, 512, .inl pkf2)), (pv, .inl (X.2.1, 512, .inl pvf2)), (t, .inr (4, [.ref p, .int (nI bk), .int (nI b), .int (nI (bl + 1)), .ref fa, .ref oa, .int f_nn, .int f_dd, .int f_mo])), (fa, .inl (X.2.1, 6 * (bl + 1), .inl ff)), (oa, .inl (X.2.1, 512, .inl o))] := hD
      try dsimp only at hpu
      refine lv_aload_n hx hb dX5_comesIn_21 rfl (lv_at hl 0 rfl) ?_
      refine va_get (D := X.1) (ci := 5) (v := .ref t) (C := RX5) (T := TX5) (N := 12) hx hb hts hin5 hown hK hP 0 rfl rfl 5 (by decide) lk44 (fun _ h9 => h9) rfl dX5_comesIn_22 ?_
      refine ckVr (As := []) (rest := []) 0 [4, 1, 2, 3, 5, 6] (c_X4_upToDate l X t p pk pv fa oa bk b (bl + 1) (w + 1) f_nn f_dd f_mo pkf2 pvf2 ff o (pput P key x) hpu (by omega) hb1 hbk hbk2 (insd_rg hin) ((tc_next htc (Nat.lt_succ_self w) (by omega)).1)) ⟨hx, hb, hml, hown, hts⟩ (cwV 0 hts gX5_comesIn_X4_upToDate rfl rfl rfl (by decide +kernel) ⟨(by show b + 4 + 1 + 1 ≤ b + 5 + 1; omega), (by show 8 + (2 + 11) + 100 * (b + 4 + 1) ≤ 100 * (b + 5 + 1); omega)⟩) hK hN hP hD hS (by decide) rfl (ci := 4) rfl rfl (fun _ => rfl) rfl hl.1 rfl (Nat.le_of_ble_eq_true rfl) dX5_comesIn_25 ⟨Nat.zero_le _, Nat.zero_le _⟩ (fun u_4 H locs hup hP hD hS => ?_)
      obtain ⟨ff2, o2⟩ := u_4
      have hP : va_P X.1 vwCl [(a, .inr (5, [.int (nI bl), .int (nI bk), .int (nI sp), .ref d, .ref p, .ref t, .ref t2, .ref ch, .ref rs, .int f_pw, .int f_ct, .int (nI cp)])), (p, .inr (2, [.ref pk, .ref pv, .int (nI ((pput P key x).length)), .int (nI (w + 1))])), (pk, .inl (X.2.1, 512, .inl pkf2)), (pv, .inl (X.2.1, 512, .inl pvf2)), (t, .inr (4, [.ref p, .int (nI bk), .int (nI b), .int (nI (bl + 1)), .ref fa, .ref oa, .int (nI ((gF bk b 0 0 (bl + 1) (pput P key x) []).length)), .int (nI (dpt b (gF bk b 0 0 (bl + 1) (pput P key x) []))), .int (nI (w + 1))])), (fa, .inl (X.2.1, 6 * (bl + 1), .inl ff2)), (oa, .inl (X.2.1, 512, .inl o2))] H := hP
      have hD : va_D A_ [(a, .inr (5, [.int (nI bl), .int (nI bk), .int (nI sp), .ref d, .ref p, .ref t, .ref t2, .ref ch, .ref rs, .int f_pw, .int f_ct, .int (nI cp)])), (p, .inr (2, [.ref pk, .ref pv, .int (nI ((pput P key x).length)), .int (nI (w + 1))])), (pk, .inl (X.2.1, 512, .inl pkf2)), (pv, .inl (X.2.1, 512, .inl pvf2)), (t, .inr (4, [.ref p, .int (nI bk), .int (nI b), .int (nI (bl + 1)), .ref fa, .ref oa, .int (nI ((gF bk b 0 0 (bl + 1) (pput P key x) []).length)), .int (nI (dpt b (gF bk b 0 0 (bl + 1) (pput P key x) []))), .int (nI (w + 1))])), (fa, .inl (X.2.1, 6 * (bl + 1), .inl ff2)), (oa, .inl (X.2.1, 512, .inl o2))] := hD
      try dsimp only at hup
      refine va_get (D := X.1) (ci := 4) (v := .int (nI ((gF bk b 0 0 (bl + 1) (pput P key x) []).length))) (C := RX4) (T := TX4) (N := 9) hx hb hts hin4 hown hK hP 4 rfl rfl 6 (by decide) lk191 (fun _ h9 => h9) rfl dX5_comesIn_28 ?_
      refine lv_aload_n hx hb dX5_comesIn_31 rfl (lv_at hl 0 rfl) ?_
      refine va_get (D := X.1) (ci := 5) (v := .int (nI bl)) (C := RX5) (T := TX5) (N := 12) hx hb hts hin5 hown hK hP 0 rfl rfl 0 (by decide) lk16 (fun _ h9 => h9) rfl dX5_comesIn_32 ?_
      have hgl : (gF bk b 0 0 (bl + 1) (pput P key x) []).length ≤ bl + 1 := List.length_take_le _ _
      refine lv_icmp_le (tgt := 48) hx hb dX5_comesIn_35 (by decide) (fun c_35 => ?_) (fun c_35 => ?_)
      · replace c_35 : ((gF bk b 0 0 (bl + 1) (pput P key x) []).length) ≤ bl := (nI_leI (by omega) (by omega)).mp c_35
        refine lv_iconst (v := nI 1) hx hb dX5_comesIn_48 (by decide) ?_
        refine wM hQ ?_
        exact rtZ (pkf2, pvf2, ff2, o2, (pput P key x), w + 1) hx hb hr hlocks (by decide) hP hS (Or.inl ⟨rfl, fun z => by have := (gF_gt (bl := bl)).mpr z; omega, hpu, rfl, rfl, hup⟩) dX5_comesIn_49
      · replace c_35 : ¬ ((gF bk b 0 0 (bl + 1) (pput P key x) []).length) ≤ bl := fun h9 => c_35 ((nI_leI (by omega) (by omega)).mpr h9)
        refine lv_aload_n hx hb dX5_comesIn_38 rfl (lv_at hl 0 rfl) ?_
        refine va_get (D := X.1) (ci := 5) (v := .ref p) (C := RX5) (T := TX5) (N := 12) hx hb hts hin5 hown hK hP 0 rfl rfl 4 (by decide) lk35 (fun _ h9 => h9) rfl dX5_comesIn_39 ?_
        refine lv_iload_n hx hb dX5_comesIn_42 rfl (lv_at hl 1 rfl) ?_
        refine ckVv (As := [.int (nI key)]) (rest := []) 0 [1, 2, 3] (c_X2_takeOut l X p pk pv (w + 1) key pkf2 pvf2 (pput P key x) hpu hk) ⟨hx, hb, hml, hown, hts⟩ (cwV 1 hts gX5_comesIn_X2_takeOut rfl rfl rfl (by decide +kernel) ⟨(by show 1 + 1 + 1 ≤ b + 5 + 1; omega), (by show 8 + (3 + 11) + 100 * (1 + 1) ≤ 100 * (b + 5 + 1); omega)⟩) hK hN hP hD hS (by decide) rfl (ci := 2) rfl rfl (fun _ => rfl) rfl hl.1 rfl (Nat.le_of_ble_eq_true rfl) dX5_comesIn_43 ⟨Nat.zero_le _, Nat.zero_le _⟩ (fun u_6 H locs hto hP hD hS => ?_)
        obtain ⟨pkf3, pvf3⟩ := u_6
        have hP : va_P X.1 vwCl [(a, .inr (5, [.int (nI bl), .int (nI bk), .int (nI sp), .ref d, .ref p, .ref t, .ref t2, .ref ch, .ref rs, .int f_pw, .int f_ct, .int (nI cp)])), (p, .inr (2, [.ref pk, .ref pv, .int (nI ((pdel (pput P key x) key).length)), .int (nI (tv (pput P key x) key (w + 1)))])), (pk, .inl (X.2.1, 512, .inl pkf3)), (pv, .inl (X.2.1, 512, .inl pvf3)), (t, .inr (4, [.ref p, .int (nI bk), .int (nI b), .int (nI (bl + 1)), .ref fa, .ref oa, .int (nI ((gF bk b 0 0 (bl + 1) (pput P key x) []).length)), .int (nI (dpt b (gF bk b 0 0 (bl + 1) (pput P key x) []))), .int (nI (w + 1))])), (fa, .inl (X.2.1, 6 * (bl + 1), .inl ff2)), (oa, .inl (X.2.1, 512, .inl o2))] H := hP
        have hD : va_D A_ [(a, .inr (5, [.int (nI bl), .int (nI bk), .int (nI sp), .ref d, .ref p, .ref t, .ref t2, .ref ch, .ref rs, .int f_pw, .int f_ct, .int (nI cp)])), (p, .inr (2, [.ref pk, .ref pv, .int (nI ((pdel (pput P key x) key).length)), .int (nI (tv (pput P key x) key (w + 1)))])), (pk, .inl (X.2.1, 512, .inl pkf3)), (pv, .inl (X.2.1, 512, .inl pvf3)), (t, .inr (4, [.ref p, .int (nI bk), .int (nI b), .int (nI (bl + 1)), .ref fa, .ref oa, .int (nI ((gF bk b 0 0 (bl + 1) (pput P key x) []).length)), .int (nI (dpt b (gF bk b 0 0 (bl + 1) (pput P key x) []))), .int (nI (w + 1))])), (fa, .inl (X.2.1, 6 * (bl + 1), .inl ff2)), (oa, .inl (X.2.1, 512, .inl o2))] := hD
        try dsimp only at hto
        rw [hdl, htv] at hP hD
        rw [hdl] at hto
        have hP : va_P X.1 vwCl [(a, .inr (5, [.int (nI bl), .int (nI bk), .int (nI sp), .ref d, .ref p, .ref t, .ref t2, .ref ch, .ref rs, .int f_pw, .int f_ct, .int (nI cp)])), (p, .inr (2, [.ref pk, .ref pv, .int (nI P.length), .int (nI (w + 2))])), (pk, .inl (X.2.1, 512, .inl pkf3)), (pv, .inl (X.2.1, 512, .inl pvf3)), (t, .inr (4, [.ref p, .int (nI bk), .int (nI b), .int (nI (bl + 1)), .ref fa, .ref oa, .int (nI ((gF bk b 0 0 (bl + 1) (pput P key x) []).length)), .int (nI (dpt b (gF bk b 0 0 (bl + 1) (pput P key x) []))), .int (nI (w + 1))])), (fa, .inl (X.2.1, 6 * (bl + 1), .inl ff2)), (oa, .inl (X.2.1, 512, .inl o2))] _ := hP
        have hD : va_D A_ [(a, .inr (5, [.int (nI bl), .int (nI bk), .int (nI sp), .ref d, .ref p, .ref t, .ref t2, .ref ch, .ref rs, .int f_pw, .int f_ct, .int (nI cp)])), (p, .inr (2, [.ref pk, .ref pv, .int (nI P.length), .int (nI (w + 2))])), (pk, .inl (X.2.1, 512, .inl pkf3)), (pv, .inl (X.2.1, 512, .inl pvf3)), (t, .inr (4, [.ref p, .int (nI bk), .int (nI b), .int (nI (bl + 1)), .ref fa, .ref oa, .int (nI ((gF bk b 0 0 (bl + 1) (pput P key x) []).length)), .int (nI (dpt b (gF bk b 0 0 (bl + 1) (pput P key x) []))), .int (nI (w + 1))])), (fa, .inl (X.2.1, 6 * (bl + 1), .inl ff2)), (oa, .inl (X.2.1, 512, .inl o2))] := hD
        refine lv_iconst (v := nI 0) hx hb dX5_comesIn_46 (by decide) ?_
        refine wM hQ ?_
        exact rtZ (pkf3, pvf3, ff2, o2, P, w + 2) hx hb hr hlocks (by decide) hP hS (Or.inr ⟨rfl, gF_gt.mp (by omega), hto, rfl, rfl, hup⟩) dX5_comesIn_47
    · exact absurd c_7 (by decide)
set_option maxHeartbeats 4000000 in
set_option maxRecDepth 100000 in
theorem c_X5_insert (l : Launch) (X : kX) (a d p t t2 ch rs sp bl bk cp : Nat) (f_ct : Int32) (pk pv w fa oa b ck cv : Nat) (f_nn f_dd f_mo x y v : Int32) (pkf pvf ff o ckf cvf : Nat → Int32) (P : PL) (C : List Op) (h : ptOk pkf pvf P) (hc : chOk ckf cvf C) (hlt : P.length < 512) (hbl : bl ≤ 400) (hb1 : b ≤ 15) (hbk : 1 ≤ bk) (hbk2 : bk ≤ 8) (hsp : sp ≤ 32768) (hsb : sp = 2 ^ b) (htc : tcOk bk b (bl + 1) P w f_nn f_dd f_mo ff) (hin : insd b P) (hw : w + 2 < 2 ^ 31) : CWi l X yX5_insert wsX5_insert (b + 6) [.ref a, .int x, .int y, .int v] [(a, .inr (5, [.int (nI bl), .int (nI bk), .int (nI sp), .ref d, .ref p, .ref t, .ref t2, .ref ch, .ref rs, .int (nI 1), .int f_ct, .int (nI cp)])), (p, .inr (2, [.ref pk, .ref pv, .int (nI P.length), .int (nI w)])), (pk, .inl (X.2.1, 512, .inl pkf)), (pv, .inl (X.2.1, 512, .inl pvf)), (t, .inr (4, [.ref p, .int (nI bk), .int (nI b), .int (nI (bl + 1)), .ref fa, .ref oa, .int f_nn, .int f_dd, .int f_mo])), (fa, .inl (X.2.1, 6 * (bl + 1), .inl ff)), (oa, .inl (X.2.1, 512, .inl o)), (ch, .inr (0, [.ref ck, .ref cv, .int (nI C.length)])), (ck, .inl (X.2.1, 60, .inl ckf)), (cv, .inl (X.2.1, 60, .inl cvf))] (S := (Nat → Int32) × (Nat → Int32) × PL × Nat × Int32 × Int32 × Int32 × (Nat → Int32) × (Nat → Int32) × (Nat → Int32) × (Nat → Int32) × List Op) (fun r u => (r, u.2.2.1, u.2.2.2.2.2.2.2.2.2.2.2) = insF sp bk b bl P C.length x y v ∧ ptOk u.1 u.2.1 u.2.2.1 ∧ (w ≤ u.2.2.2.1 ∧ u.2.2.2.1 ≤ w + 2) ∧ tcOk bk b (bl + 1) u.2.2.1 u.2.2.2.1 u.2.2.2.2.1 u.2.2.2.2.2.1 u.2.2.2.2.2.2.1 u.2.2.2.2.2.2.2.1 ∧ chOk u.2.2.2.2.2.2.2.2.2.1 u.2.2.2.2.2.2.2.2.2.2.1 (C ++ u.2.2.2.2.2.2.2.2.2.2.2)) (fun ⟨kf2, vf2, P2, w2, g_nn, g_dd, g_mo, ff2, o2, ck2, cv2, D⟩ => [(a, .inr (5, [.int (nI bl), .int (nI bk), .int (nI sp), .ref d, .ref p, .ref t, .ref t2, .ref ch, .ref rs, .int (nI 1), .int f_ct, .int (nI cp)])), (p, .inr (2, [.ref pk, .ref pv, .int (nI P2.length), .int (nI w2)])), (pk, .inl (X.2.1, 512, .inl kf2)), (pv, .inl (X.2.1, 512, .inl vf2)), (t, .inr (4, [.ref p, .int (nI bk), .int (nI b), .int (nI (bl + 1)), .ref fa, .ref oa, .int g_nn, .int g_dd, .int g_mo])), (fa, .inl (X.2.1, 6 * (bl + 1), .inl ff2)), (oa, .inl (X.2.1, 512, .inl o2)), (ch, .inr (0, [.ref ck, .ref cv, .int (nI ((C ++ D).length))])), (ck, .inl (X.2.1, 60, .inl ck2)), (cv, .inl (X.2.1, 60, .inl cv2))]) := by
  refine Met.ofW (cc := cX5_insert) (maxL := 6) (ret := some (.int)) (by decide) rfl ?_
  intro pz ez sz mz args below meth cz s₁ Bz hml hv
  obtain ⟨rfl, hP, hK, hD0, hN⟩ := hv
  have hx := Bz.exec
  have hb := Bz.bytes
  have hr := Bz.returns
  have hts := atoms_spec (ws := wsX5_insert) Bz.pre
  have hown : sz.vm.findClass RX5 = some mz.cls := findClass_of_methodNamed Bz.named
  have hlocks := Bz.notSynchronized
  have hD := inW.self hD0
  have hS : va_S (inW [(a, .inr (5, [.int (nI bl), .int (nI bk), .int (nI sp), .ref d, .ref p, .ref t, .ref t2, .ref ch, .ref rs, .int (nI 1), .int f_ct, .int (nI cp)])), (p, .inr (2, [.ref pk, .ref pv, .int (nI P.length), .int (nI w)])), (pk, .inl (X.2.1, 512, .inl pkf)), (pv, .inl (X.2.1, 512, .inl pvf)), (t, .inr (4, [.ref p, .int (nI bk), .int (nI b), .int (nI (bl + 1)), .ref fa, .ref oa, .int f_nn, .int f_dd, .int f_mo])), (fa, .inl (X.2.1, 6 * (bl + 1), .inl ff)), (oa, .inl (X.2.1, 512, .inl o)), (ch, .inr (0, [.ref ck, .ref cv, .int (nI C.length)])), (ck, .inl (X.2.1, 60, .inl ckf)), (cv, .inl (X.2.1, 60, .inl cvf))]) sz.heap sz.heap [] := va_S.rf
  have hl := lv_entry ([.ref a, .int x, .int y, .int v]) (n := 6) (Nat.le_of_ble_eq_true rfl)
  rw [lg_entry_eq]
  generalize (lg_sl ([.ref a, .int x, .int y, .int v]) ++ List.replicate (6 - (lg_sl ([.ref a, .int x, .int y, .int v])).length) Slot.unset).toArray = ls at hl ⊢
  have hl : lv_has ls 6 [(0, .ref a), (1, .int x), (2, .int y), (3, .int v)] := hl
  have lk35 := hts (.fieldLink RX5 35 "PointStore" "pending" "LPointStore$Points;") (by decide +kernel)
  have lk54 := hts (.fieldLink RX5 54 "PointStore" "changes" "LPointStore$Changes;") (by decide +kernel)
  have lk65 := hts (.fieldLink RX5 65 "PointStore" "powered" "Z") (by decide +kernel)
  have hin5 : ∀ w ∈ u_ws RX5 TX5 12, w ∈ wsX5_insert := by decide +kernel
  refine wQ (fun Q hQ => ?_)
  generalize hAe : inW [(a, .inr (5, [.int (nI bl), .int (nI bk), .int (nI sp), .ref d, .ref p, .ref t, .ref t2, .ref ch, .ref rs, .int (nI 1), .int f_ct, .int (nI cp)])), (p, .inr (2, [.ref pk, .ref pv, .int (nI P.length), .int (nI w)])), (pk, .inl (X.2.1, 512, .inl pkf)), (pv, .inl (X.2.1, 512, .inl pvf)), (t, .inr (4, [.ref p, .int (nI bk), .int (nI b), .int (nI (bl + 1)), .ref fa, .ref oa, .int f_nn, .int f_dd, .int f_mo])), (fa, .inl (X.2.1, 6 * (bl + 1), .inl ff)), (oa, .inl (X.2.1, 512, .inl o)), (ch, .inr (0, [.ref ck, .ref cv, .int (nI C.length)])), (ck, .inl (X.2.1, 60, .inl ckf)), (cv, .inl (X.2.1, 60, .inl cvf))] = A_ at hD hS hQ
  have hC := hc.1
  have hpb : 2 ^ b ≤ 32768 := by omega
  refine lv_aload_n hx hb dX5_insert_0 rfl (lv_at hl 0 rfl) ?_
  refine va_get (D := X.1) (ci := 5) (v := .int (nI 1)) (C := RX5) (T := TX5) (N := 12) hx hb hts hin5 hown hK hP 0 rfl rfl 9 (by decide) lk65 (fun _ h9 => h9) rfl dX5_insert_1 ?_
  refine lv_if_ne (tgt := 10) hx hb dX5_insert_4 (by decide) (fun c_4 => ?_) (fun c_4 => ?_)
  · skip
    refine lv_aload_n hx hb dX5_insert_10 rfl (lv_at hl 0 rfl) ?_
    refine lv_iload_n hx hb dX5_insert_11 rfl (lv_at hl 1 rfl) ?_
    refine lv_iload_n hx hb dX5_insert_12 rfl (lv_at hl 2 rfl) ?_
    refine ckVRi (As := [.int x, .int y]) (rest := []) 0 [0] (c_X5_isOnPlane l X a d p t t2 ch rs sp (nI bl) (nI bk) (nI 1) f_ct (nI cp) x y) ⟨hx, hb, hml, hown, hts⟩ (cwV 2 hts gX5_insert_X5_isOnPlane rfl rfl rfl (by decide +kernel) ⟨Nat.le_of_ble_eq_true rfl, Nat.le_of_ble_eq_true rfl⟩) hK hN hP hD (by decide) rfl (ci := 5) rfl rfl rfl hl.1 rfl (Nat.le_of_ble_eq_true rfl) dX5_insert_13 ⟨Nat.zero_le _, Nat.zero_le _⟩ (fun r_1 hc_13 => ?_)
    rcases hc_13 with ⟨hc_13, rfl⟩ | ⟨hc_13, rfl⟩
    · skip
      obtain ⟨xa, ya, hxa, hya, rfl, rfl⟩ := onp_of hc_13 hsp
      refine lv_if_eq (tgt := 23) hx hb dX5_insert_16 (by decide) (fun c_16 => ?_) (fun c_16 => ?_)
      · exact absurd c_16 (by decide)
      · skip
        refine lv_iload_n hx hb dX5_insert_19 rfl (lv_at hl 3 rfl) ?_
        refine lv_if_ge (tgt := 25) hx hb dX5_insert_20 (by decide) (fun c_20 => ?_) (fun c_20 => ?_)
        · skip
          obtain ⟨vv, hvv, rfl⟩ := nI_of (ge_nlt c_20)
          refine lv_aload_n hx hb dX5_insert_25 rfl (lv_at hl 0 rfl) ?_
          refine va_get (D := X.1) (ci := 5) (v := .ref ch) (C := RX5) (T := TX5) (N := 12) hx hb hts hin5 hown hK hP 0 rfl rfl 7 (by decide) lk54 (fun _ h9 => h9) rfl dX5_insert_26 ?_
          refine ckVRi (As := []) (rest := []) 0 [7] (c_X0_isFull l X ch ck cv C.length hC) ⟨hx, hb, hml, hown, hts⟩ (cwV 0 hts gX5_insert_X0_isFull rfl rfl rfl (by decide +kernel) ⟨Nat.le_of_ble_eq_true rfl, Nat.le_of_ble_eq_true rfl⟩) hK hN hP hD (by decide) rfl (ci := 0) rfl rfl rfl hl.1 rfl (Nat.le_of_ble_eq_true rfl) dX5_insert_29 ⟨Nat.zero_le _, Nat.zero_le _⟩ (fun r_2 hc_29 => ?_)
          rcases hc_29 with ⟨hc_29, rfl⟩ | ⟨hc_29, rfl⟩
          · skip
            refine lv_if_eq (tgt := 37) hx hb dX5_insert_32 (by decide) (fun c_32 => ?_) (fun c_32 => ?_)
            · exact absurd c_32 (by decide)
            · skip
              refine lv_iconst (v := nI 3) hx hb dX5_insert_35 (by decide) ?_
              refine wM hQ ?_
              exact rtI (pkf, pvf, P, w, f_nn, f_dd, f_mo, ff, o, ckf, cvf, []) hx hb hr hlocks (by show va_P X.1 vwCl [(a, .inr (5, [.int (nI bl), .int (nI bk), .int (nI sp), .ref d, .ref p, .ref t, .ref t2, .ref ch, .ref rs, .int (nI 1), .int f_ct, .int (nI cp)])), (p, .inr (2, [.ref pk, .ref pv, .int (nI P.length), .int (nI w)])), (pk, .inl (X.2.1, 512, .inl pkf)), (pv, .inl (X.2.1, 512, .inl pvf)), (t, .inr (4, [.ref p, .int (nI bk), .int (nI b), .int (nI (bl + 1)), .ref fa, .ref oa, .int f_nn, .int f_dd, .int f_mo])), (fa, .inl (X.2.1, 6 * (bl + 1), .inl ff)), (oa, .inl (X.2.1, 512, .inl o)), (ch, .inr (0, [.ref ck, .ref cv, .int (nI ((C ++ []).length))])), (ck, .inl (X.2.1, 60, .inl ckf)), (cv, .inl (X.2.1, 60, .inl cvf))] _; rw [List.append_nil]; exact hP) hS (⟨(by show (nI 3, P, []) = _; unfold insF; rw [cif_pos ⟨hc_13, nI_pos hvv⟩, cif_pos hc_29]), h, ⟨Nat.le_refl _, Nat.le_add_right _ _⟩, htc, (by rw [List.append_nil]; exact hc)⟩) dX5_insert_36
          · skip
            refine lv_if_eq (tgt := 37) hx hb dX5_insert_32 (by decide) (fun c_32 => ?_) (fun c_32 => ?_)
            · skip
              refine lv_iload_n hx hb dX5_insert_37 rfl (lv_at hl 1 rfl) ?_
              refine lv_iload_n hx hb dX5_insert_38 rfl (lv_at hl 2 rfl) ?_
              refine ckSRi (As := [.int (nI xa), .int (nI ya)]) (rest := []) [] (c_X5_keyOf l X xa ya (by omega) (by omega)) ⟨hx, hb, hml, hown, hts⟩ (va_cwS 2 hts gX5_insert_X5_keyOf rfl rfl rfl (by decide +kernel) ⟨Nat.le_of_ble_eq_true rfl, Nat.le_of_ble_eq_true rfl⟩) hK hN hP hD (by decide) rfl rfl hl.1 rfl (Nat.le_of_ble_eq_true rfl) dX5_insert_39 ⟨Nat.zero_le _, Nat.zero_le _⟩ (fun r_3 hc_39 => ?_)
              subst hc_39
              refine lv_istore (lv' := [(4, .int (nI (xa * 32768 + ya))), (0, .ref a), (1, .int (nI xa)), (2, .int (nI ya)), (3, .int (nI vv))]) hx hb dX5_insert_42 hl (by decide) rfl (fun ls hl => ?_)
              refine lv_aload_n hx hb dX5_insert_44 rfl (lv_at hl 1 rfl) ?_
              refine va_get (D := X.1) (ci := 5) (v := .ref p) (C := RX5) (T := TX5) (N := 12) hx hb hts hin5 hown hK hP 0 rfl rfl 4 (by decide) lk35 (fun _ h9 => h9) rfl dX5_insert_45 ?_
              refine lv_iload hx hb dX5_insert_48 (lv_at hl 0 rfl) ?_
              refine ckVRi (As := [.int (nI (xa * 32768 + ya))]) (rest := []) 0 [1, 2, 3] (c_X2_valueOf l X p pk pv w (xa * 32768 + ya) pkf pvf P h (by omega)) ⟨hx, hb, hml, hown, hts⟩ (cwV 1 hts gX5_insert_X2_valueOf rfl rfl rfl (by decide +kernel) ⟨Nat.le_of_ble_eq_true rfl, Nat.le_of_ble_eq_true rfl⟩) hK hN hP hD (by decide) rfl (ci := 2) rfl rfl rfl hl.1 rfl (Nat.le_of_ble_eq_true rfl) dX5_insert_50 ⟨Nat.zero_le _, Nat.zero_le _⟩ (fun r_4 hc_50 => ?_)
              subst hc_50
              refine lv_iconst (v := (-1)) hx hb dX5_insert_53 (by decide) ?_
              refine lv_icmp_eq (tgt := 61) hx hb dX5_insert_54 (by decide) (fun c_54 => ?_) (fun c_54 => ?_)
              · skip
                have hnone := (vOf_m1 h).mp c_54
                have hin2 : insd b (pput P (xa * 32768 + ya) vv) := fun q hq => by
                  rcases pput_mem hq with z | z
                  · rw [z]
                    show (xa * 32768 + ya) / 32768 < 2 ^ b ∧ (xa * 32768 + ya) % 32768 < 2 ^ b
                    omega
                  · exact hin q z
                rw [← kOf_nI (a := xa) (b := ya) (by omega) (by omega)] at hnone
                have hnone : lkp P (xa * 32768 + ya) = none := by rw [kOf_nI (by omega) (by omega)] at hnone; exact hnone
                have hnone2 := hnone
                rw [← kOf_nI (a := xa) (b := ya) (by omega) (by omega)] at hnone2
                refine lv_iconst (v := nI 0) hx hb dX5_insert_61 (by decide) ?_
                refine lv_istore (lv' := [(5, .int (nI 0)), (4, .int (nI (xa * 32768 + ya))), (0, .ref a), (1, .int (nI xa)), (2, .int (nI ya)), (3, .int (nI vv))]) hx hb dX5_insert_62 hl (by decide) rfl (fun ls hl => ?_)
                refine lv_iload hx hb dX5_insert_64 (lv_at hl 0 rfl) ?_
                refine lv_if_eq (tgt := 82) hx hb dX5_insert_66 (by decide) (fun c_66 => ?_) (fun c_66 => ?_)
                · skip
                  refine lv_aload_n hx hb dX5_insert_82 rfl (lv_at hl 2 rfl) ?_
                  refine lv_iload hx hb dX5_insert_83 (lv_at hl 1 rfl) ?_
                  refine lv_iload_n hx hb dX5_insert_85 rfl (lv_at hl 5 rfl) ?_
                  refine ckVi (As := [.int (nI (xa * 32768 + ya)), .int (nI vv)]) (rest := []) 0 [0, 1, 2, 3, 4, 5, 6] (c_X5_comesIn l X a d p t t2 ch rs sp bl bk cp f_ct pk pv w fa oa b (xa * 32768 + ya) vv (nI 1) f_nn f_dd f_mo pkf pvf ff o P h hlt hnone (by omega) hvv hbl hb1 hbk hbk2 htc hin2 hw) ⟨hx, hb, hml, hown, hts⟩ (cwV 2 hts gX5_insert_X5_comesIn rfl rfl rfl (by decide +kernel) ⟨(by show b + 5 + 1 + 1 ≤ b + 6 + 1; omega), (by show 8 + (3 + 11) + 100 * (b + 5 + 1) ≤ 100 * (b + 6 + 1); omega)⟩) hK hN hP hD hS (by decide) rfl (ci := 5) rfl rfl (fun _ => rfl) rfl hl.1 rfl (Nat.le_of_ble_eq_true rfl) dX5_insert_86 ⟨Nat.zero_le _, Nat.zero_le _⟩ (fun r_6 u_5 H locs hc_86 hP hD hS => ?_)
                  obtain ⟨kf2, vf2, ff2, o2, P2, w2⟩ := u_5
                  have hP : va_P X.1 vwCl [(a, .inr (5, [.int (nI bl), .int (nI bk), .int (nI sp), .ref d, .ref p, .ref t, .ref t2, .ref ch, .ref rs, .int (nI 1), .int f_ct, .int (nI cp)])), (p, .inr (2, [.ref pk, .ref pv, .int (nI P2.length), .int (nI w2)])), (pk, .inl (X.2.1, 512, .inl kf2)), (pv, .inl (X.2.1, 512, .inl vf2)), (t, .inr (4, [.ref p, .int (nI bk), .int (nI b), .int (nI (bl + 1)), .ref fa, .ref oa, .int (nI ((gF bk b 0 0 (bl + 1) (pput P (xa * 32768 + ya) vv) []).length)), .int (nI (dpt b (gF bk b 0 0 (bl + 1) (pput P (xa * 32768 + ya) vv) []))), .int (nI (w + 1))])), (fa, .inl (X.2.1, 6 * (bl + 1), .inl ff2)), (oa, .inl (X.2.1, 512, .inl o2)), (ch, .inr (0, [.ref ck, .ref cv, .int (nI C.length)])), (ck, .inl (X.2.1, 60, .inl ckf)), (cv, .inl (X.2.1, 60, .inl cvf))] H := hP
                  have hD : va_D A_ [(a, .inr (5, [.int (nI bl), .int (nI bk), .int (nI sp), .ref d, .ref p, .ref t, .ref t2, .ref ch, .ref rs, .int (nI 1), .int f_ct, .int (nI cp)])), (p, .inr (2, [.ref pk, .ref pv, .int (nI P2.length), .int (nI w2)])), (pk, .inl (X.2.1, 512, .inl kf2)), (pv, .inl (X.2.1, 512, .inl vf2)), (t, .inr (4, [.ref p, .int (nI bk), .int (nI b), .int (nI (bl + 1)), .ref fa, .ref oa, .int (nI ((gF bk b 0 0 (bl + 1) (pput P (xa * 32768 + ya) vv) []).length)), .int (nI (dpt b (gF bk b 0 0 (bl + 1) (pput P (xa * 32768 + ya) vv) []))), .int (nI (w + 1))])), (fa, .inl (X.2.1, 6 * (bl + 1), .inl ff2)), (oa, .inl (X.2.1, 512, .inl o2)), (ch, .inr (0, [.ref ck, .ref cv, .int (nI C.length)])), (ck, .inl (X.2.1, 60, .inl ckf)), (cv, .inl (X.2.1, 60, .inl cvf))] := hD
                  try dsimp only at hc_86
                  rcases hc_86 with ⟨rfl, hq1, hq2, hq3, hq4, hq5⟩ | ⟨rfl, hq1, hq2, hq3, hq4, hq5⟩
                  · skip
                    obtain rfl := hq3.symm
                    obtain rfl := hq4.symm
                    refine lv_if_ne (tgt := 94) hx hb dX5_insert_89 (by decide) (fun c_89 => ?_) (fun c_89 => ?_)
                    · skip
                      refine lv_aload_n hx hb dX5_insert_94 rfl (lv_at hl 2 rfl) ?_
                      refine va_get (D := X.1) (ci := 5) (v := .ref ch) (C := RX5) (T := TX5) (N := 12) hx hb hts hin5 hown hK hP 0 rfl rfl 7 (by decide) lk54 (fun _ h9 => h9) rfl dX5_insert_95 ?_
                      refine lv_iload hx hb dX5_insert_98 (lv_at hl 1 rfl) ?_
                      refine lv_iload_n hx hb dX5_insert_100 rfl (lv_at hl 5 rfl) ?_
                      refine ckVv (As := [.int (nI (xa * 32768 + ya)), .int (nI vv)]) (rest := []) 0 [7, 8, 9] (c_X0_add l X ch ck cv ckf cvf (some (xa * 32768 + ya, some vv) : Op) C hc (by omega) (⟨by omega, hvv⟩)) ⟨hx, hb, hml, hown, hts⟩ (cwV 2 hts gX5_insert_X0_add rfl rfl rfl (by decide +kernel) ⟨Nat.le_of_ble_eq_true rfl, Nat.le_of_ble_eq_true rfl⟩) hK hN hP hD hS (by decide) rfl (ci := 0) rfl rfl (fun _ => rfl) rfl hl.1 rfl (Nat.le_of_ble_eq_true rfl) dX5_insert_101 ⟨Nat.zero_le _, Nat.zero_le _⟩ (fun u_7 H locs hca hP hD hS => ?_)
                      obtain ⟨ck2, cv2⟩ := u_7
                      have hP : va_P X.1 vwCl [(a, .inr (5, [.int (nI bl), .int (nI bk), .int (nI sp), .ref d, .ref p, .ref t, .ref t2, .ref ch, .ref rs, .int (nI 1), .int f_ct, .int (nI cp)])), (p, .inr (2, [.ref pk, .ref pv, .int (nI ((pput P (xa * 32768 + ya) vv).length)), .int (nI (w + 1))])), (pk, .inl (X.2.1, 512, .inl kf2)), (pv, .inl (X.2.1, 512, .inl vf2)), (t, .inr (4, [.ref p, .int (nI bk), .int (nI b), .int (nI (bl + 1)), .ref fa, .ref oa, .int (nI ((gF bk b 0 0 (bl + 1) (pput P (xa * 32768 + ya) vv) []).length)), .int (nI (dpt b (gF bk b 0 0 (bl + 1) (pput P (xa * 32768 + ya) vv) []))), .int (nI (w + 1))])), (fa, .inl (X.2.1, 6 * (bl + 1), .inl ff2)), (oa, .inl (X.2.1, 512, .inl o2)), (ch, .inr (0, [.ref ck, .ref cv, .int (nI (C.length + 1))])), (ck, .inl (X.2.1, 60, .inl ck2)), (cv, .inl (X.2.1, 60, .inl cv2))] H := hP
                      have hD : va_D A_ [(a, .inr (5, [.int (nI bl), .int (nI bk), .int (nI sp), .ref d, .ref p, .ref t, .ref t2, .ref ch, .ref rs, .int (nI 1), .int f_ct, .int (nI cp)])), (p, .inr (2, [.ref pk, .ref pv, .int (nI ((pput P (xa * 32768 + ya) vv).length)), .int (nI (w + 1))])), (pk, .inl (X.2.1, 512, .inl kf2)), (pv, .inl (X.2.1, 512, .inl vf2)), (t, .inr (4, [.ref p, .int (nI bk), .int (nI b), .int (nI (bl + 1)), .ref fa, .ref oa, .int (nI ((gF bk b 0 0 (bl + 1) (pput P (xa * 32768 + ya) vv) []).length)), .int (nI (dpt b (gF bk b 0 0 (bl + 1) (pput P (xa * 32768 + ya) vv) []))), .int (nI (w + 1))])), (fa, .inl (X.2.1, 6 * (bl + 1), .inl ff2)), (oa, .inl (X.2.1, 512, .inl o2)), (ch, .inr (0, [.ref ck, .ref cv, .int (nI (C.length + 1))])), (ck, .inl (X.2.1, 60, .inl ck2)), (cv, .inl (X.2.1, 60, .inl cv2))] := hD
                      try dsimp only at hca
                      refine lv_iload hx hb dX5_insert_104 (lv_at hl 0 rfl) ?_
                      refine lv_if_eq (tgt := 113) hx hb dX5_insert_106 (by decide) (fun c_106 => ?_) (fun c_106 => ?_)
                      · skip
                        refine lv_iconst (v := nI 0) hx hb dX5_insert_113 (by decide) ?_
                        rw [show C.length + 1 = (C ++ [some (xa * 32768 + ya, some vv)]).length from by simp] at hP
                        refine wM hQ ?_
                        exact rtI (kf2, vf2, pput P (xa * 32768 + ya) vv, w + 1, nI ((gF bk b 0 0 (bl + 1) (pput P (xa * 32768 + ya) vv) []).length), nI (dpt b (gF bk b 0 0 (bl + 1) (pput P (xa * 32768 + ya) vv) [])), nI (w + 1), ff2, o2, ck2, cv2, [some (xa * 32768 + ya, some vv)]) hx hb hr hlocks hP hS (⟨(by show (nI 0, pput P (xa * 32768 + ya) vv, [some (xa * 32768 + ya, some vv)]) = _; unfold insF; rw [cif_pos ⟨hc_13, nI_pos hvv⟩, cif_neg hc_29, cif_pos hnone2, kOf_nI (by omega) (by omega), nI_clamp hvv, cif_neg hq1]), hq2, ⟨Nat.le_add_right _ _, Nat.add_le_add_left (by decide) _⟩, tc_same hq5, hca⟩) dX5_insert_114
                      · exact absurd c_106 (by decide)
                    · exact absurd c_89 (by decide)
                  · skip
                    obtain rfl := hq3.symm
                    obtain rfl := hq4.symm
                    refine lv_if_ne (tgt := 94) hx hb dX5_insert_89 (by decide) (fun c_89 => ?_) (fun c_89 => ?_)
                    · exact absurd c_89 (by decide)
                    · skip
                      refine lv_iconst (v := nI 4) hx hb dX5_insert_92 (by decide) ?_
                      refine wM hQ ?_
                      exact rtI (kf2, vf2, P, w + 2, nI ((gF bk b 0 0 (bl + 1) (pput P (xa * 32768 + ya) vv) []).length), nI (dpt b (gF bk b 0 0 (bl + 1) (pput P (xa * 32768 + ya) vv) [])), nI (w + 1), ff2, o2, ckf, cvf, []) hx hb hr hlocks (by show va_P X.1 vwCl [(a, .inr (5, [.int (nI bl), .int (nI bk), .int (nI sp), .ref d, .ref p, .ref t, .ref t2, .ref ch, .ref rs, .int (nI 1), .int f_ct, .int (nI cp)])), (p, .inr (2, [.ref pk, .ref pv, .int (nI P.length), .int (nI (w + 2))])), (pk, .inl (X.2.1, 512, .inl kf2)), (pv, .inl (X.2.1, 512, .inl vf2)), (t, .inr (4, [.ref p, .int (nI bk), .int (nI b), .int (nI (bl + 1)), .ref fa, .ref oa, .int (nI ((gF bk b 0 0 (bl + 1) (pput P (xa * 32768 + ya) vv) []).length)), .int (nI (dpt b (gF bk b 0 0 (bl + 1) (pput P (xa * 32768 + ya) vv) []))), .int (nI (w + 1))])), (fa, .inl (X.2.1, 6 * (bl + 1), .inl ff2)), (oa, .inl (X.2.1, 512, .inl o2)), (ch, .inr (0, [.ref ck, .ref cv, .int (nI ((C ++ []).length))])), (ck, .inl (X.2.1, 60, .inl ckf)), (cv, .inl (X.2.1, 60, .inl cvf))] _; rw [List.append_nil]; exact hP) hS (⟨(by show (nI 4, P, []) = _; unfold insF; rw [cif_pos ⟨hc_13, nI_pos hvv⟩, cif_neg hc_29, cif_pos hnone2, kOf_nI (by omega) (by omega), nI_clamp hvv, cif_pos hq1]), hq2, ⟨Nat.le_add_right _ _, Nat.le_refl _⟩, tc_next (tc_same (L := pput P (xa * 32768 + ya) vv) (w := w + 1) hq5) (Nat.lt_succ_self (w + 1)) (show w + 2 < 2 ^ 31 by omega), (by rw [List.append_nil]; exact hc)⟩) dX5_insert_93
                · exact absurd c_66 (by decide)
              · skip
                have hsome : ¬ lkp P (kOf (nI xa) (nI ya)) = none := fun z => c_54 ((vOf_m1 h).mpr (by rw [kOf_nI (by omega) (by omega)] at z; exact z))
                refine lv_iconst (v := nI 1) hx hb dX5_insert_57 (by decide) ?_
                refine lv_goto (tgt := 62) hx hb dX5_insert_58 (by decide) ?_
                refine lv_istore (lv' := [(5, .int (nI 1)), (4, .int (nI (xa * 32768 + ya))), (0, .ref a), (1, .int (nI xa)), (2, .int (nI ya)), (3, .int (nI vv))]) hx hb dX5_insert_62 hl (by decide) rfl (fun ls hl => ?_)
                refine lv_iload hx hb dX5_insert_64 (lv_at hl 0 rfl) ?_
                refine lv_if_eq (tgt := 82) hx hb dX5_insert_66 (by decide) (fun c_66 => ?_) (fun c_66 => ?_)
                · exact absurd c_66 (by decide)
                · skip
                  refine lv_aload_n hx hb dX5_insert_69 rfl (lv_at hl 2 rfl) ?_
                  refine va_get (D := X.1) (ci := 5) (v := .ref p) (C := RX5) (T := TX5) (N := 12) hx hb hts hin5 hown hK hP 0 rfl rfl 4 (by decide) lk35 (fun _ h9 => h9) rfl dX5_insert_70 ?_
                  refine lv_iload hx hb dX5_insert_73 (lv_at hl 1 rfl) ?_
                  refine lv_iload_n hx hb dX5_insert_75 rfl (lv_at hl 5 rfl) ?_
                  refine ckVv (As := [.int (nI (xa * 32768 + ya)), .int (nI vv)]) (rest := []) 0 [1, 2, 3] (c_X2_put l X p pk pv w (xa * 32768 + ya) vv pkf pvf P h (by omega) hvv (by have := pput_len (L := P) (key := xa * 32768 + ya) (v := vv); omega)) ⟨hx, hb, hml, hown, hts⟩ (cwV 2 hts gX5_insert_X2_put rfl rfl rfl (by decide +kernel) ⟨Nat.le_of_ble_eq_true rfl, Nat.le_of_ble_eq_true rfl⟩) hK hN hP hD hS (by decide) rfl (ci := 2) rfl rfl (fun _ => rfl) rfl hl.1 rfl (Nat.le_of_ble_eq_true rfl) dX5_insert_76 ⟨Nat.zero_le _, Nat.zero_le _⟩ (fun u_9 H locs hpu hP hD hS => ?_)
                  obtain ⟨pkf2, pvf2⟩ := u_9
                  have hP : va_P X.1 vwCl [(a, .inr (5, [.int (nI bl), .int (nI bk), .int (nI sp), .ref d, .ref p, .ref t, .ref t2, .ref ch, .ref rs, .int (nI 1), .int f_ct, .int (nI cp)])), (p, .inr (2, [.ref pk, .ref pv, .int (nI ((pput P (xa * 32768 + ya) vv).length)), .int (nI (w + 1))])), (pk, .inl (X.2.1, 512, .inl pkf2)), (pv, .inl (X.2.1, 512, .inl pvf2)), (t, .inr (4, [.ref p, .int (nI bk), .int (nI b), .int (nI (bl + 1)), .ref fa, .ref oa, .int f_nn, .int f_dd, .int f_mo])), (fa, .inl (X.2.1, 6 * (bl + 1), .inl ff)), (oa, .inl (X.2.1, 512, .inl o)), (ch, .inr (0, [.ref ck, .ref cv, .int (nI C.length)])), (ck, .inl (X.2.1, 60, .inl ckf)), (cv, .inl (X.2.1, 60, .inl cvf))] H := hP
                  have hD : va_D A_ [(a, .inr (5, [.int (nI bl), .int (nI bk), .int (nI sp), .ref d, .ref p, .ref t, .ref t2, .ref ch, .ref rs, .int (nI 1), .int f_ct, .int (nI cp)])), (p, .inr (2, [.ref pk, .ref pv, .int (nI ((pput P (xa * 32768 + ya) vv).length)), .int (nI (w + 1))])), (pk, .inl (X.2.1, 512, .inl pkf2)), (pv, .inl (X.2.1, 512, .inl pvf2)), (t, .inr (4, [.ref p, .int (nI bk), .int (nI b), .int (nI (bl + 1)), .ref fa, .ref oa, .int f_nn, .int f_dd, .int f_mo])), (fa, .inl (X.2.1, 6 * (bl + 1), .inl ff)), (oa, .inl (X.2.1, 512, .inl o)), (ch, .inr (0, [.ref ck, .ref cv, .int (nI C.length)])), (ck, .inl (X.2.1, 60, .inl ckf)), (cv, .inl (X.2.1, 60, .inl cvf))] := hD
                  try dsimp only at hpu
                  refine lv_goto (tgt := 94) hx hb dX5_insert_79 (by decide) ?_
                  refine lv_aload_n hx hb dX5_insert_94 rfl (lv_at hl 2 rfl) ?_
                  refine va_get (D := X.1) (ci := 5) (v := .ref ch) (C := RX5) (T := TX5) (N := 12) hx hb hts hin5 hown hK hP 0 rfl rfl 7 (by decide) lk54 (fun _ h9 => h9) rfl dX5_insert_95 ?_
                  refine lv_iload hx hb dX5_insert_98 (lv_at hl 1 rfl) ?_
                  refine lv_iload_n hx hb dX5_insert_100 rfl (lv_at hl 5 rfl) ?_
                  refine ckVv (As := [.int (nI (xa * 32768 + ya)), .int (nI vv)]) (rest := []) 0 [7, 8, 9] (c_X0_add l X ch ck cv ckf cvf (some (xa * 32768 + ya, some vv) : Op) C hc (by omega) (⟨by omega, hvv⟩)) ⟨hx, hb, hml, hown, hts⟩ (cwV 2 hts gX5_insert_X0_add rfl rfl rfl (by decide +kernel) ⟨Nat.le_of_ble_eq_true rfl, Nat.le_of_ble_eq_true rfl⟩) hK hN hP hD hS (by decide) rfl (ci := 0) rfl rfl (fun _ => rfl) rfl hl.1 rfl (Nat.le_of_ble_eq_true rfl) dX5_insert_101 ⟨Nat.zero_le _, Nat.zero_le _⟩ (fun u_11 H locs hca hP hD hS => ?_)
                  obtain ⟨ck2, cv2⟩ := u_11
                  have hP : va_P X.1 vwCl [(a, .inr (5, [.int (nI bl), .int (nI bk), .int (nI sp), .ref d, .ref p, .ref t, .ref t2, .ref ch, .ref rs, .int (nI 1), .int f_ct, .int (nI cp)])), (p, .inr (2, [.ref pk, .ref pv, .int (nI ((pput P (xa * 32768 + ya) vv).length)), .int (nI (w + 1))])), (pk, .inl (X.2.1, 512, .inl pkf2)), (pv, .inl (X.2.1, 512, .inl pvf2)), (t, .inr (4, [.ref p, .int (nI bk), .int (nI b), .int (nI (bl + 1)), .ref fa, .ref oa, .int f_nn, .int f_dd, .int f_mo])), (fa, .inl (X.2.1, 6 * (bl + 1), .inl ff)), (oa, .inl (X.2.1, 512, .inl o)), (ch, .inr (0, [.ref ck, .ref cv, .int (nI (C.length + 1))])), (ck, .inl (X.2.1, 60, .inl ck2)), (cv, .inl (X.2.1, 60, .inl cv2))] H := hP
                  have hD : va_D A_ [(a, .inr (5, [.int (nI bl), .int (nI bk), .int (nI sp), .ref d, .ref p, .ref t, .ref t2, .ref ch, .ref rs, .int (nI 1), .int f_ct, .int (nI cp)])), (p, .inr (2, [.ref pk, .ref pv, .int (nI ((pput P (xa * 32768 + ya) vv).length)), .int (nI (w + 1))])), (pk, .inl (X.2.1, 512, .inl pkf2)), (pv, .inl (X.2.1, 512, .inl pvf2)), (t, .inr (4, [.ref p, .int (nI bk), .int (nI b), .int (nI (bl + 1)), .ref fa, .ref oa, .int f_nn, .int f_dd, .int f_mo])), (fa, .inl (X.2.1, 6 * (bl + 1), .inl ff)), (oa, .inl (X.2.1, 512, .inl o)), (ch, .inr (0, [.ref ck, .ref cv, .int (nI (C.length + 1))])), (ck, .inl (X.2.1, 60, .inl ck2)), (cv, .inl (X.2.1, 60, .inl cv2))] := hD
                  try dsimp only at hca
                  refine lv_iload hx hb dX5_insert_104 (lv_at hl 0 rfl) ?_
                  refine lv_if_eq (tgt := 113) hx hb dX5_insert_106 (by decide) (fun c_106 => ?_) (fun c_106 => ?_)
                  · exact absurd c_106 (by decide)
                  · skip
                    refine lv_iconst (v := nI 1) hx hb dX5_insert_109 (by decide) ?_
                    refine lv_goto (tgt := 114) hx hb dX5_insert_110 (by decide) ?_
                    rw [show C.length + 1 = (C ++ [some (xa * 32768 + ya, some vv)]).length from by simp] at hP
                    refine wM hQ ?_
                    exact rtI (pkf2, pvf2, pput P (xa * 32768 + ya) vv, w + 1, f_nn, f_dd, f_mo, ff, o, ck2, cv2, [some (xa * 32768 + ya, some vv)]) hx hb hr hlocks hP hS (⟨(by show (nI 1, pput P (xa * 32768 + ya) vv, [some (xa * 32768 + ya, some vv)]) = _; unfold insF; rw [cif_pos ⟨hc_13, nI_pos hvv⟩, cif_neg hc_29, cif_neg hsome, kOf_nI (by omega) (by omega), nI_clamp hvv]), hpu, ⟨Nat.le_add_right _ _, Nat.add_le_add_left (by decide) _⟩, tc_next htc (Nat.lt_succ_self w) (show w + 1 < 2 ^ 31 by omega), hca⟩) dX5_insert_114
            · exact absurd c_32 (by decide)
        · skip
          refine lv_iconst (v := nI 2) hx hb dX5_insert_23 (by decide) ?_
          refine wM hQ ?_
          exact rtI (pkf, pvf, P, w, f_nn, f_dd, f_mo, ff, o, ckf, cvf, []) hx hb hr hlocks (by show va_P X.1 vwCl [(a, .inr (5, [.int (nI bl), .int (nI bk), .int (nI sp), .ref d, .ref p, .ref t, .ref t2, .ref ch, .ref rs, .int (nI 1), .int f_ct, .int (nI cp)])), (p, .inr (2, [.ref pk, .ref pv, .int (nI P.length), .int (nI w)])), (pk, .inl (X.2.1, 512, .inl pkf)), (pv, .inl (X.2.1, 512, .inl pvf)), (t, .inr (4, [.ref p, .int (nI bk), .int (nI b), .int (nI (bl + 1)), .ref fa, .ref oa, .int f_nn, .int f_dd, .int f_mo])), (fa, .inl (X.2.1, 6 * (bl + 1), .inl ff)), (oa, .inl (X.2.1, 512, .inl o)), (ch, .inr (0, [.ref ck, .ref cv, .int (nI ((C ++ []).length))])), (ck, .inl (X.2.1, 60, .inl ckf)), (cv, .inl (X.2.1, 60, .inl cvf))] _; rw [List.append_nil]; exact hP) hS (⟨(by show (nI 2, P, []) = _; unfold insF; rw [cif_neg (fun z => c_20 (Int32.not_lt.mp z.2))]), h, ⟨Nat.le_refl _, Nat.le_add_right _ _⟩, htc, (by rw [List.append_nil]; exact hc)⟩) dX5_insert_24
    · skip
      refine lv_if_eq (tgt := 23) hx hb dX5_insert_16 (by decide) (fun c_16 => ?_) (fun c_16 => ?_)
      · skip
        refine lv_iconst (v := nI 2) hx hb dX5_insert_23 (by decide) ?_
        refine wM hQ ?_
        exact rtI (pkf, pvf, P, w, f_nn, f_dd, f_mo, ff, o, ckf, cvf, []) hx hb hr hlocks (by show va_P X.1 vwCl [(a, .inr (5, [.int (nI bl), .int (nI bk), .int (nI sp), .ref d, .ref p, .ref t, .ref t2, .ref ch, .ref rs, .int (nI 1), .int f_ct, .int (nI cp)])), (p, .inr (2, [.ref pk, .ref pv, .int (nI P.length), .int (nI w)])), (pk, .inl (X.2.1, 512, .inl pkf)), (pv, .inl (X.2.1, 512, .inl pvf)), (t, .inr (4, [.ref p, .int (nI bk), .int (nI b), .int (nI (bl + 1)), .ref fa, .ref oa, .int f_nn, .int f_dd, .int f_mo])), (fa, .inl (X.2.1, 6 * (bl + 1), .inl ff)), (oa, .inl (X.2.1, 512, .inl o)), (ch, .inr (0, [.ref ck, .ref cv, .int (nI ((C ++ []).length))])), (ck, .inl (X.2.1, 60, .inl ckf)), (cv, .inl (X.2.1, 60, .inl cvf))] _; rw [List.append_nil]; exact hP) hS (⟨(by show (nI 2, P, []) = _; unfold insF; rw [cif_neg (fun z => hc_13 z.1)]), h, ⟨Nat.le_refl _, Nat.le_add_right _ _⟩, htc, (by rw [List.append_nil]; exact hc)⟩) dX5_insert_24
      · exact absurd c_16 (by decide)
  · exact absurd c_4 (by decide)
