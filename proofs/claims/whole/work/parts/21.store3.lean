/-! PointStore: the rest: contracts, laid by program (wip/gen/spec_store3.py) -/
set_option maxHeartbeats 4000000 in
set_option maxRecDepth 100000 in
theorem c_X5_losePower (l : Launch) (X : kX) (a d p t t2 ch rs sp bl bk cp : Nat) (f_ct : Int32) (pk pv n w ck cv nc rk_ rv rd nr : Nat) (f_pw : Int32) : CWv l X yX5_losePower wsX5_losePower 1 [.ref a] [(a, .inr (5, [.int (nI bl), .int (nI bk), .int (nI sp), .ref d, .ref p, .ref t, .ref t2, .ref ch, .ref rs, .int f_pw, .int f_ct, .int (nI cp)])), (p, .inr (2, [.ref pk, .ref pv, .int (nI n), .int (nI w)])), (ch, .inr (0, [.ref ck, .ref cv, .int (nI nc)])), (rs, .inr (3, [.ref rk_, .ref rv, .ref rd, .int (nI nr)]))] (S := Unit) (fun _ => True) (fun _ => [(a, .inr (5, [.int (nI bl), .int (nI bk), .int (nI sp), .ref d, .ref p, .ref t, .ref t2, .ref ch, .ref rs, .int (nI 0), .int (-1), .int (nI cp)])), (p, .inr (2, [.ref pk, .ref pv, .int (nI 0), .int (nI (w + 1))])), (ch, .inr (0, [.ref ck, .ref cv, .int (nI 0)])), (rs, .inr (3, [.ref rk_, .ref rv, .ref rd, .int (nI 0)]))]) := by
  refine Met.ofW (cc := cX5_losePower) (maxL := 1) (ret := none) (by decide) rfl ?_
  intro pz ez sz mz args below meth cz s₁ Bz hml hv
  obtain ⟨rfl, hP, hK, hD0, hN⟩ := hv
  have hx := Bz.exec
  have hb := Bz.bytes
  have hr := Bz.returns
  have hts := atoms_spec (ws := wsX5_losePower) Bz.pre
  have hown : sz.vm.findClass RX5 = some mz.cls := findClass_of_methodNamed Bz.named
  have hlocks := Bz.notSynchronized
  have hD := inW.self hD0
  have hS : va_S (inW [(a, .inr (5, [.int (nI bl), .int (nI bk), .int (nI sp), .ref d, .ref p, .ref t, .ref t2, .ref ch, .ref rs, .int f_pw, .int f_ct, .int (nI cp)])), (p, .inr (2, [.ref pk, .ref pv, .int (nI n), .int (nI w)])), (ch, .inr (0, [.ref ck, .ref cv, .int (nI nc)])), (rs, .inr (3, [.ref rk_, .ref rv, .ref rd, .int (nI nr)]))]) sz.heap sz.heap [] := va_S.rf
  have hl := lv_entry ([.ref a]) (n := 1) (Nat.le_of_ble_eq_true rfl)
  rw [lg_entry_eq]
  generalize (lg_sl ([.ref a]) ++ List.replicate (1 - (lg_sl ([.ref a])).length) Slot.unset).toArray = ls at hl ⊢
  have hl : lv_has ls 1 [(0, .ref a)] := hl
  have lk35 := hts (.fieldLink RX5 35 "PointStore" "pending" "LPointStore$Points;") (by decide +kernel)
  have lk54 := hts (.fieldLink RX5 54 "PointStore" "changes" "LPointStore$Changes;") (by decide +kernel)
  have lk61 := hts (.fieldLink RX5 61 "PointStore" "results" "LPointStore$Results;") (by decide +kernel)
  have lk65 := hts (.fieldLink RX5 65 "PointStore" "powered" "Z") (by decide +kernel)
  have lk69 := hts (.fieldLink RX5 69 "PointStore" "cut" "I") (by decide +kernel)
  have hin5 : ∀ w ∈ u_ws RX5 TX5 12, w ∈ wsX5_losePower := by decide +kernel
  refine wQ (fun Q hQ => ?_)
  generalize hAe : inW [(a, .inr (5, [.int (nI bl), .int (nI bk), .int (nI sp), .ref d, .ref p, .ref t, .ref t2, .ref ch, .ref rs, .int f_pw, .int f_ct, .int (nI cp)])), (p, .inr (2, [.ref pk, .ref pv, .int (nI n), .int (nI w)])), (ch, .inr (0, [.ref ck, .ref cv, .int (nI nc)])), (rs, .inr (3, [.ref rk_, .ref rv, .ref rd, .int (nI nr)]))] = A_ at hD hS hQ
  refine lv_aload_n hx hb dX5_losePower_0 rfl (lv_at hl 0 rfl) ?_
  refine lv_iconst (v := nI 0) hx hb dX5_losePower_1 (by decide) ?_
  refine va_put (D := X.1) (ci := 5) (v := .int (nI 0)) (ty := .boolean) (C := RX5) (T := TX5) (N := 12) hx hb hts hin5 tyX5 tyX5_ok nmX5 hown hK hP hD hS 0 rfl rfl 9 (by decide) lk65 (fun _ h9 => h9) rfl (by decide +kernel) (by decide) rfl (Nat.le_of_ble_eq_true rfl) dX5_losePower_2 (fun H locs hP hD hS => ?_)
  have hP : va_P X.1 vwCl [(a, .inr (5, [.int (nI bl), .int (nI bk), .int (nI sp), .ref d, .ref p, .ref t, .ref t2, .ref ch, .ref rs, .int (nI 0), .int f_ct, .int (nI cp)])), (p, .inr (2, [.ref pk, .ref pv, .int (nI n), .int (nI w)])), (ch, .inr (0, [.ref ck, .ref cv, .int (nI nc)])), (rs, .inr (3, [.ref rk_, .ref rv, .ref rd, .int (nI nr)]))] H := hP
  have hD : va_D A_ [(a, .inr (5, [.int (nI bl), .int (nI bk), .int (nI sp), .ref d, .ref p, .ref t, .ref t2, .ref ch, .ref rs, .int (nI 0), .int f_ct, .int (nI cp)])), (p, .inr (2, [.ref pk, .ref pv, .int (nI n), .int (nI w)])), (ch, .inr (0, [.ref ck, .ref cv, .int (nI nc)])), (rs, .inr (3, [.ref rk_, .ref rv, .ref rd, .int (nI nr)]))] := hD
  refine lv_aload_n hx hb dX5_losePower_5 rfl (lv_at hl 0 rfl) ?_
  refine lv_iconst (v := (-1)) hx hb dX5_losePower_6 (by decide) ?_
  refine va_put (D := X.1) (ci := 5) (v := .int (-1)) (ty := .int) (C := RX5) (T := TX5) (N := 12) hx hb hts hin5 tyX5 tyX5_ok nmX5 hown hK hP hD hS 0 rfl rfl 10 (by decide) lk69 (fun _ h9 => h9) rfl (by decide +kernel) rfl rfl (Nat.le_of_ble_eq_true rfl) dX5_losePower_7 (fun H locs hP hD hS => ?_)
  have hP : va_P X.1 vwCl [(a, .inr (5, [.int (nI bl), .int (nI bk), .int (nI sp), .ref d, .ref p, .ref t, .ref t2, .ref ch, .ref rs, .int (nI 0), .int (-1), .int (nI cp)])), (p, .inr (2, [.ref pk, .ref pv, .int (nI n), .int (nI w)])), (ch, .inr (0, [.ref ck, .ref cv, .int (nI nc)])), (rs, .inr (3, [.ref rk_, .ref rv, .ref rd, .int (nI nr)]))] H := hP
  have hD : va_D A_ [(a, .inr (5, [.int (nI bl), .int (nI bk), .int (nI sp), .ref d, .ref p, .ref t, .ref t2, .ref ch, .ref rs, .int (nI 0), .int (-1), .int (nI cp)])), (p, .inr (2, [.ref pk, .ref pv, .int (nI n), .int (nI w)])), (ch, .inr (0, [.ref ck, .ref cv, .int (nI nc)])), (rs, .inr (3, [.ref rk_, .ref rv, .ref rd, .int (nI nr)]))] := hD
  refine lv_aload_n hx hb dX5_losePower_10 rfl (lv_at hl 0 rfl) ?_
  refine va_get (D := X.1) (ci := 5) (v := .ref p) (C := RX5) (T := TX5) (N := 12) hx hb hts hin5 hown hK hP 0 rfl rfl 4 (by decide) lk35 (fun _ h9 => h9) rfl dX5_losePower_11 ?_
  refine ckVv (As := []) (rest := []) 0 [1] (c_X2_clear l X p pk pv n w) ⟨hx, hb, hml, hown, hts⟩ (cwV 0 hts gX5_losePower_X2_clear rfl rfl rfl (by decide +kernel) ⟨Nat.le_of_ble_eq_true rfl, Nat.le_of_ble_eq_true rfl⟩) hK hN hP hD hS (by decide) rfl (ci := 2) rfl rfl (fun _ => rfl) rfl hl.1 rfl (Nat.le_of_ble_eq_true rfl) dX5_losePower_14 ⟨Nat.zero_le _, Nat.zero_le _⟩ (fun u_1 H locs hc_14 hP hD hS => ?_)
  have hP : va_P X.1 vwCl [(a, .inr (5, [.int (nI bl), .int (nI bk), .int (nI sp), .ref d, .ref p, .ref t, .ref t2, .ref ch, .ref rs, .int (nI 0), .int (-1), .int (nI cp)])), (p, .inr (2, [.ref pk, .ref pv, .int (nI 0), .int (nI (w + 1))])), (ch, .inr (0, [.ref ck, .ref cv, .int (nI nc)])), (rs, .inr (3, [.ref rk_, .ref rv, .ref rd, .int (nI nr)]))] H := hP
  have hD : va_D A_ [(a, .inr (5, [.int (nI bl), .int (nI bk), .int (nI sp), .ref d, .ref p, .ref t, .ref t2, .ref ch, .ref rs, .int (nI 0), .int (-1), .int (nI cp)])), (p, .inr (2, [.ref pk, .ref pv, .int (nI 0), .int (nI (w + 1))])), (ch, .inr (0, [.ref ck, .ref cv, .int (nI nc)])), (rs, .inr (3, [.ref rk_, .ref rv, .ref rd, .int (nI nr)]))] := hD
  refine lv_aload_n hx hb dX5_losePower_17 rfl (lv_at hl 0 rfl) ?_
  refine va_get (D := X.1) (ci := 5) (v := .ref ch) (C := RX5) (T := TX5) (N := 12) hx hb hts hin5 hown hK hP 0 rfl rfl 7 (by decide) lk54 (fun _ h9 => h9) rfl dX5_losePower_18 ?_
  refine ckVv (As := []) (rest := []) 0 [2] (c_X0_clear l X ch ck cv (nI nc)) ⟨hx, hb, hml, hown, hts⟩ (cwV 0 hts gX5_losePower_X0_clear rfl rfl rfl (by decide +kernel) ⟨Nat.le_of_ble_eq_true rfl, Nat.le_of_ble_eq_true rfl⟩) hK hN hP hD hS (by decide) rfl (ci := 0) rfl rfl (fun _ => rfl) rfl hl.1 rfl (Nat.le_of_ble_eq_true rfl) dX5_losePower_21 ⟨Nat.zero_le _, Nat.zero_le _⟩ (fun u_3 H locs hc_21 hP hD hS => ?_)
  have hP : va_P X.1 vwCl [(a, .inr (5, [.int (nI bl), .int (nI bk), .int (nI sp), .ref d, .ref p, .ref t, .ref t2, .ref ch, .ref rs, .int (nI 0), .int (-1), .int (nI cp)])), (p, .inr (2, [.ref pk, .ref pv, .int (nI 0), .int (nI (w + 1))])), (ch, .inr (0, [.ref ck, .ref cv, .int (nI 0)])), (rs, .inr (3, [.ref rk_, .ref rv, .ref rd, .int (nI nr)]))] H := hP
  have hD : va_D A_ [(a, .inr (5, [.int (nI bl), .int (nI bk), .int (nI sp), .ref d, .ref p, .ref t, .ref t2, .ref ch, .ref rs, .int (nI 0), .int (-1), .int (nI cp)])), (p, .inr (2, [.ref pk, .ref pv, .int (nI 0), .int (nI (w + 1))])), (ch, .inr (0, [.ref ck, .ref cv, .int (nI 0)])), (rs, .inr (3, [.ref rk_, .ref rv, .ref rd, .int (nI nr)]))] := hD
  refine lv_aload_n hx hb dX5_losePower_24 rfl (lv_at hl 0 rfl) ?_
  refine va_get (D := X.1) (ci := 5) (v := .ref rs) (C := RX5) (T := TX5) (N := 12) hx hb hts hin5 hown hK hP 0 rfl rfl 8 (by decide) lk61 (fun _ h9 => h9) rfl dX5_losePower_25 ?_
  refine ckVv (As := []) (rest := []) 0 [3] (c_X3_clear l X rs rk_ rv rd (nI nr)) ⟨hx, hb, hml, hown, hts⟩ (cwV 0 hts gX5_losePower_X3_clear rfl rfl rfl (by decide +kernel) ⟨Nat.le_of_ble_eq_true rfl, Nat.le_of_ble_eq_true rfl⟩) hK hN hP hD hS (by decide) rfl (ci := 3) rfl rfl (fun _ => rfl) rfl hl.1 rfl (Nat.le_of_ble_eq_true rfl) dX5_losePower_28 ⟨Nat.zero_le _, Nat.zero_le _⟩ (fun u_5 H locs hc_28 hP hD hS => ?_)
  have hP : va_P X.1 vwCl [(a, .inr (5, [.int (nI bl), .int (nI bk), .int (nI sp), .ref d, .ref p, .ref t, .ref t2, .ref ch, .ref rs, .int (nI 0), .int (-1), .int (nI cp)])), (p, .inr (2, [.ref pk, .ref pv, .int (nI 0), .int (nI (w + 1))])), (ch, .inr (0, [.ref ck, .ref cv, .int (nI 0)])), (rs, .inr (3, [.ref rk_, .ref rv, .ref rd, .int (nI 0)]))] H := hP
  have hD : va_D A_ [(a, .inr (5, [.int (nI bl), .int (nI bk), .int (nI sp), .ref d, .ref p, .ref t, .ref t2, .ref ch, .ref rs, .int (nI 0), .int (-1), .int (nI cp)])), (p, .inr (2, [.ref pk, .ref pv, .int (nI 0), .int (nI (w + 1))])), (ch, .inr (0, [.ref ck, .ref cv, .int (nI 0)])), (rs, .inr (3, [.ref rk_, .ref rv, .ref rd, .int (nI 0)]))] := hD
  refine wM hQ ?_
  exact rtV () hx hb hr hlocks hP hS (trivial) dX5_losePower_31
set_option maxHeartbeats 4000000 in
set_option maxRecDepth 100000 in
theorem c_X5_writeChanges_a (l : Launch) (X : kX) (a d p t t2 ch rs sp bl bk cp : Nat)  (h lk lv se pk pv n w ck cv rk_ rv rd nr : Nat) (lkf lvf ckf cvf : Nat → Int32) (C : List Op) (hc : chOk ckf cvf C) (hcp : cp ≤ 256) : CWi l X yX5_writeChanges wsX5_writeChanges 4 [.ref a] [(a, .inr (5, [.int (nI bl), .int (nI bk), .int (nI sp), .ref d, .ref p, .ref t, .ref t2, .ref ch, .ref rs, .int (nI 1), .int (nI 0), .int (nI cp)])), (d, .inr (1, [.ref h, .ref lk, .ref lv, .int (nI se)])), (lk, .inl (X.2.1, 60, .inl lkf)), (lv, .inl (X.2.1, 60, .inl lvf)), (ch, .inr (0, [.ref ck, .ref cv, .int (nI C.length)])), (ck, .inl (X.2.1, 60, .inl ckf)), (cv, .inl (X.2.1, 60, .inl cvf)), (p, .inr (2, [.ref pk, .ref pv, .int (nI n), .int (nI w)])), (rs, .inr (3, [.ref rk_, .ref rv, .ref rd, .int (nI nr)]))] (S := (Nat → Int32) × (Nat → Int32)) (fun r u => r = nI 0) (fun ⟨lk2, lv2⟩ => [(a, .inr (5, [.int (nI bl), .int (nI bk), .int (nI sp), .ref d, .ref p, .ref t, .ref t2, .ref ch, .ref rs, .int (nI 0), .int (-1), .int (nI cp)])), (d, .inr (1, [.ref h, .ref lk, .ref lv, .int (nI se)])), (lk, .inl (X.2.1, 60, .inl lk2)), (lv, .inl (X.2.1, 60, .inl lv2)), (ch, .inr (0, [.ref ck, .ref cv, .int (nI 0)])), (ck, .inl (X.2.1, 60, .inl ckf)), (cv, .inl (X.2.1, 60, .inl cvf)), (p, .inr (2, [.ref pk, .ref pv, .int (nI 0), .int (nI (w + 1))])), (rs, .inr (3, [.ref rk_, .ref rv, .ref rd, .int (nI 0)]))]) := by
  refine Met.ofW (cc := cX5_writeChanges) (maxL := 1) (ret := some (.boolean)) (by decide) rfl ?_
  intro pz ez sz mz args below meth cz s₁ Bz hml hv
  obtain ⟨rfl, hP, hK, hD0, hN⟩ := hv
  have hx := Bz.exec
  have hb := Bz.bytes
  have hr := Bz.returns
  have hts := atoms_spec (ws := wsX5_writeChanges) Bz.pre
  have hown : sz.vm.findClass RX5 = some mz.cls := findClass_of_methodNamed Bz.named
  have hlocks := Bz.notSynchronized
  have hD := inW.self hD0
  have hS : va_S (inW [(a, .inr (5, [.int (nI bl), .int (nI bk), .int (nI sp), .ref d, .ref p, .ref t, .ref t2, .ref ch, .ref rs, .int (nI 1), .int (nI 0), .int (nI cp)])), (d, .inr (1, [.ref h, .ref lk, .ref lv, .int (nI se)])), (lk, .inl (X.2.1, 60, .inl lkf)), (lv, .inl (X.2.1, 60, .inl lvf)), (ch, .inr (0, [.ref ck, .ref cv, .int (nI C.length)])), (ck, .inl (X.2.1, 60, .inl ckf)), (cv, .inl (X.2.1, 60, .inl cvf)), (p, .inr (2, [.ref pk, .ref pv, .int (nI n), .int (nI w)])), (rs, .inr (3, [.ref rk_, .ref rv, .ref rd, .int (nI nr)]))]) sz.heap sz.heap [] := va_S.rf
  have hl := lv_entry ([.ref a]) (n := 1) (Nat.le_of_ble_eq_true rfl)
  rw [lg_entry_eq]
  generalize (lg_sl ([.ref a]) ++ List.replicate (1 - (lg_sl ([.ref a])).length) Slot.unset).toArray = ls at hl ⊢
  have hl : lv_has ls 1 [(0, .ref a)] := hl
  have lk31 := hts (.fieldLink RX5 31 "PointStore" "disk" "LPointStore$Disk;") (by decide +kernel)
  have lk54 := hts (.fieldLink RX5 54 "PointStore" "changes" "LPointStore$Changes;") (by decide +kernel)
  have lk69 := hts (.fieldLink RX5 69 "PointStore" "cut" "I") (by decide +kernel)
  have lk72 := hts (.fieldLink RX5 72 "PointStore" "cutParts" "I") (by decide +kernel)
  have hin5 : ∀ w ∈ u_ws RX5 TX5 12, w ∈ wsX5_writeChanges := by decide +kernel
  refine wQ (fun Q hQ => ?_)
  generalize hAe : inW [(a, .inr (5, [.int (nI bl), .int (nI bk), .int (nI sp), .ref d, .ref p, .ref t, .ref t2, .ref ch, .ref rs, .int (nI 1), .int (nI 0), .int (nI cp)])), (d, .inr (1, [.ref h, .ref lk, .ref lv, .int (nI se)])), (lk, .inl (X.2.1, 60, .inl lkf)), (lv, .inl (X.2.1, 60, .inl lvf)), (ch, .inr (0, [.ref ck, .ref cv, .int (nI C.length)])), (ck, .inl (X.2.1, 60, .inl ckf)), (cv, .inl (X.2.1, 60, .inl cvf)), (p, .inr (2, [.ref pk, .ref pv, .int (nI n), .int (nI w)])), (rs, .inr (3, [.ref rk_, .ref rv, .ref rd, .int (nI nr)]))] = A_ at hD hS hQ
  refine lv_aload_n hx hb dX5_writeChanges_0 rfl (lv_at hl 0 rfl) ?_
  refine va_get (D := X.1) (ci := 5) (v := .int (nI 0)) (C := RX5) (T := TX5) (N := 12) hx hb hts hin5 hown hK hP 0 rfl rfl 10 (by decide) lk69 (fun _ h9 => h9) rfl dX5_writeChanges_1 ?_
  refine lv_if_ne (tgt := 28) hx hb dX5_writeChanges_4 (by decide) (fun c_4 => ?_) (fun c_4 => ?_)
  · exact absurd c_4 (by decide)
  · skip
    refine lv_aload_n hx hb dX5_writeChanges_7 rfl (lv_at hl 0 rfl) ?_
    refine va_get (D := X.1) (ci := 5) (v := .ref d) (C := RX5) (T := TX5) (N := 12) hx hb hts hin5 hown hK hP 0 rfl rfl 3 (by decide) lk31 (fun _ h9 => h9) rfl dX5_writeChanges_8 ?_
    refine lv_aload_n hx hb dX5_writeChanges_11 rfl (lv_at hl 0 rfl) ?_
    refine va_get (D := X.1) (ci := 5) (v := .ref ch) (C := RX5) (T := TX5) (N := 12) hx hb hts hin5 hown hK hP 0 rfl rfl 7 (by decide) lk54 (fun _ h9 => h9) rfl dX5_writeChanges_12 ?_
    refine lv_aload_n hx hb dX5_writeChanges_15 rfl (lv_at hl 0 rfl) ?_
    refine va_get (D := X.1) (ci := 5) (v := .int (nI cp)) (C := RX5) (T := TX5) (N := 12) hx hb hts hin5 hown hK hP 0 rfl rfl 11 (by decide) lk72 (fun _ h9 => h9) rfl dX5_writeChanges_16 ?_
    refine ckVv (As := [.ref ch, .int (nI cp)]) (rest := []) 0 [1, 2, 3, 4, 5, 6] (c_X1_writeLog l X d h lk lv se ch ck cv cp lkf lvf ckf cvf C hc hcp) ⟨hx, hb, hml, hown, hts⟩ (cwV 2 hts gX5_writeChanges_X1_writeLog rfl rfl rfl (by decide +kernel) ⟨Nat.le_of_ble_eq_true rfl, Nat.le_of_ble_eq_true rfl⟩) hK hN hP hD hS (by decide) rfl (ci := 1) rfl rfl (fun _ => rfl) rfl hl.1 rfl (Nat.le_of_ble_eq_true rfl) dX5_writeChanges_19 ⟨Nat.zero_le _, Nat.zero_le _⟩ (fun u_1 H locs hc_19 hP hD hS => ?_)
    obtain ⟨lk2, lv2⟩ := u_1
    have hP : va_P X.1 vwCl [(a, .inr (5, [.int (nI bl), .int (nI bk), .int (nI sp), .ref d, .ref p, .ref t, .ref t2, .ref ch, .ref rs, .int (nI 1), .int (nI 0), .int (nI cp)])), (d, .inr (1, [.ref h, .ref lk, .ref lv, .int (nI se)])), (lk, .inl (X.2.1, 60, .inl lk2)), (lv, .inl (X.2.1, 60, .inl lv2)), (ch, .inr (0, [.ref ck, .ref cv, .int (nI C.length)])), (ck, .inl (X.2.1, 60, .inl ckf)), (cv, .inl (X.2.1, 60, .inl cvf)), (p, .inr (2, [.ref pk, .ref pv, .int (nI n), .int (nI w)])), (rs, .inr (3, [.ref rk_, .ref rv, .ref rd, .int (nI nr)]))] H := hP
    have hD : va_D A_ [(a, .inr (5, [.int (nI bl), .int (nI bk), .int (nI sp), .ref d, .ref p, .ref t, .ref t2, .ref ch, .ref rs, .int (nI 1), .int (nI 0), .int (nI cp)])), (d, .inr (1, [.ref h, .ref lk, .ref lv, .int (nI se)])), (lk, .inl (X.2.1, 60, .inl lk2)), (lv, .inl (X.2.1, 60, .inl lv2)), (ch, .inr (0, [.ref ck, .ref cv, .int (nI C.length)])), (ck, .inl (X.2.1, 60, .inl ckf)), (cv, .inl (X.2.1, 60, .inl cvf)), (p, .inr (2, [.ref pk, .ref pv, .int (nI n), .int (nI w)])), (rs, .inr (3, [.ref rk_, .ref rv, .ref rd, .int (nI nr)]))] := hD
    try dsimp only at hc_19
    refine lv_aload_n hx hb dX5_writeChanges_22 rfl (lv_at hl 0 rfl) ?_
    refine ckVv (As := []) (rest := []) 0 [0, 7, 4, 8] (c_X5_losePower l X a d p t t2 ch rs sp bl bk cp (nI 0) pk pv n w ck cv C.length rk_ rv rd nr (nI 1)) ⟨hx, hb, hml, hown, hts⟩ (cwV 0 hts gX5_writeChanges_X5_losePower rfl rfl rfl (by decide +kernel) ⟨Nat.le_of_ble_eq_true rfl, Nat.le_of_ble_eq_true rfl⟩) hK hN hP hD hS (by decide) rfl (ci := 5) rfl rfl (fun _ => rfl) rfl hl.1 rfl (Nat.le_of_ble_eq_true rfl) dX5_writeChanges_23 ⟨Nat.zero_le _, Nat.zero_le _⟩ (fun u_3 H locs hc_23 hP hD hS => ?_)
    have hP : va_P X.1 vwCl [(a, .inr (5, [.int (nI bl), .int (nI bk), .int (nI sp), .ref d, .ref p, .ref t, .ref t2, .ref ch, .ref rs, .int (nI 0), .int (-1), .int (nI cp)])), (d, .inr (1, [.ref h, .ref lk, .ref lv, .int (nI se)])), (lk, .inl (X.2.1, 60, .inl lk2)), (lv, .inl (X.2.1, 60, .inl lv2)), (ch, .inr (0, [.ref ck, .ref cv, .int (nI 0)])), (ck, .inl (X.2.1, 60, .inl ckf)), (cv, .inl (X.2.1, 60, .inl cvf)), (p, .inr (2, [.ref pk, .ref pv, .int (nI 0), .int (nI (w + 1))])), (rs, .inr (3, [.ref rk_, .ref rv, .ref rd, .int (nI 0)]))] H := hP
    have hD : va_D A_ [(a, .inr (5, [.int (nI bl), .int (nI bk), .int (nI sp), .ref d, .ref p, .ref t, .ref t2, .ref ch, .ref rs, .int (nI 0), .int (-1), .int (nI cp)])), (d, .inr (1, [.ref h, .ref lk, .ref lv, .int (nI se)])), (lk, .inl (X.2.1, 60, .inl lk2)), (lv, .inl (X.2.1, 60, .inl lv2)), (ch, .inr (0, [.ref ck, .ref cv, .int (nI 0)])), (ck, .inl (X.2.1, 60, .inl ckf)), (cv, .inl (X.2.1, 60, .inl cvf)), (p, .inr (2, [.ref pk, .ref pv, .int (nI 0), .int (nI (w + 1))])), (rs, .inr (3, [.ref rk_, .ref rv, .ref rd, .int (nI 0)]))] := hD
    refine lv_iconst (v := nI 0) hx hb dX5_writeChanges_26 (by decide) ?_
    refine wM hQ ?_
    exact rtZ (lk2, lv2) hx hb hr hlocks (by decide) hP hS (rfl) dX5_writeChanges_27
set_option maxHeartbeats 4000000 in
set_option maxRecDepth 100000 in
theorem c_X5_writeChanges_b (l : Launch) (X : kX) (a d p t t2 ch rs sp bl bk cp : Nat)  (h lk lv se pk pv n w ck cv rk_ rv rd nr : Nat) (hk hv wh : Nat) (lkf lvf ckf cvf hkf hvf : Nat → Int32) (C : List Op) (Hm : PL) (hc : chOk ckf cvf C) (hp : ptOk hkf hvf Hm) (hcp : cp ≤ 256) (hcap : ∀ j, j ≤ C.length → (apL Hm (C.take j)).length ≤ 512) : CWi l X yX5_writeChanges wsX5_writeChanges 4 [.ref a] [(a, .inr (5, [.int (nI bl), .int (nI bk), .int (nI sp), .ref d, .ref p, .ref t, .ref t2, .ref ch, .ref rs, .int (nI 1), .int (nI 1), .int (nI cp)])), (d, .inr (1, [.ref h, .ref lk, .ref lv, .int (nI se)])), (lk, .inl (X.2.1, 60, .inl lkf)), (lv, .inl (X.2.1, 60, .inl lvf)), (ch, .inr (0, [.ref ck, .ref cv, .int (nI C.length)])), (ck, .inl (X.2.1, 60, .inl ckf)), (cv, .inl (X.2.1, 60, .inl cvf)), (h, .inr (2, [.ref hk, .ref hv, .int (nI Hm.length), .int (nI wh)])), (hk, .inl (X.2.1, 512, .inl hkf)), (hv, .inl (X.2.1, 512, .inl hvf)), (p, .inr (2, [.ref pk, .ref pv, .int (nI n), .int (nI w)])), (rs, .inr (3, [.ref rk_, .ref rv, .ref rd, .int (nI nr)]))] (S := (Nat → Int32) × (Nat → Int32) × (Nat → Int32) × (Nat → Int32)) (fun r u => r = nI 0 ∧ chOk u.1 u.2.1 C ∧ ptOk u.2.2.1 u.2.2.2 (apL Hm (C.take (C.length * cp / 256)))) (fun ⟨lk2, lv2, hk2, hv2⟩ => [(a, .inr (5, [.int (nI bl), .int (nI bk), .int (nI sp), .ref d, .ref p, .ref t, .ref t2, .ref ch, .ref rs, .int (nI 0), .int (-1), .int (nI cp)])), (d, .inr (1, [.ref h, .ref lk, .ref lv, .int (nI C.length)])), (lk, .inl (X.2.1, 60, .inl lk2)), (lv, .inl (X.2.1, 60, .inl lv2)), (ch, .inr (0, [.ref ck, .ref cv, .int (nI 0)])), (ck, .inl (X.2.1, 60, .inl ckf)), (cv, .inl (X.2.1, 60, .inl cvf)), (h, .inr (2, [.ref hk, .ref hv, .int (nI ((apL Hm (C.take (C.length * cp / 256))).length)), .int (nI (avL Hm wh (C.take (C.length * cp / 256))))])), (hk, .inl (X.2.1, 512, .inl hk2)), (hv, .inl (X.2.1, 512, .inl hv2)), (p, .inr (2, [.ref pk, .ref pv, .int (nI 0), .int (nI (w + 1))])), (rs, .inr (3, [.ref rk_, .ref rv, .ref rd, .int (nI 0)]))]) := by
  refine Met.ofW (cc := cX5_writeChanges) (maxL := 1) (ret := some (.boolean)) (by decide) rfl ?_
  intro pz ez sz mz args below meth cz s₁ Bz hml hv
  obtain ⟨rfl, hP, hK, hD0, hN⟩ := hv
  have hx := Bz.exec
  have hb := Bz.bytes
  have hr := Bz.returns
  have hts := atoms_spec (ws := wsX5_writeChanges) Bz.pre
  have hown : sz.vm.findClass RX5 = some mz.cls := findClass_of_methodNamed Bz.named
  have hlocks := Bz.notSynchronized
  have hD := inW.self hD0
  have hS : va_S (inW [(a, .inr (5, [.int (nI bl), .int (nI bk), .int (nI sp), .ref d, .ref p, .ref t, .ref t2, .ref ch, .ref rs, .int (nI 1), .int (nI 1), .int (nI cp)])), (d, .inr (1, [.ref h, .ref lk, .ref lv, .int (nI se)])), (lk, .inl (X.2.1, 60, .inl lkf)), (lv, .inl (X.2.1, 60, .inl lvf)), (ch, .inr (0, [.ref ck, .ref cv, .int (nI C.length)])), (ck, .inl (X.2.1, 60, .inl ckf)), (cv, .inl (X.2.1, 60, .inl cvf)), (h, .inr (2, [.ref hk, .ref hv, .int (nI Hm.length), .int (nI wh)])), (hk, .inl (X.2.1, 512, .inl hkf)), (hv, .inl (X.2.1, 512, .inl hvf)), (p, .inr (2, [.ref pk, .ref pv, .int (nI n), .int (nI w)])), (rs, .inr (3, [.ref rk_, .ref rv, .ref rd, .int (nI nr)]))]) sz.heap sz.heap [] := va_S.rf
  have hl := lv_entry ([.ref a]) (n := 1) (Nat.le_of_ble_eq_true rfl)
  rw [lg_entry_eq]
  generalize (lg_sl ([.ref a]) ++ List.replicate (1 - (lg_sl ([.ref a])).length) Slot.unset).toArray = ls at hl ⊢
  have hl : lv_has ls 1 [(0, .ref a)] := hl
  have lk31 := hts (.fieldLink RX5 31 "PointStore" "disk" "LPointStore$Disk;") (by decide +kernel)
  have lk54 := hts (.fieldLink RX5 54 "PointStore" "changes" "LPointStore$Changes;") (by decide +kernel)
  have lk69 := hts (.fieldLink RX5 69 "PointStore" "cut" "I") (by decide +kernel)
  have lk72 := hts (.fieldLink RX5 72 "PointStore" "cutParts" "I") (by decide +kernel)
  have lk162 := hts (.fieldLink RX5 162 "PointStore$Changes" "total" "I") (by decide +kernel)
  have hin0 : ∀ w ∈ u_ws RX0 TX0 3, w ∈ wsX5_writeChanges := by decide +kernel
  have hin5 : ∀ w ∈ u_ws RX5 TX5 12, w ∈ wsX5_writeChanges := by decide +kernel
  refine wQ (fun Q hQ => ?_)
  generalize hAe : inW [(a, .inr (5, [.int (nI bl), .int (nI bk), .int (nI sp), .ref d, .ref p, .ref t, .ref t2, .ref ch, .ref rs, .int (nI 1), .int (nI 1), .int (nI cp)])), (d, .inr (1, [.ref h, .ref lk, .ref lv, .int (nI se)])), (lk, .inl (X.2.1, 60, .inl lkf)), (lv, .inl (X.2.1, 60, .inl lvf)), (ch, .inr (0, [.ref ck, .ref cv, .int (nI C.length)])), (ck, .inl (X.2.1, 60, .inl ckf)), (cv, .inl (X.2.1, 60, .inl cvf)), (h, .inr (2, [.ref hk, .ref hv, .int (nI Hm.length), .int (nI wh)])), (hk, .inl (X.2.1, 512, .inl hkf)), (hv, .inl (X.2.1, 512, .inl hvf)), (p, .inr (2, [.ref pk, .ref pv, .int (nI n), .int (nI w)])), (rs, .inr (3, [.ref rk_, .ref rv, .ref rd, .int (nI nr)]))] = A_ at hD hS hQ
  refine lv_aload_n hx hb dX5_writeChanges_0 rfl (lv_at hl 0 rfl) ?_
  refine va_get (D := X.1) (ci := 5) (v := .int (nI 1)) (C := RX5) (T := TX5) (N := 12) hx hb hts hin5 hown hK hP 0 rfl rfl 10 (by decide) lk69 (fun _ h9 => h9) rfl dX5_writeChanges_1 ?_
  refine lv_if_ne (tgt := 28) hx hb dX5_writeChanges_4 (by decide) (fun c_4 => ?_) (fun c_4 => ?_)
  · skip
    refine lv_aload_n hx hb dX5_writeChanges_28 rfl (lv_at hl 0 rfl) ?_
    refine va_get (D := X.1) (ci := 5) (v := .ref d) (C := RX5) (T := TX5) (N := 12) hx hb hts hin5 hown hK hP 0 rfl rfl 3 (by decide) lk31 (fun _ h9 => h9) rfl dX5_writeChanges_29 ?_
    refine lv_aload_n hx hb dX5_writeChanges_32 rfl (lv_at hl 0 rfl) ?_
    refine va_get (D := X.1) (ci := 5) (v := .ref ch) (C := RX5) (T := TX5) (N := 12) hx hb hts hin5 hown hK hP 0 rfl rfl 7 (by decide) lk54 (fun _ h9 => h9) rfl dX5_writeChanges_33 ?_
    refine lv_sipush (v := nI 256) hx hb dX5_writeChanges_36 (by decide) ?_
    refine ckVv (As := [.ref ch, .int (nI 256)]) (rest := []) 0 [1, 2, 3, 4, 5, 6] (c_X1_writeLog l X d h lk lv se ch ck cv 256 lkf lvf ckf cvf C hc (Nat.le_refl 256)) ⟨hx, hb, hml, hown, hts⟩ (cwV 2 hts gX5_writeChanges_X1_writeLog rfl rfl rfl (by decide +kernel) ⟨Nat.le_of_ble_eq_true rfl, Nat.le_of_ble_eq_true rfl⟩) hK hN hP hD hS (by decide) rfl (ci := 1) rfl rfl (fun _ => rfl) rfl hl.1 rfl (Nat.le_of_ble_eq_true rfl) dX5_writeChanges_39 ⟨Nat.zero_le _, Nat.zero_le _⟩ (fun u_1 H locs hwl hP hD hS => ?_)
    obtain ⟨lk2, lv2⟩ := u_1
    have hP : va_P X.1 vwCl [(a, .inr (5, [.int (nI bl), .int (nI bk), .int (nI sp), .ref d, .ref p, .ref t, .ref t2, .ref ch, .ref rs, .int (nI 1), .int (nI 1), .int (nI cp)])), (d, .inr (1, [.ref h, .ref lk, .ref lv, .int (nI se)])), (lk, .inl (X.2.1, 60, .inl lk2)), (lv, .inl (X.2.1, 60, .inl lv2)), (ch, .inr (0, [.ref ck, .ref cv, .int (nI C.length)])), (ck, .inl (X.2.1, 60, .inl ckf)), (cv, .inl (X.2.1, 60, .inl cvf)), (h, .inr (2, [.ref hk, .ref hv, .int (nI Hm.length), .int (nI wh)])), (hk, .inl (X.2.1, 512, .inl hkf)), (hv, .inl (X.2.1, 512, .inl hvf)), (p, .inr (2, [.ref pk, .ref pv, .int (nI n), .int (nI w)])), (rs, .inr (3, [.ref rk_, .ref rv, .ref rd, .int (nI nr)]))] H := hP
    have hD : va_D A_ [(a, .inr (5, [.int (nI bl), .int (nI bk), .int (nI sp), .ref d, .ref p, .ref t, .ref t2, .ref ch, .ref rs, .int (nI 1), .int (nI 1), .int (nI cp)])), (d, .inr (1, [.ref h, .ref lk, .ref lv, .int (nI se)])), (lk, .inl (X.2.1, 60, .inl lk2)), (lv, .inl (X.2.1, 60, .inl lv2)), (ch, .inr (0, [.ref ck, .ref cv, .int (nI C.length)])), (ck, .inl (X.2.1, 60, .inl ckf)), (cv, .inl (X.2.1, 60, .inl cvf)), (h, .inr (2, [.ref hk, .ref hv, .int (nI Hm.length), .int (nI wh)])), (hk, .inl (X.2.1, 512, .inl hkf)), (hv, .inl (X.2.1, 512, .inl hvf)), (p, .inr (2, [.ref pk, .ref pv, .int (nI n), .int (nI w)])), (rs, .inr (3, [.ref rk_, .ref rv, .ref rd, .int (nI nr)]))] := hD
    try dsimp only at hwl
    refine lv_aload_n hx hb dX5_writeChanges_42 rfl (lv_at hl 0 rfl) ?_
    refine va_get (D := X.1) (ci := 5) (v := .ref d) (C := RX5) (T := TX5) (N := 12) hx hb hts hin5 hown hK hP 0 rfl rfl 3 (by decide) lk31 (fun _ h9 => h9) rfl dX5_writeChanges_43 ?_
    refine lv_aload_n hx hb dX5_writeChanges_46 rfl (lv_at hl 0 rfl) ?_
    refine va_get (D := X.1) (ci := 5) (v := .ref ch) (C := RX5) (T := TX5) (N := 12) hx hb hts hin5 hown hK hP 0 rfl rfl 7 (by decide) lk54 (fun _ h9 => h9) rfl dX5_writeChanges_47 ?_
    refine va_get (D := X.1) (ci := 0) (v := .int (nI C.length)) (C := RX0) (T := TX0) (N := 3) hx hb hts hin0 hown hK hP 4 rfl rfl 2 (by decide) lk162 (fun _ h9 => h9) rfl dX5_writeChanges_50 ?_
    refine ckVv (As := [.int (nI C.length)]) (rest := []) 0 [1] (c_X1_seal l X d h lk lv (nI se) C.length) ⟨hx, hb, hml, hown, hts⟩ (cwV 1 hts gX5_writeChanges_X1_seal rfl rfl rfl (by decide +kernel) ⟨Nat.le_of_ble_eq_true rfl, Nat.le_of_ble_eq_true rfl⟩) hK hN hP hD hS (by decide) rfl (ci := 1) rfl rfl (fun _ => rfl) rfl hl.1 rfl (Nat.le_of_ble_eq_true rfl) dX5_writeChanges_53 ⟨Nat.zero_le _, Nat.zero_le _⟩ (fun u_3 H locs hc_53 hP hD hS => ?_)
    have hP : va_P X.1 vwCl [(a, .inr (5, [.int (nI bl), .int (nI bk), .int (nI sp), .ref d, .ref p, .ref t, .ref t2, .ref ch, .ref rs, .int (nI 1), .int (nI 1), .int (nI cp)])), (d, .inr (1, [.ref h, .ref lk, .ref lv, .int (nI C.length)])), (lk, .inl (X.2.1, 60, .inl lk2)), (lv, .inl (X.2.1, 60, .inl lv2)), (ch, .inr (0, [.ref ck, .ref cv, .int (nI C.length)])), (ck, .inl (X.2.1, 60, .inl ckf)), (cv, .inl (X.2.1, 60, .inl cvf)), (h, .inr (2, [.ref hk, .ref hv, .int (nI Hm.length), .int (nI wh)])), (hk, .inl (X.2.1, 512, .inl hkf)), (hv, .inl (X.2.1, 512, .inl hvf)), (p, .inr (2, [.ref pk, .ref pv, .int (nI n), .int (nI w)])), (rs, .inr (3, [.ref rk_, .ref rv, .ref rd, .int (nI nr)]))] H := hP
    have hD : va_D A_ [(a, .inr (5, [.int (nI bl), .int (nI bk), .int (nI sp), .ref d, .ref p, .ref t, .ref t2, .ref ch, .ref rs, .int (nI 1), .int (nI 1), .int (nI cp)])), (d, .inr (1, [.ref h, .ref lk, .ref lv, .int (nI C.length)])), (lk, .inl (X.2.1, 60, .inl lk2)), (lv, .inl (X.2.1, 60, .inl lv2)), (ch, .inr (0, [.ref ck, .ref cv, .int (nI C.length)])), (ck, .inl (X.2.1, 60, .inl ckf)), (cv, .inl (X.2.1, 60, .inl cvf)), (h, .inr (2, [.ref hk, .ref hv, .int (nI Hm.length), .int (nI wh)])), (hk, .inl (X.2.1, 512, .inl hkf)), (hv, .inl (X.2.1, 512, .inl hvf)), (p, .inr (2, [.ref pk, .ref pv, .int (nI n), .int (nI w)])), (rs, .inr (3, [.ref rk_, .ref rv, .ref rd, .int (nI nr)]))] := hD
    refine lv_aload_n hx hb dX5_writeChanges_56 rfl (lv_at hl 0 rfl) ?_
    refine va_get (D := X.1) (ci := 5) (v := .int (nI 1)) (C := RX5) (T := TX5) (N := 12) hx hb hts hin5 hown hK hP 0 rfl rfl 10 (by decide) lk69 (fun _ h9 => h9) rfl dX5_writeChanges_57 ?_
    refine lv_iconst (v := nI 1) hx hb dX5_writeChanges_60 (by decide) ?_
    refine lv_icmp_ne (tgt := 81) hx hb dX5_writeChanges_61 (by decide) (fun c_61 => ?_) (fun c_61 => ?_)
    · exact absurd c_61 (by decide)
    · skip
      refine lv_aload_n hx hb dX5_writeChanges_64 rfl (lv_at hl 0 rfl) ?_
      refine va_get (D := X.1) (ci := 5) (v := .ref d) (C := RX5) (T := TX5) (N := 12) hx hb hts hin5 hown hK hP 0 rfl rfl 3 (by decide) lk31 (fun _ h9 => h9) rfl dX5_writeChanges_65 ?_
      refine lv_aload_n hx hb dX5_writeChanges_68 rfl (lv_at hl 0 rfl) ?_
      refine va_get (D := X.1) (ci := 5) (v := .int (nI cp)) (C := RX5) (T := TX5) (N := 12) hx hb hts hin5 hown hK hP 0 rfl rfl 11 (by decide) lk72 (fun _ h9 => h9) rfl dX5_writeChanges_69 ?_
      refine ckVv (As := [.int (nI cp)]) (rest := []) 0 [1, 2, 3, 7, 8, 9] (c_X1_writeHome l X d h lk lv hk hv wh cp lk2 lv2 hkf hvf Hm C (hwl rfl) hp hcp hcap) ⟨hx, hb, hml, hown, hts⟩ (cwV 1 hts gX5_writeChanges_X1_writeHome rfl rfl rfl (by decide +kernel) ⟨Nat.le_of_ble_eq_true rfl, Nat.le_of_ble_eq_true rfl⟩) hK hN hP hD hS (by decide) rfl (ci := 1) rfl rfl (fun _ => rfl) rfl hl.1 rfl (Nat.le_of_ble_eq_true rfl) dX5_writeChanges_72 ⟨Nat.zero_le _, Nat.zero_le _⟩ (fun u_5 H locs hwh hP hD hS => ?_)
      obtain ⟨hk2, hv2⟩ := u_5
      have hP : va_P X.1 vwCl [(a, .inr (5, [.int (nI bl), .int (nI bk), .int (nI sp), .ref d, .ref p, .ref t, .ref t2, .ref ch, .ref rs, .int (nI 1), .int (nI 1), .int (nI cp)])), (d, .inr (1, [.ref h, .ref lk, .ref lv, .int (nI C.length)])), (lk, .inl (X.2.1, 60, .inl lk2)), (lv, .inl (X.2.1, 60, .inl lv2)), (ch, .inr (0, [.ref ck, .ref cv, .int (nI C.length)])), (ck, .inl (X.2.1, 60, .inl ckf)), (cv, .inl (X.2.1, 60, .inl cvf)), (h, .inr (2, [.ref hk, .ref hv, .int (nI ((apL Hm (C.take (C.length * cp / 256))).length)), .int (nI (avL Hm wh (C.take (C.length * cp / 256))))])), (hk, .inl (X.2.1, 512, .inl hk2)), (hv, .inl (X.2.1, 512, .inl hv2)), (p, .inr (2, [.ref pk, .ref pv, .int (nI n), .int (nI w)])), (rs, .inr (3, [.ref rk_, .ref rv, .ref rd, .int (nI nr)]))] H := hP
      have hD : va_D A_ [(a, .inr (5, [.int (nI bl), .int (nI bk), .int (nI sp), .ref d, .ref p, .ref t, .ref t2, .ref ch, .ref rs, .int (nI 1), .int (nI 1), .int (nI cp)])), (d, .inr (1, [.ref h, .ref lk, .ref lv, .int (nI C.length)])), (lk, .inl (X.2.1, 60, .inl lk2)), (lv, .inl (X.2.1, 60, .inl lv2)), (ch, .inr (0, [.ref ck, .ref cv, .int (nI C.length)])), (ck, .inl (X.2.1, 60, .inl ckf)), (cv, .inl (X.2.1, 60, .inl cvf)), (h, .inr (2, [.ref hk, .ref hv, .int (nI ((apL Hm (C.take (C.length * cp / 256))).length)), .int (nI (avL Hm wh (C.take (C.length * cp / 256))))])), (hk, .inl (X.2.1, 512, .inl hk2)), (hv, .inl (X.2.1, 512, .inl hv2)), (p, .inr (2, [.ref pk, .ref pv, .int (nI n), .int (nI w)])), (rs, .inr (3, [.ref rk_, .ref rv, .ref rd, .int (nI nr)]))] := hD
      try dsimp only at hwh
      refine lv_aload_n hx hb dX5_writeChanges_75 rfl (lv_at hl 0 rfl) ?_
      refine ckVv (As := []) (rest := []) 0 [0, 10, 4, 11] (c_X5_losePower l X a d p t t2 ch rs sp bl bk cp (nI 1) pk pv n w ck cv C.length rk_ rv rd nr (nI 1)) ⟨hx, hb, hml, hown, hts⟩ (cwV 0 hts gX5_writeChanges_X5_losePower rfl rfl rfl (by decide +kernel) ⟨Nat.le_of_ble_eq_true rfl, Nat.le_of_ble_eq_true rfl⟩) hK hN hP hD hS (by decide) rfl (ci := 5) rfl rfl (fun _ => rfl) rfl hl.1 rfl (Nat.le_of_ble_eq_true rfl) dX5_writeChanges_76 ⟨Nat.zero_le _, Nat.zero_le _⟩ (fun u_7 H locs hc_76 hP hD hS => ?_)
      have hP : va_P X.1 vwCl [(a, .inr (5, [.int (nI bl), .int (nI bk), .int (nI sp), .ref d, .ref p, .ref t, .ref t2, .ref ch, .ref rs, .int (nI 0), .int (-1), .int (nI cp)])), (d, .inr (1, [.ref h, .ref lk, .ref lv, .int (nI C.length)])), (lk, .inl (X.2.1, 60, .inl lk2)), (lv, .inl (X.2.1, 60, .inl lv2)), (ch, .inr (0, [.ref ck, .ref cv, .int (nI 0)])), (ck, .inl (X.2.1, 60, .inl ckf)), (cv, .inl (X.2.1, 60, .inl cvf)), (h, .inr (2, [.ref hk, .ref hv, .int (nI ((apL Hm (C.take (C.length * cp / 256))).length)), .int (nI (avL Hm wh (C.take (C.length * cp / 256))))])), (hk, .inl (X.2.1, 512, .inl hk2)), (hv, .inl (X.2.1, 512, .inl hv2)), (p, .inr (2, [.ref pk, .ref pv, .int (nI 0), .int (nI (w + 1))])), (rs, .inr (3, [.ref rk_, .ref rv, .ref rd, .int (nI 0)]))] H := hP
      have hD : va_D A_ [(a, .inr (5, [.int (nI bl), .int (nI bk), .int (nI sp), .ref d, .ref p, .ref t, .ref t2, .ref ch, .ref rs, .int (nI 0), .int (-1), .int (nI cp)])), (d, .inr (1, [.ref h, .ref lk, .ref lv, .int (nI C.length)])), (lk, .inl (X.2.1, 60, .inl lk2)), (lv, .inl (X.2.1, 60, .inl lv2)), (ch, .inr (0, [.ref ck, .ref cv, .int (nI 0)])), (ck, .inl (X.2.1, 60, .inl ckf)), (cv, .inl (X.2.1, 60, .inl cvf)), (h, .inr (2, [.ref hk, .ref hv, .int (nI ((apL Hm (C.take (C.length * cp / 256))).length)), .int (nI (avL Hm wh (C.take (C.length * cp / 256))))])), (hk, .inl (X.2.1, 512, .inl hk2)), (hv, .inl (X.2.1, 512, .inl hv2)), (p, .inr (2, [.ref pk, .ref pv, .int (nI 0), .int (nI (w + 1))])), (rs, .inr (3, [.ref rk_, .ref rv, .ref rd, .int (nI 0)]))] := hD
      refine lv_iconst (v := nI 0) hx hb dX5_writeChanges_79 (by decide) ?_
      refine wM hQ ?_
      exact rtZ (lk2, lv2, hk2, hv2) hx hb hr hlocks (by decide) hP hS (⟨rfl, hwl rfl, hwh⟩) dX5_writeChanges_80
  · exact absurd c_4 (by decide)
set_option maxHeartbeats 4000000 in
set_option maxRecDepth 100000 in
theorem c_X5_writeChanges_n (l : Launch) (X : kX) (a d p t t2 ch rs sp bl bk cp : Nat) (f_ct : Int32) (h lk lv se ck cv : Nat) (hk hv wh : Nat) (lkf lvf ckf cvf hkf hvf : Nat → Int32) (C : List Op) (Hm : PL) (hc : chOk ckf cvf C) (hp : ptOk hkf hvf Hm) (hcap : ∀ j, j ≤ C.length → (apL Hm (C.take j)).length ≤ 512) (hn0 : ¬ f_ct = 0) (hn1 : ¬ f_ct = nI 1) : CWi l X yX5_writeChanges wsX5_writeChanges 4 [.ref a] [(a, .inr (5, [.int (nI bl), .int (nI bk), .int (nI sp), .ref d, .ref p, .ref t, .ref t2, .ref ch, .ref rs, .int (nI 1), .int f_ct, .int (nI cp)])), (d, .inr (1, [.ref h, .ref lk, .ref lv, .int (nI se)])), (lk, .inl (X.2.1, 60, .inl lkf)), (lv, .inl (X.2.1, 60, .inl lvf)), (ch, .inr (0, [.ref ck, .ref cv, .int (nI C.length)])), (ck, .inl (X.2.1, 60, .inl ckf)), (cv, .inl (X.2.1, 60, .inl cvf)), (h, .inr (2, [.ref hk, .ref hv, .int (nI Hm.length), .int (nI wh)])), (hk, .inl (X.2.1, 512, .inl hkf)), (hv, .inl (X.2.1, 512, .inl hvf))] (S := (Nat → Int32) × (Nat → Int32) × (Nat → Int32) × (Nat → Int32)) (fun r u => r = nI 1 ∧ ptOk u.2.2.1 u.2.2.2 (apL Hm C)) (fun ⟨lk2, lv2, hk2, hv2⟩ => [(a, .inr (5, [.int (nI bl), .int (nI bk), .int (nI sp), .ref d, .ref p, .ref t, .ref t2, .ref ch, .ref rs, .int (nI 1), .int f_ct, .int (nI cp)])), (d, .inr (1, [.ref h, .ref lk, .ref lv, .int (nI 0)])), (lk, .inl (X.2.1, 60, .inl lk2)), (lv, .inl (X.2.1, 60, .inl lv2)), (ch, .inr (0, [.ref ck, .ref cv, .int (nI C.length)])), (ck, .inl (X.2.1, 60, .inl ckf)), (cv, .inl (X.2.1, 60, .inl cvf)), (h, .inr (2, [.ref hk, .ref hv, .int (nI ((apL Hm C).length)), .int (nI (avL Hm wh C))])), (hk, .inl (X.2.1, 512, .inl hk2)), (hv, .inl (X.2.1, 512, .inl hv2))]) := by
  refine Met.ofW (cc := cX5_writeChanges) (maxL := 1) (ret := some (.boolean)) (by decide) rfl ?_
  intro pz ez sz mz args below meth cz s₁ Bz hml hv
  obtain ⟨rfl, hP, hK, hD0, hN⟩ := hv
  have hx := Bz.exec
  have hb := Bz.bytes
  have hr := Bz.returns
  have hts := atoms_spec (ws := wsX5_writeChanges) Bz.pre
  have hown : sz.vm.findClass RX5 = some mz.cls := findClass_of_methodNamed Bz.named
  have hlocks := Bz.notSynchronized
  have hD := inW.self hD0
  have hS : va_S (inW [(a, .inr (5, [.int (nI bl), .int (nI bk), .int (nI sp), .ref d, .ref p, .ref t, .ref t2, .ref ch, .ref rs, .int (nI 1), .int f_ct, .int (nI cp)])), (d, .inr (1, [.ref h, .ref lk, .ref lv, .int (nI se)])), (lk, .inl (X.2.1, 60, .inl lkf)), (lv, .inl (X.2.1, 60, .inl lvf)), (ch, .inr (0, [.ref ck, .ref cv, .int (nI C.length)])), (ck, .inl (X.2.1, 60, .inl ckf)), (cv, .inl (X.2.1, 60, .inl cvf)), (h, .inr (2, [.ref hk, .ref hv, .int (nI Hm.length), .int (nI wh)])), (hk, .inl (X.2.1, 512, .inl hkf)), (hv, .inl (X.2.1, 512, .inl hvf))]) sz.heap sz.heap [] := va_S.rf
  have hl := lv_entry ([.ref a]) (n := 1) (Nat.le_of_ble_eq_true rfl)
  rw [lg_entry_eq]
  generalize (lg_sl ([.ref a]) ++ List.replicate (1 - (lg_sl ([.ref a])).length) Slot.unset).toArray = ls at hl ⊢
  have hl : lv_has ls 1 [(0, .ref a)] := hl
  have lk31 := hts (.fieldLink RX5 31 "PointStore" "disk" "LPointStore$Disk;") (by decide +kernel)
  have lk54 := hts (.fieldLink RX5 54 "PointStore" "changes" "LPointStore$Changes;") (by decide +kernel)
  have lk69 := hts (.fieldLink RX5 69 "PointStore" "cut" "I") (by decide +kernel)
  have lk162 := hts (.fieldLink RX5 162 "PointStore$Changes" "total" "I") (by decide +kernel)
  have hin0 : ∀ w ∈ u_ws RX0 TX0 3, w ∈ wsX5_writeChanges := by decide +kernel
  have hin5 : ∀ w ∈ u_ws RX5 TX5 12, w ∈ wsX5_writeChanges := by decide +kernel
  refine wQ (fun Q hQ => ?_)
  generalize hAe : inW [(a, .inr (5, [.int (nI bl), .int (nI bk), .int (nI sp), .ref d, .ref p, .ref t, .ref t2, .ref ch, .ref rs, .int (nI 1), .int f_ct, .int (nI cp)])), (d, .inr (1, [.ref h, .ref lk, .ref lv, .int (nI se)])), (lk, .inl (X.2.1, 60, .inl lkf)), (lv, .inl (X.2.1, 60, .inl lvf)), (ch, .inr (0, [.ref ck, .ref cv, .int (nI C.length)])), (ck, .inl (X.2.1, 60, .inl ckf)), (cv, .inl (X.2.1, 60, .inl cvf)), (h, .inr (2, [.ref hk, .ref hv, .int (nI Hm.length), .int (nI wh)])), (hk, .inl (X.2.1, 512, .inl hkf)), (hv, .inl (X.2.1, 512, .inl hvf))] = A_ at hD hS hQ
  refine lv_aload_n hx hb dX5_writeChanges_0 rfl (lv_at hl 0 rfl) ?_
  refine va_get (D := X.1) (ci := 5) (v := .int f_ct) (C := RX5) (T := TX5) (N := 12) hx hb hts hin5 hown hK hP 0 rfl rfl 10 (by decide) lk69 (fun _ h9 => h9) rfl dX5_writeChanges_1 ?_
  refine lv_if_ne (tgt := 28) hx hb dX5_writeChanges_4 (by decide) (fun c_4 => ?_) (fun c_4 => ?_)
  · skip
    refine lv_aload_n hx hb dX5_writeChanges_28 rfl (lv_at hl 0 rfl) ?_
    refine va_get (D := X.1) (ci := 5) (v := .ref d) (C := RX5) (T := TX5) (N := 12) hx hb hts hin5 hown hK hP 0 rfl rfl 3 (by decide) lk31 (fun _ h9 => h9) rfl dX5_writeChanges_29 ?_
    refine lv_aload_n hx hb dX5_writeChanges_32 rfl (lv_at hl 0 rfl) ?_
    refine va_get (D := X.1) (ci := 5) (v := .ref ch) (C := RX5) (T := TX5) (N := 12) hx hb hts hin5 hown hK hP 0 rfl rfl 7 (by decide) lk54 (fun _ h9 => h9) rfl dX5_writeChanges_33 ?_
    refine lv_sipush (v := nI 256) hx hb dX5_writeChanges_36 (by decide) ?_
    refine ckVv (As := [.ref ch, .int (nI 256)]) (rest := []) 0 [1, 2, 3, 4, 5, 6] (c_X1_writeLog l X d h lk lv se ch ck cv 256 lkf lvf ckf cvf C hc (Nat.le_refl 256)) ⟨hx, hb, hml, hown, hts⟩ (cwV 2 hts gX5_writeChanges_X1_writeLog rfl rfl rfl (by decide +kernel) ⟨Nat.le_of_ble_eq_true rfl, Nat.le_of_ble_eq_true rfl⟩) hK hN hP hD hS (by decide) rfl (ci := 1) rfl rfl (fun _ => rfl) rfl hl.1 rfl (Nat.le_of_ble_eq_true rfl) dX5_writeChanges_39 ⟨Nat.zero_le _, Nat.zero_le _⟩ (fun u_1 H locs hwl hP hD hS => ?_)
    obtain ⟨lk2, lv2⟩ := u_1
    have hP : va_P X.1 vwCl [(a, .inr (5, [.int (nI bl), .int (nI bk), .int (nI sp), .ref d, .ref p, .ref t, .ref t2, .ref ch, .ref rs, .int (nI 1), .int f_ct, .int (nI cp)])), (d, .inr (1, [.ref h, .ref lk, .ref lv, .int (nI se)])), (lk, .inl (X.2.1, 60, .inl lk2)), (lv, .inl (X.2.1, 60, .inl lv2)), (ch, .inr (0, [.ref ck, .ref cv, .int (nI C.length)])), (ck, .inl (X.2.1, 60, .inl ckf)), (cv, .inl (X.2.1, 60, .inl cvf)), (h, .inr (2, [.ref hk, .ref hv, .int (nI Hm.length), .int (nI wh)])), (hk, .inl (X.2.1, 512, .inl hkf)), (hv, .inl (X.2.1, 512, .inl hvf))] H := hP
    have hD : va_D A_ [(a, .inr (5, [.int (nI bl), .int (nI bk), .int (nI sp), .ref d, .ref p, .ref t, .ref t2, .ref ch, .ref rs, .int (nI 1), .int f_ct, .int (nI cp)])), (d, .inr (1, [.ref h, .ref lk, .ref lv, .int (nI se)])), (lk, .inl (X.2.1, 60, .inl lk2)), (lv, .inl (X.2.1, 60, .inl lv2)), (ch, .inr (0, [.ref ck, .ref cv, .int (nI C.length)])), (ck, .inl (X.2.1, 60, .inl ckf)), (cv, .inl (X.2.1, 60, .inl cvf)), (h, .inr (2, [.ref hk, .ref hv, .int (nI Hm.length), .int (nI wh)])), (hk, .inl (X.2.1, 512, .inl hkf)), (hv, .inl (X.2.1, 512, .inl hvf))] := hD
    try dsimp only at hwl
    refine lv_aload_n hx hb dX5_writeChanges_42 rfl (lv_at hl 0 rfl) ?_
    refine va_get (D := X.1) (ci := 5) (v := .ref d) (C := RX5) (T := TX5) (N := 12) hx hb hts hin5 hown hK hP 0 rfl rfl 3 (by decide) lk31 (fun _ h9 => h9) rfl dX5_writeChanges_43 ?_
    refine lv_aload_n hx hb dX5_writeChanges_46 rfl (lv_at hl 0 rfl) ?_
    refine va_get (D := X.1) (ci := 5) (v := .ref ch) (C := RX5) (T := TX5) (N := 12) hx hb hts hin5 hown hK hP 0 rfl rfl 7 (by decide) lk54 (fun _ h9 => h9) rfl dX5_writeChanges_47 ?_
    refine va_get (D := X.1) (ci := 0) (v := .int (nI C.length)) (C := RX0) (T := TX0) (N := 3) hx hb hts hin0 hown hK hP 4 rfl rfl 2 (by decide) lk162 (fun _ h9 => h9) rfl dX5_writeChanges_50 ?_
    refine ckVv (As := [.int (nI C.length)]) (rest := []) 0 [1] (c_X1_seal l X d h lk lv (nI se) C.length) ⟨hx, hb, hml, hown, hts⟩ (cwV 1 hts gX5_writeChanges_X1_seal rfl rfl rfl (by decide +kernel) ⟨Nat.le_of_ble_eq_true rfl, Nat.le_of_ble_eq_true rfl⟩) hK hN hP hD hS (by decide) rfl (ci := 1) rfl rfl (fun _ => rfl) rfl hl.1 rfl (Nat.le_of_ble_eq_true rfl) dX5_writeChanges_53 ⟨Nat.zero_le _, Nat.zero_le _⟩ (fun u_3 H locs hc_53 hP hD hS => ?_)
    have hP : va_P X.1 vwCl [(a, .inr (5, [.int (nI bl), .int (nI bk), .int (nI sp), .ref d, .ref p, .ref t, .ref t2, .ref ch, .ref rs, .int (nI 1), .int f_ct, .int (nI cp)])), (d, .inr (1, [.ref h, .ref lk, .ref lv, .int (nI C.length)])), (lk, .inl (X.2.1, 60, .inl lk2)), (lv, .inl (X.2.1, 60, .inl lv2)), (ch, .inr (0, [.ref ck, .ref cv, .int (nI C.length)])), (ck, .inl (X.2.1, 60, .inl ckf)), (cv, .inl (X.2.1, 60, .inl cvf)), (h, .inr (2, [.ref hk, .ref hv, .int (nI Hm.length), .int (nI wh)])), (hk, .inl (X.2.1, 512, .inl hkf)), (hv, .inl (X.2.1, 512, .inl hvf))] H := hP
    have hD : va_D A_ [(a, .inr (5, [.int (nI bl), .int (nI bk), .int (nI sp), .ref d, .ref p, .ref t, .ref t2, .ref ch, .ref rs, .int (nI 1), .int f_ct, .int (nI cp)])), (d, .inr (1, [.ref h, .ref lk, .ref lv, .int (nI C.length)])), (lk, .inl (X.2.1, 60, .inl lk2)), (lv, .inl (X.2.1, 60, .inl lv2)), (ch, .inr (0, [.ref ck, .ref cv, .int (nI C.length)])), (ck, .inl (X.2.1, 60, .inl ckf)), (cv, .inl (X.2.1, 60, .inl cvf)), (h, .inr (2, [.ref hk, .ref hv, .int (nI Hm.length), .int (nI wh)])), (hk, .inl (X.2.1, 512, .inl hkf)), (hv, .inl (X.2.1, 512, .inl hvf))] := hD
    refine lv_aload_n hx hb dX5_writeChanges_56 rfl (lv_at hl 0 rfl) ?_
    refine va_get (D := X.1) (ci := 5) (v := .int f_ct) (C := RX5) (T := TX5) (N := 12) hx hb hts hin5 hown hK hP 0 rfl rfl 10 (by decide) lk69 (fun _ h9 => h9) rfl dX5_writeChanges_57 ?_
    refine lv_iconst (v := nI 1) hx hb dX5_writeChanges_60 (by decide) ?_
    refine lv_icmp_ne (tgt := 81) hx hb dX5_writeChanges_61 (by decide) (fun c_61 => ?_) (fun c_61 => ?_)
    · skip
      refine lv_aload_n hx hb dX5_writeChanges_81 rfl (lv_at hl 0 rfl) ?_
      refine va_get (D := X.1) (ci := 5) (v := .ref d) (C := RX5) (T := TX5) (N := 12) hx hb hts hin5 hown hK hP 0 rfl rfl 3 (by decide) lk31 (fun _ h9 => h9) rfl dX5_writeChanges_82 ?_
      refine lv_sipush (v := nI 256) hx hb dX5_writeChanges_85 (by decide) ?_
      refine ckVv (As := [.int (nI 256)]) (rest := []) 0 [1, 2, 3, 7, 8, 9] (c_X1_writeHome l X d h lk lv hk hv wh 256 lk2 lv2 hkf hvf Hm C (hwl rfl) hp (Nat.le_refl 256) hcap) ⟨hx, hb, hml, hown, hts⟩ (cwV 1 hts gX5_writeChanges_X1_writeHome rfl rfl rfl (by decide +kernel) ⟨Nat.le_of_ble_eq_true rfl, Nat.le_of_ble_eq_true rfl⟩) hK hN hP hD hS (by decide) rfl (ci := 1) rfl rfl (fun _ => rfl) rfl hl.1 rfl (Nat.le_of_ble_eq_true rfl) dX5_writeChanges_88 ⟨Nat.zero_le _, Nat.zero_le _⟩ (fun u_5 H locs hwh hP hD hS => ?_)
      obtain ⟨hk2, hv2⟩ := u_5
      have hP : va_P X.1 vwCl [(a, .inr (5, [.int (nI bl), .int (nI bk), .int (nI sp), .ref d, .ref p, .ref t, .ref t2, .ref ch, .ref rs, .int (nI 1), .int f_ct, .int (nI cp)])), (d, .inr (1, [.ref h, .ref lk, .ref lv, .int (nI C.length)])), (lk, .inl (X.2.1, 60, .inl lk2)), (lv, .inl (X.2.1, 60, .inl lv2)), (ch, .inr (0, [.ref ck, .ref cv, .int (nI C.length)])), (ck, .inl (X.2.1, 60, .inl ckf)), (cv, .inl (X.2.1, 60, .inl cvf)), (h, .inr (2, [.ref hk, .ref hv, .int (nI ((apL Hm (C.take (C.length * 256 / 256))).length)), .int (nI (avL Hm wh (C.take (C.length * 256 / 256))))])), (hk, .inl (X.2.1, 512, .inl hk2)), (hv, .inl (X.2.1, 512, .inl hv2))] H := hP
      have hD : va_D A_ [(a, .inr (5, [.int (nI bl), .int (nI bk), .int (nI sp), .ref d, .ref p, .ref t, .ref t2, .ref ch, .ref rs, .int (nI 1), .int f_ct, .int (nI cp)])), (d, .inr (1, [.ref h, .ref lk, .ref lv, .int (nI C.length)])), (lk, .inl (X.2.1, 60, .inl lk2)), (lv, .inl (X.2.1, 60, .inl lv2)), (ch, .inr (0, [.ref ck, .ref cv, .int (nI C.length)])), (ck, .inl (X.2.1, 60, .inl ckf)), (cv, .inl (X.2.1, 60, .inl cvf)), (h, .inr (2, [.ref hk, .ref hv, .int (nI ((apL Hm (C.take (C.length * 256 / 256))).length)), .int (nI (avL Hm wh (C.take (C.length * 256 / 256))))])), (hk, .inl (X.2.1, 512, .inl hk2)), (hv, .inl (X.2.1, 512, .inl hv2))] := hD
      try dsimp only at hwh
      rw [take_256] at hP hD hwh
      have hP : va_P X.1 vwCl [(a, .inr (5, [.int (nI bl), .int (nI bk), .int (nI sp), .ref d, .ref p, .ref t, .ref t2, .ref ch, .ref rs, .int (nI 1), .int f_ct, .int (nI cp)])), (d, .inr (1, [.ref h, .ref lk, .ref lv, .int (nI C.length)])), (lk, .inl (X.2.1, 60, .inl lk2)), (lv, .inl (X.2.1, 60, .inl lv2)), (ch, .inr (0, [.ref ck, .ref cv, .int (nI C.length)])), (ck, .inl (X.2.1, 60, .inl ckf)), (cv, .inl (X.2.1, 60, .inl cvf)), (h, .inr (2, [.ref hk, .ref hv, .int (nI ((apL Hm C).length)), .int (nI (avL Hm wh C))])), (hk, .inl (X.2.1, 512, .inl hk2)), (hv, .inl (X.2.1, 512, .inl hv2))] _ := hP
      have hD : va_D A_ [(a, .inr (5, [.int (nI bl), .int (nI bk), .int (nI sp), .ref d, .ref p, .ref t, .ref t2, .ref ch, .ref rs, .int (nI 1), .int f_ct, .int (nI cp)])), (d, .inr (1, [.ref h, .ref lk, .ref lv, .int (nI C.length)])), (lk, .inl (X.2.1, 60, .inl lk2)), (lv, .inl (X.2.1, 60, .inl lv2)), (ch, .inr (0, [.ref ck, .ref cv, .int (nI C.length)])), (ck, .inl (X.2.1, 60, .inl ckf)), (cv, .inl (X.2.1, 60, .inl cvf)), (h, .inr (2, [.ref hk, .ref hv, .int (nI ((apL Hm C).length)), .int (nI (avL Hm wh C))])), (hk, .inl (X.2.1, 512, .inl hk2)), (hv, .inl (X.2.1, 512, .inl hv2))] := hD
      refine lv_aload_n hx hb dX5_writeChanges_91 rfl (lv_at hl 0 rfl) ?_
      refine va_get (D := X.1) (ci := 5) (v := .ref d) (C := RX5) (T := TX5) (N := 12) hx hb hts hin5 hown hK hP 0 rfl rfl 3 (by decide) lk31 (fun _ h9 => h9) rfl dX5_writeChanges_92 ?_
      refine ckVv (As := []) (rest := []) 0 [1] (c_X1_end l X d h lk lv (nI C.length)) ⟨hx, hb, hml, hown, hts⟩ (cwV 0 hts gX5_writeChanges_X1_end rfl rfl rfl (by decide +kernel) ⟨Nat.le_of_ble_eq_true rfl, Nat.le_of_ble_eq_true rfl⟩) hK hN hP hD hS (by decide) rfl (ci := 1) rfl rfl (fun _ => rfl) rfl hl.1 rfl (Nat.le_of_ble_eq_true rfl) dX5_writeChanges_95 ⟨Nat.zero_le _, Nat.zero_le _⟩ (fun u_7 H locs hc_95 hP hD hS => ?_)
      have hP : va_P X.1 vwCl [(a, .inr (5, [.int (nI bl), .int (nI bk), .int (nI sp), .ref d, .ref p, .ref t, .ref t2, .ref ch, .ref rs, .int (nI 1), .int f_ct, .int (nI cp)])), (d, .inr (1, [.ref h, .ref lk, .ref lv, .int (nI 0)])), (lk, .inl (X.2.1, 60, .inl lk2)), (lv, .inl (X.2.1, 60, .inl lv2)), (ch, .inr (0, [.ref ck, .ref cv, .int (nI C.length)])), (ck, .inl (X.2.1, 60, .inl ckf)), (cv, .inl (X.2.1, 60, .inl cvf)), (h, .inr (2, [.ref hk, .ref hv, .int (nI ((apL Hm C).length)), .int (nI (avL Hm wh C))])), (hk, .inl (X.2.1, 512, .inl hk2)), (hv, .inl (X.2.1, 512, .inl hv2))] H := hP
      have hD : va_D A_ [(a, .inr (5, [.int (nI bl), .int (nI bk), .int (nI sp), .ref d, .ref p, .ref t, .ref t2, .ref ch, .ref rs, .int (nI 1), .int f_ct, .int (nI cp)])), (d, .inr (1, [.ref h, .ref lk, .ref lv, .int (nI 0)])), (lk, .inl (X.2.1, 60, .inl lk2)), (lv, .inl (X.2.1, 60, .inl lv2)), (ch, .inr (0, [.ref ck, .ref cv, .int (nI C.length)])), (ck, .inl (X.2.1, 60, .inl ckf)), (cv, .inl (X.2.1, 60, .inl cvf)), (h, .inr (2, [.ref hk, .ref hv, .int (nI ((apL Hm C).length)), .int (nI (avL Hm wh C))])), (hk, .inl (X.2.1, 512, .inl hk2)), (hv, .inl (X.2.1, 512, .inl hv2))] := hD
      refine lv_iconst (v := nI 1) hx hb dX5_writeChanges_98 (by decide) ?_
      refine wM hQ ?_
      exact rtZ (lk2, lv2, hk2, hv2) hx hb hr hlocks (by decide) hP hS (⟨rfl, hwh⟩) dX5_writeChanges_99
    · skip
      exact absurd c_61 hn1
  · skip
    exact absurd c_4 hn0
set_option maxHeartbeats 4000000 in
set_option maxRecDepth 100000 in
theorem c_X5_commit_0 (l : Launch) (X : kX) (a d p t t2 ch rs sp bl bk cp : Nat) (f_ct : Int32) (ck cv : Nat) : CWi l X yX5_commit wsX5_commit 5 [.ref a] [(a, .inr (5, [.int (nI bl), .int (nI bk), .int (nI sp), .ref d, .ref p, .ref t, .ref t2, .ref ch, .ref rs, .int (nI 1), .int f_ct, .int (nI cp)])), (ch, .inr (0, [.ref ck, .ref cv, .int (nI 0)]))] (S := Unit) (fun r _ => r = nI 0) (fun _ => [(a, .inr (5, [.int (nI bl), .int (nI bk), .int (nI sp), .ref d, .ref p, .ref t, .ref t2, .ref ch, .ref rs, .int (nI 1), .int f_ct, .int (nI cp)])), (ch, .inr (0, [.ref ck, .ref cv, .int (nI 0)]))]) := by
  refine Met.ofW (cc := cX5_commit) (maxL := 2) (ret := some (.int)) (by decide) rfl ?_
  intro pz ez sz mz args below meth cz s₁ Bz hml hv
  obtain ⟨rfl, hP, hK, hD0, hN⟩ := hv
  have hx := Bz.exec
  have hb := Bz.bytes
  have hr := Bz.returns
  have hts := atoms_spec (ws := wsX5_commit) Bz.pre
  have hown : sz.vm.findClass RX5 = some mz.cls := findClass_of_methodNamed Bz.named
  have hlocks := Bz.notSynchronized
  have hD := inW.self hD0
  have hS : va_S (inW [(a, .inr (5, [.int (nI bl), .int (nI bk), .int (nI sp), .ref d, .ref p, .ref t, .ref t2, .ref ch, .ref rs, .int (nI 1), .int f_ct, .int (nI cp)])), (ch, .inr (0, [.ref ck, .ref cv, .int (nI 0)]))]) sz.heap sz.heap [] := va_S.rf
  have hl := lv_entry ([.ref a]) (n := 2) (Nat.le_of_ble_eq_true rfl)
  rw [lg_entry_eq]
  generalize (lg_sl ([.ref a]) ++ List.replicate (2 - (lg_sl ([.ref a])).length) Slot.unset).toArray = ls at hl ⊢
  have hl : lv_has ls 2 [(0, .ref a)] := hl
  have lk54 := hts (.fieldLink RX5 54 "PointStore" "changes" "LPointStore$Changes;") (by decide +kernel)
  have lk65 := hts (.fieldLink RX5 65 "PointStore" "powered" "Z") (by decide +kernel)
  have lk162 := hts (.fieldLink RX5 162 "PointStore$Changes" "total" "I") (by decide +kernel)
  have hin0 : ∀ w ∈ u_ws RX0 TX0 3, w ∈ wsX5_commit := by decide +kernel
  have hin5 : ∀ w ∈ u_ws RX5 TX5 12, w ∈ wsX5_commit := by decide +kernel
  refine wQ (fun Q hQ => ?_)
  generalize hAe : inW [(a, .inr (5, [.int (nI bl), .int (nI bk), .int (nI sp), .ref d, .ref p, .ref t, .ref t2, .ref ch, .ref rs, .int (nI 1), .int f_ct, .int (nI cp)])), (ch, .inr (0, [.ref ck, .ref cv, .int (nI 0)]))] = A_ at hD hS hQ
  refine lv_aload_n hx hb dX5_commit_0 rfl (lv_at hl 0 rfl) ?_
  refine va_get (D := X.1) (ci := 5) (v := .int (nI 1)) (C := RX5) (T := TX5) (N := 12) hx hb hts hin5 hown hK hP 0 rfl rfl 9 (by decide) lk65 (fun _ h9 => h9) rfl dX5_commit_1 ?_
  refine lv_if_ne (tgt := 10) hx hb dX5_commit_4 (by decide) (fun c_4 => ?_) (fun c_4 => ?_)
  · skip
    refine lv_aload_n hx hb dX5_commit_10 rfl (lv_at hl 0 rfl) ?_
    refine va_get (D := X.1) (ci := 5) (v := .ref ch) (C := RX5) (T := TX5) (N := 12) hx hb hts hin5 hown hK hP 0 rfl rfl 7 (by decide) lk54 (fun _ h9 => h9) rfl dX5_commit_11 ?_
    refine va_get (D := X.1) (ci := 0) (v := .int (nI 0)) (C := RX0) (T := TX0) (N := 3) hx hb hts hin0 hown hK hP 1 rfl rfl 2 (by decide) lk162 (fun _ h9 => h9) rfl dX5_commit_14 ?_
    refine lv_istore_n (lv' := [(1, .int (nI 0)), (0, .ref a)]) hx hb dX5_commit_17 rfl hl (by decide) rfl (fun ls hl => ?_)
    refine lv_iload_n hx hb dX5_commit_18 rfl (lv_at hl 0 rfl) ?_
    refine lv_if_le (tgt := 32) hx hb dX5_commit_19 (by decide) (fun c_19 => ?_) (fun c_19 => ?_)
    · skip
      refine lv_aload_n hx hb dX5_commit_32 rfl (lv_at hl 1 rfl) ?_
      refine va_get (D := X.1) (ci := 5) (v := .ref ch) (C := RX5) (T := TX5) (N := 12) hx hb hts hin5 hown hK hP 0 rfl rfl 7 (by decide) lk54 (fun _ h9 => h9) rfl dX5_commit_33 ?_
      refine ckVv (As := []) (rest := []) 0 [1] (c_X0_clear l X ch ck cv (nI 0)) ⟨hx, hb, hml, hown, hts⟩ (cwV 0 hts gX5_commit_X0_clear rfl rfl rfl (by decide +kernel) ⟨Nat.le_of_ble_eq_true rfl, Nat.le_of_ble_eq_true rfl⟩) hK hN hP hD hS (by decide) rfl (ci := 0) rfl rfl (fun _ => rfl) rfl hl.1 rfl (Nat.le_of_ble_eq_true rfl) dX5_commit_36 ⟨Nat.zero_le _, Nat.zero_le _⟩ (fun u_1 H locs hc_36 hP hD hS => ?_)
      have hP : va_P X.1 vwCl [(a, .inr (5, [.int (nI bl), .int (nI bk), .int (nI sp), .ref d, .ref p, .ref t, .ref t2, .ref ch, .ref rs, .int (nI 1), .int f_ct, .int (nI cp)])), (ch, .inr (0, [.ref ck, .ref cv, .int (nI 0)]))] H := hP
      have hD : va_D A_ [(a, .inr (5, [.int (nI bl), .int (nI bk), .int (nI sp), .ref d, .ref p, .ref t, .ref t2, .ref ch, .ref rs, .int (nI 1), .int f_ct, .int (nI cp)])), (ch, .inr (0, [.ref ck, .ref cv, .int (nI 0)]))] := hD
      refine lv_iload_n hx hb dX5_commit_39 rfl (lv_at hl 0 rfl) ?_
      refine wM hQ ?_
      exact rtI () hx hb hr hlocks hP hS (rfl) dX5_commit_40
    · exact absurd c_19 (by decide)
  · exact absurd c_4 (by decide)
set_option maxHeartbeats 4000000 in
set_option maxRecDepth 100000 in
theorem c_X5_commit_a (l : Launch) (X : kX) (a d p t t2 ch rs sp bl bk cp : Nat)  (h lk lv se pk pv n w ck cv rk_ rv rd nr : Nat) (lkf lvf ckf cvf : Nat → Int32) (C : List Op) (hc : chOk ckf cvf C) (hcp : cp ≤ 256) (hC0 : 0 < C.length) : CWi l X yX5_commit wsX5_commit 5 [.ref a] [(a, .inr (5, [.int (nI bl), .int (nI bk), .int (nI sp), .ref d, .ref p, .ref t, .ref t2, .ref ch, .ref rs, .int (nI 1), .int (nI 0), .int (nI cp)])), (d, .inr (1, [.ref h, .ref lk, .ref lv, .int (nI se)])), (lk, .inl (X.2.1, 60, .inl lkf)), (lv, .inl (X.2.1, 60, .inl lvf)), (ch, .inr (0, [.ref ck, .ref cv, .int (nI C.length)])), (ck, .inl (X.2.1, 60, .inl ckf)), (cv, .inl (X.2.1, 60, .inl cvf)), (p, .inr (2, [.ref pk, .ref pv, .int (nI n), .int (nI w)])), (rs, .inr (3, [.ref rk_, .ref rv, .ref rd, .int (nI nr)]))] (S := (Nat → Int32) × (Nat → Int32)) (fun r _ => r = -2) (fun ⟨lk2, lv2⟩ => [(a, .inr (5, [.int (nI bl), .int (nI bk), .int (nI sp), .ref d, .ref p, .ref t, .ref t2, .ref ch, .ref rs, .int (nI 0), .int (-1), .int (nI cp)])), (d, .inr (1, [.ref h, .ref lk, .ref lv, .int (nI se)])), (lk, .inl (X.2.1, 60, .inl lk2)), (lv, .inl (X.2.1, 60, .inl lv2)), (ch, .inr (0, [.ref ck, .ref cv, .int (nI 0)])), (ck, .inl (X.2.1, 60, .inl ckf)), (cv, .inl (X.2.1, 60, .inl cvf)), (p, .inr (2, [.ref pk, .ref pv, .int (nI 0), .int (nI (w + 1))])), (rs, .inr (3, [.ref rk_, .ref rv, .ref rd, .int (nI 0)]))]) := by
  refine Met.ofW (cc := cX5_commit) (maxL := 2) (ret := some (.int)) (by decide) rfl ?_
  intro pz ez sz mz args below meth cz s₁ Bz hml hv
  obtain ⟨rfl, hP, hK, hD0, hN⟩ := hv
  have hx := Bz.exec
  have hb := Bz.bytes
  have hr := Bz.returns
  have hts := atoms_spec (ws := wsX5_commit) Bz.pre
  have hown : sz.vm.findClass RX5 = some mz.cls := findClass_of_methodNamed Bz.named
  have hlocks := Bz.notSynchronized
  have hD := inW.self hD0
  have hS : va_S (inW [(a, .inr (5, [.int (nI bl), .int (nI bk), .int (nI sp), .ref d, .ref p, .ref t, .ref t2, .ref ch, .ref rs, .int (nI 1), .int (nI 0), .int (nI cp)])), (d, .inr (1, [.ref h, .ref lk, .ref lv, .int (nI se)])), (lk, .inl (X.2.1, 60, .inl lkf)), (lv, .inl (X.2.1, 60, .inl lvf)), (ch, .inr (0, [.ref ck, .ref cv, .int (nI C.length)])), (ck, .inl (X.2.1, 60, .inl ckf)), (cv, .inl (X.2.1, 60, .inl cvf)), (p, .inr (2, [.ref pk, .ref pv, .int (nI n), .int (nI w)])), (rs, .inr (3, [.ref rk_, .ref rv, .ref rd, .int (nI nr)]))]) sz.heap sz.heap [] := va_S.rf
  have hl := lv_entry ([.ref a]) (n := 2) (Nat.le_of_ble_eq_true rfl)
  rw [lg_entry_eq]
  generalize (lg_sl ([.ref a]) ++ List.replicate (2 - (lg_sl ([.ref a])).length) Slot.unset).toArray = ls at hl ⊢
  have hl : lv_has ls 2 [(0, .ref a)] := hl
  have lk54 := hts (.fieldLink RX5 54 "PointStore" "changes" "LPointStore$Changes;") (by decide +kernel)
  have lk65 := hts (.fieldLink RX5 65 "PointStore" "powered" "Z") (by decide +kernel)
  have lk162 := hts (.fieldLink RX5 162 "PointStore$Changes" "total" "I") (by decide +kernel)
  have hin0 : ∀ w ∈ u_ws RX0 TX0 3, w ∈ wsX5_commit := by decide +kernel
  have hin5 : ∀ w ∈ u_ws RX5 TX5 12, w ∈ wsX5_commit := by decide +kernel
  refine wQ (fun Q hQ => ?_)
  generalize hAe : inW [(a, .inr (5, [.int (nI bl), .int (nI bk), .int (nI sp), .ref d, .ref p, .ref t, .ref t2, .ref ch, .ref rs, .int (nI 1), .int (nI 0), .int (nI cp)])), (d, .inr (1, [.ref h, .ref lk, .ref lv, .int (nI se)])), (lk, .inl (X.2.1, 60, .inl lkf)), (lv, .inl (X.2.1, 60, .inl lvf)), (ch, .inr (0, [.ref ck, .ref cv, .int (nI C.length)])), (ck, .inl (X.2.1, 60, .inl ckf)), (cv, .inl (X.2.1, 60, .inl cvf)), (p, .inr (2, [.ref pk, .ref pv, .int (nI n), .int (nI w)])), (rs, .inr (3, [.ref rk_, .ref rv, .ref rd, .int (nI nr)]))] = A_ at hD hS hQ
  have hC := hc.1
  refine lv_aload_n hx hb dX5_commit_0 rfl (lv_at hl 0 rfl) ?_
  refine va_get (D := X.1) (ci := 5) (v := .int (nI 1)) (C := RX5) (T := TX5) (N := 12) hx hb hts hin5 hown hK hP 0 rfl rfl 9 (by decide) lk65 (fun _ h9 => h9) rfl dX5_commit_1 ?_
  refine lv_if_ne (tgt := 10) hx hb dX5_commit_4 (by decide) (fun c_4 => ?_) (fun c_4 => ?_)
  · skip
    refine lv_aload_n hx hb dX5_commit_10 rfl (lv_at hl 0 rfl) ?_
    refine va_get (D := X.1) (ci := 5) (v := .ref ch) (C := RX5) (T := TX5) (N := 12) hx hb hts hin5 hown hK hP 0 rfl rfl 7 (by decide) lk54 (fun _ h9 => h9) rfl dX5_commit_11 ?_
    refine va_get (D := X.1) (ci := 0) (v := .int (nI C.length)) (C := RX0) (T := TX0) (N := 3) hx hb hts hin0 hown hK hP 4 rfl rfl 2 (by decide) lk162 (fun _ h9 => h9) rfl dX5_commit_14 ?_
    refine lv_istore_n (lv' := [(1, .int (nI C.length)), (0, .ref a)]) hx hb dX5_commit_17 rfl hl (by decide) rfl (fun ls hl => ?_)
    refine lv_iload_n hx hb dX5_commit_18 rfl (lv_at hl 0 rfl) ?_
    refine lv_if_le (tgt := 32) hx hb dX5_commit_19 (by decide) (fun c_19 => ?_) (fun c_19 => ?_)
    · change nI C.length ≤ nI 0 at c_19
      replace c_19 : C.length ≤ 0 := (nI_leI (by omega) (by omega)).mp c_19
      omega
    · change ¬ (nI C.length ≤ nI 0) at c_19
      replace c_19 : ¬ C.length ≤ 0 := fun h9 => c_19 ((nI_leI (by omega) (by omega)).mpr h9)
      refine lv_aload_n hx hb dX5_commit_22 rfl (lv_at hl 1 rfl) ?_
      refine ckVi (As := []) (rest := []) 0 [0, 1, 2, 3, 4, 5, 6, 7, 8] (c_X5_writeChanges_a l X a d p t t2 ch rs sp bl bk cp h lk lv se pk pv n w ck cv rk_ rv rd nr lkf lvf ckf cvf C hc hcp) ⟨hx, hb, hml, hown, hts⟩ (cwV 0 hts gX5_commit_X5_writeChanges rfl rfl rfl (by decide +kernel) ⟨Nat.le_of_ble_eq_true rfl, Nat.le_of_ble_eq_true rfl⟩) hK hN hP hD hS (by decide) rfl (ci := 5) rfl rfl (fun _ => rfl) rfl hl.1 rfl (Nat.le_of_ble_eq_true rfl) dX5_commit_23 ⟨Nat.zero_le _, Nat.zero_le _⟩ (fun r_2 u_1 H locs hc_23 hP hD hS => ?_)
      obtain ⟨lk2, lv2⟩ := u_1
      have hP : va_P X.1 vwCl [(a, .inr (5, [.int (nI bl), .int (nI bk), .int (nI sp), .ref d, .ref p, .ref t, .ref t2, .ref ch, .ref rs, .int (nI 0), .int (-1), .int (nI cp)])), (d, .inr (1, [.ref h, .ref lk, .ref lv, .int (nI se)])), (lk, .inl (X.2.1, 60, .inl lk2)), (lv, .inl (X.2.1, 60, .inl lv2)), (ch, .inr (0, [.ref ck, .ref cv, .int (nI 0)])), (ck, .inl (X.2.1, 60, .inl ckf)), (cv, .inl (X.2.1, 60, .inl cvf)), (p, .inr (2, [.ref pk, .ref pv, .int (nI 0), .int (nI (w + 1))])), (rs, .inr (3, [.ref rk_, .ref rv, .ref rd, .int (nI 0)]))] H := hP
      have hD : va_D A_ [(a, .inr (5, [.int (nI bl), .int (nI bk), .int (nI sp), .ref d, .ref p, .ref t, .ref t2, .ref ch, .ref rs, .int (nI 0), .int (-1), .int (nI cp)])), (d, .inr (1, [.ref h, .ref lk, .ref lv, .int (nI se)])), (lk, .inl (X.2.1, 60, .inl lk2)), (lv, .inl (X.2.1, 60, .inl lv2)), (ch, .inr (0, [.ref ck, .ref cv, .int (nI 0)])), (ck, .inl (X.2.1, 60, .inl ckf)), (cv, .inl (X.2.1, 60, .inl cvf)), (p, .inr (2, [.ref pk, .ref pv, .int (nI 0), .int (nI (w + 1))])), (rs, .inr (3, [.ref rk_, .ref rv, .ref rd, .int (nI 0)]))] := hD
      try dsimp only at hc_23
      obtain rfl := hc_23
      · skip
        skip
        refine lv_if_ne (tgt := 32) hx hb dX5_commit_26 (by decide) (fun c_26 => ?_) (fun c_26 => ?_)
        · exact absurd c_26 (by decide)
        · skip
          refine lv_bipush (v := (-2)) hx hb dX5_commit_29 (by decide) ?_
          refine wM hQ ?_
          exact rtI (lk2, lv2) hx hb hr hlocks hP hS (rfl) dX5_commit_31
  · exact absurd c_4 (by decide)
set_option maxHeartbeats 4000000 in
set_option maxRecDepth 100000 in
theorem c_X5_commit_b (l : Launch) (X : kX) (a d p t t2 ch rs sp bl bk cp : Nat)  (h lk lv se pk pv n w ck cv rk_ rv rd nr : Nat) (hk hv wh : Nat) (lkf lvf ckf cvf hkf hvf : Nat → Int32) (C : List Op) (Hm : PL) (hc : chOk ckf cvf C) (hp : ptOk hkf hvf Hm) (hcp : cp ≤ 256) (hcap : ∀ j, j ≤ C.length → (apL Hm (C.take j)).length ≤ 512) (hC0 : 0 < C.length) : CWi l X yX5_commit wsX5_commit 5 [.ref a] [(a, .inr (5, [.int (nI bl), .int (nI bk), .int (nI sp), .ref d, .ref p, .ref t, .ref t2, .ref ch, .ref rs, .int (nI 1), .int (nI 1), .int (nI cp)])), (d, .inr (1, [.ref h, .ref lk, .ref lv, .int (nI se)])), (lk, .inl (X.2.1, 60, .inl lkf)), (lv, .inl (X.2.1, 60, .inl lvf)), (ch, .inr (0, [.ref ck, .ref cv, .int (nI C.length)])), (ck, .inl (X.2.1, 60, .inl ckf)), (cv, .inl (X.2.1, 60, .inl cvf)), (h, .inr (2, [.ref hk, .ref hv, .int (nI Hm.length), .int (nI wh)])), (hk, .inl (X.2.1, 512, .inl hkf)), (hv, .inl (X.2.1, 512, .inl hvf)), (p, .inr (2, [.ref pk, .ref pv, .int (nI n), .int (nI w)])), (rs, .inr (3, [.ref rk_, .ref rv, .ref rd, .int (nI nr)]))] (S := (Nat → Int32) × (Nat → Int32) × (Nat → Int32) × (Nat → Int32)) (fun r u => r = -2 ∧ chOk u.1 u.2.1 C ∧ ptOk u.2.2.1 u.2.2.2 (apL Hm (C.take (C.length * cp / 256)))) (fun ⟨lk2, lv2, hk2, hv2⟩ => [(a, .inr (5, [.int (nI bl), .int (nI bk), .int (nI sp), .ref d, .ref p, .ref t, .ref t2, .ref ch, .ref rs, .int (nI 0), .int (-1), .int (nI cp)])), (d, .inr (1, [.ref h, .ref lk, .ref lv, .int (nI C.length)])), (lk, .inl (X.2.1, 60, .inl lk2)), (lv, .inl (X.2.1, 60, .inl lv2)), (ch, .inr (0, [.ref ck, .ref cv, .int (nI 0)])), (ck, .inl (X.2.1, 60, .inl ckf)), (cv, .inl (X.2.1, 60, .inl cvf)), (h, .inr (2, [.ref hk, .ref hv, .int (nI ((apL Hm (C.take (C.length * cp / 256))).length)), .int (nI (avL Hm wh (C.take (C.length * cp / 256))))])), (hk, .inl (X.2.1, 512, .inl hk2)), (hv, .inl (X.2.1, 512, .inl hv2)), (p, .inr (2, [.ref pk, .ref pv, .int (nI 0), .int (nI (w + 1))])), (rs, .inr (3, [.ref rk_, .ref rv, .ref rd, .int (nI 0)]))]) := by
  refine Met.ofW (cc := cX5_commit) (maxL := 2) (ret := some (.int)) (by decide) rfl ?_
  intro pz ez sz mz args below meth cz s₁ Bz hml hv
  obtain ⟨rfl, hP, hK, hD0, hN⟩ := hv
  have hx := Bz.exec
  have hb := Bz.bytes
  have hr := Bz.returns
  have hts := atoms_spec (ws := wsX5_commit) Bz.pre
  have hown : sz.vm.findClass RX5 = some mz.cls := findClass_of_methodNamed Bz.named
  have hlocks := Bz.notSynchronized
  have hD := inW.self hD0
  have hS : va_S (inW [(a, .inr (5, [.int (nI bl), .int (nI bk), .int (nI sp), .ref d, .ref p, .ref t, .ref t2, .ref ch, .ref rs, .int (nI 1), .int (nI 1), .int (nI cp)])), (d, .inr (1, [.ref h, .ref lk, .ref lv, .int (nI se)])), (lk, .inl (X.2.1, 60, .inl lkf)), (lv, .inl (X.2.1, 60, .inl lvf)), (ch, .inr (0, [.ref ck, .ref cv, .int (nI C.length)])), (ck, .inl (X.2.1, 60, .inl ckf)), (cv, .inl (X.2.1, 60, .inl cvf)), (h, .inr (2, [.ref hk, .ref hv, .int (nI Hm.length), .int (nI wh)])), (hk, .inl (X.2.1, 512, .inl hkf)), (hv, .inl (X.2.1, 512, .inl hvf)), (p, .inr (2, [.ref pk, .ref pv, .int (nI n), .int (nI w)])), (rs, .inr (3, [.ref rk_, .ref rv, .ref rd, .int (nI nr)]))]) sz.heap sz.heap [] := va_S.rf
  have hl := lv_entry ([.ref a]) (n := 2) (Nat.le_of_ble_eq_true rfl)
  rw [lg_entry_eq]
  generalize (lg_sl ([.ref a]) ++ List.replicate (2 - (lg_sl ([.ref a])).length) Slot.unset).toArray = ls at hl ⊢
  have hl : lv_has ls 2 [(0, .ref a)] := hl
  have lk54 := hts (.fieldLink RX5 54 "PointStore" "changes" "LPointStore$Changes;") (by decide +kernel)
  have lk65 := hts (.fieldLink RX5 65 "PointStore" "powered" "Z") (by decide +kernel)
  have lk162 := hts (.fieldLink RX5 162 "PointStore$Changes" "total" "I") (by decide +kernel)
  have hin0 : ∀ w ∈ u_ws RX0 TX0 3, w ∈ wsX5_commit := by decide +kernel
  have hin5 : ∀ w ∈ u_ws RX5 TX5 12, w ∈ wsX5_commit := by decide +kernel
  refine wQ (fun Q hQ => ?_)
  generalize hAe : inW [(a, .inr (5, [.int (nI bl), .int (nI bk), .int (nI sp), .ref d, .ref p, .ref t, .ref t2, .ref ch, .ref rs, .int (nI 1), .int (nI 1), .int (nI cp)])), (d, .inr (1, [.ref h, .ref lk, .ref lv, .int (nI se)])), (lk, .inl (X.2.1, 60, .inl lkf)), (lv, .inl (X.2.1, 60, .inl lvf)), (ch, .inr (0, [.ref ck, .ref cv, .int (nI C.length)])), (ck, .inl (X.2.1, 60, .inl ckf)), (cv, .inl (X.2.1, 60, .inl cvf)), (h, .inr (2, [.ref hk, .ref hv, .int (nI Hm.length), .int (nI wh)])), (hk, .inl (X.2.1, 512, .inl hkf)), (hv, .inl (X.2.1, 512, .inl hvf)), (p, .inr (2, [.ref pk, .ref pv, .int (nI n), .int (nI w)])), (rs, .inr (3, [.ref rk_, .ref rv, .ref rd, .int (nI nr)]))] = A_ at hD hS hQ
  have hC := hc.1
  refine lv_aload_n hx hb dX5_commit_0 rfl (lv_at hl 0 rfl) ?_
  refine va_get (D := X.1) (ci := 5) (v := .int (nI 1)) (C := RX5) (T := TX5) (N := 12) hx hb hts hin5 hown hK hP 0 rfl rfl 9 (by decide) lk65 (fun _ h9 => h9) rfl dX5_commit_1 ?_
  refine lv_if_ne (tgt := 10) hx hb dX5_commit_4 (by decide) (fun c_4 => ?_) (fun c_4 => ?_)
  · skip
    refine lv_aload_n hx hb dX5_commit_10 rfl (lv_at hl 0 rfl) ?_
    refine va_get (D := X.1) (ci := 5) (v := .ref ch) (C := RX5) (T := TX5) (N := 12) hx hb hts hin5 hown hK hP 0 rfl rfl 7 (by decide) lk54 (fun _ h9 => h9) rfl dX5_commit_11 ?_
    refine va_get (D := X.1) (ci := 0) (v := .int (nI C.length)) (C := RX0) (T := TX0) (N := 3) hx hb hts hin0 hown hK hP 4 rfl rfl 2 (by decide) lk162 (fun _ h9 => h9) rfl dX5_commit_14 ?_
    refine lv_istore_n (lv' := [(1, .int (nI C.length)), (0, .ref a)]) hx hb dX5_commit_17 rfl hl (by decide) rfl (fun ls hl => ?_)
    refine lv_iload_n hx hb dX5_commit_18 rfl (lv_at hl 0 rfl) ?_
    refine lv_if_le (tgt := 32) hx hb dX5_commit_19 (by decide) (fun c_19 => ?_) (fun c_19 => ?_)
    · change nI C.length ≤ nI 0 at c_19
      replace c_19 : C.length ≤ 0 := (nI_leI (by omega) (by omega)).mp c_19
      omega
    · change ¬ (nI C.length ≤ nI 0) at c_19
      replace c_19 : ¬ C.length ≤ 0 := fun h9 => c_19 ((nI_leI (by omega) (by omega)).mpr h9)
      refine lv_aload_n hx hb dX5_commit_22 rfl (lv_at hl 1 rfl) ?_
      refine ckVi (As := []) (rest := []) 0 [0, 1, 2, 3, 4, 5, 6, 7, 8, 9, 10, 11] (c_X5_writeChanges_b l X a d p t t2 ch rs sp bl bk cp h lk lv se pk pv n w ck cv rk_ rv rd nr hk hv wh lkf lvf ckf cvf hkf hvf C Hm hc hp hcp hcap) ⟨hx, hb, hml, hown, hts⟩ (cwV 0 hts gX5_commit_X5_writeChanges rfl rfl rfl (by decide +kernel) ⟨Nat.le_of_ble_eq_true rfl, Nat.le_of_ble_eq_true rfl⟩) hK hN hP hD hS (by decide) rfl (ci := 5) rfl rfl (fun _ => rfl) rfl hl.1 rfl (Nat.le_of_ble_eq_true rfl) dX5_commit_23 ⟨Nat.zero_le _, Nat.zero_le _⟩ (fun r_2 u_1 H locs hc_23 hP hD hS => ?_)
      obtain ⟨lk2, lv2, hk2, hv2⟩ := u_1
      have hP : va_P X.1 vwCl [(a, .inr (5, [.int (nI bl), .int (nI bk), .int (nI sp), .ref d, .ref p, .ref t, .ref t2, .ref ch, .ref rs, .int (nI 0), .int (-1), .int (nI cp)])), (d, .inr (1, [.ref h, .ref lk, .ref lv, .int (nI C.length)])), (lk, .inl (X.2.1, 60, .inl lk2)), (lv, .inl (X.2.1, 60, .inl lv2)), (ch, .inr (0, [.ref ck, .ref cv, .int (nI 0)])), (ck, .inl (X.2.1, 60, .inl ckf)), (cv, .inl (X.2.1, 60, .inl cvf)), (h, .inr (2, [.ref hk, .ref hv, .int (nI ((apL Hm (C.take (C.length * cp / 256))).length)), .int (nI (avL Hm wh (C.take (C.length * cp / 256))))])), (hk, .inl (X.2.1, 512, .inl hk2)), (hv, .inl (X.2.1, 512, .inl hv2)), (p, .inr (2, [.ref pk, .ref pv, .int (nI 0), .int (nI (w + 1))])), (rs, .inr (3, [.ref rk_, .ref rv, .ref rd, .int (nI 0)]))] H := hP
      have hD : va_D A_ [(a, .inr (5, [.int (nI bl), .int (nI bk), .int (nI sp), .ref d, .ref p, .ref t, .ref t2, .ref ch, .ref rs, .int (nI 0), .int (-1), .int (nI cp)])), (d, .inr (1, [.ref h, .ref lk, .ref lv, .int (nI C.length)])), (lk, .inl (X.2.1, 60, .inl lk2)), (lv, .inl (X.2.1, 60, .inl lv2)), (ch, .inr (0, [.ref ck, .ref cv, .int (nI 0)])), (ck, .inl (X.2.1, 60, .inl ckf)), (cv, .inl (X.2.1, 60, .inl cvf)), (h, .inr (2, [.ref hk, .ref hv, .int (nI ((apL Hm (C.take (C.length * cp / 256))).length)), .int (nI (avL Hm wh (C.take (C.length * cp / 256))))])), (hk, .inl (X.2.1, 512, .inl hk2)), (hv, .inl (X.2.1, 512, .inl hv2)), (p, .inr (2, [.ref pk, .ref pv, .int (nI 0), .int (nI (w + 1))])), (rs, .inr (3, [.ref rk_, .ref rv, .ref rd, .int (nI 0)]))] := hD
      try dsimp only at hc_23
      obtain ⟨rfl, hq1, hq2⟩ := hc_23
      · skip
        skip
        refine lv_if_ne (tgt := 32) hx hb dX5_commit_26 (by decide) (fun c_26 => ?_) (fun c_26 => ?_)
        · exact absurd c_26 (by decide)
        · skip
          refine lv_bipush (v := (-2)) hx hb dX5_commit_29 (by decide) ?_
          refine wM hQ ?_
          exact rtI (lk2, lv2, hk2, hv2) hx hb hr hlocks hP hS (⟨rfl, hq1, hq2⟩) dX5_commit_31
  · exact absurd c_4 (by decide)
set_option maxHeartbeats 4000000 in
set_option maxRecDepth 100000 in
theorem c_X5_commit_n (l : Launch) (X : kX) (a d p t t2 ch rs sp bl bk cp : Nat) (f_ct : Int32) (h lk lv se ck cv : Nat) (hk hv wh : Nat) (lkf lvf ckf cvf hkf hvf : Nat → Int32) (C : List Op) (Hm : PL) (hc : chOk ckf cvf C) (hp : ptOk hkf hvf Hm) (hcap : ∀ j, j ≤ C.length → (apL Hm (C.take j)).length ≤ 512) (hn0 : ¬ f_ct = 0) (hn1 : ¬ f_ct = nI 1) (hC0 : 0 < C.length) : CWi l X yX5_commit wsX5_commit 5 [.ref a] [(a, .inr (5, [.int (nI bl), .int (nI bk), .int (nI sp), .ref d, .ref p, .ref t, .ref t2, .ref ch, .ref rs, .int (nI 1), .int f_ct, .int (nI cp)])), (d, .inr (1, [.ref h, .ref lk, .ref lv, .int (nI se)])), (lk, .inl (X.2.1, 60, .inl lkf)), (lv, .inl (X.2.1, 60, .inl lvf)), (ch, .inr (0, [.ref ck, .ref cv, .int (nI C.length)])), (ck, .inl (X.2.1, 60, .inl ckf)), (cv, .inl (X.2.1, 60, .inl cvf)), (h, .inr (2, [.ref hk, .ref hv, .int (nI Hm.length), .int (nI wh)])), (hk, .inl (X.2.1, 512, .inl hkf)), (hv, .inl (X.2.1, 512, .inl hvf))] (S := (Nat → Int32) × (Nat → Int32) × (Nat → Int32) × (Nat → Int32)) (fun r u => r = nI C.length ∧ ptOk u.2.2.1 u.2.2.2 (apL Hm C)) (fun ⟨lk2, lv2, hk2, hv2⟩ => [(a, .inr (5, [.int (nI bl), .int (nI bk), .int (nI sp), .ref d, .ref p, .ref t, .ref t2, .ref ch, .ref rs, .int (nI 1), .int f_ct, .int (nI cp)])), (d, .inr (1, [.ref h, .ref lk, .ref lv, .int (nI 0)])), (lk, .inl (X.2.1, 60, .inl lk2)), (lv, .inl (X.2.1, 60, .inl lv2)), (ch, .inr (0, [.ref ck, .ref cv, .int (nI 0)])), (ck, .inl (X.2.1, 60, .inl ckf)), (cv, .inl (X.2.1, 60, .inl cvf)), (h, .inr (2, [.ref hk, .ref hv, .int (nI ((apL Hm C).length)), .int (nI (avL Hm wh C))])), (hk, .inl (X.2.1, 512, .inl hk2)), (hv, .inl (X.2.1, 512, .inl hv2))]) := by
  refine Met.ofW (cc := cX5_commit) (maxL := 2) (ret := some (.int)) (by decide) rfl ?_
  intro pz ez sz mz args below meth cz s₁ Bz hml hv
  obtain ⟨rfl, hP, hK, hD0, hN⟩ := hv
  have hx := Bz.exec
  have hb := Bz.bytes
  have hr := Bz.returns
  have hts := atoms_spec (ws := wsX5_commit) Bz.pre
  have hown : sz.vm.findClass RX5 = some mz.cls := findClass_of_methodNamed Bz.named
  have hlocks := Bz.notSynchronized
  have hD := inW.self hD0
  have hS : va_S (inW [(a, .inr (5, [.int (nI bl), .int (nI bk), .int (nI sp), .ref d, .ref p, .ref t, .ref t2, .ref ch, .ref rs, .int (nI 1), .int f_ct, .int (nI cp)])), (d, .inr (1, [.ref h, .ref lk, .ref lv, .int (nI se)])), (lk, .inl (X.2.1, 60, .inl lkf)), (lv, .inl (X.2.1, 60, .inl lvf)), (ch, .inr (0, [.ref ck, .ref cv, .int (nI C.length)])), (ck, .inl (X.2.1, 60, .inl ckf)), (cv, .inl (X.2.1, 60, .inl cvf)), (h, .inr (2, [.ref hk, .ref hv, .int (nI Hm.length), .int (nI wh)])), (hk, .inl (X.2.1, 512, .inl hkf)), (hv, .inl (X.2.1, 512, .inl hvf))]) sz.heap sz.heap [] := va_S.rf
  have hl := lv_entry ([.ref a]) (n := 2) (Nat.le_of_ble_eq_true rfl)
  rw [lg_entry_eq]
  generalize (lg_sl ([.ref a]) ++ List.replicate (2 - (lg_sl ([.ref a])).length) Slot.unset).toArray = ls at hl ⊢
  have hl : lv_has ls 2 [(0, .ref a)] := hl
  have lk54 := hts (.fieldLink RX5 54 "PointStore" "changes" "LPointStore$Changes;") (by decide +kernel)
  have lk65 := hts (.fieldLink RX5 65 "PointStore" "powered" "Z") (by decide +kernel)
  have lk162 := hts (.fieldLink RX5 162 "PointStore$Changes" "total" "I") (by decide +kernel)
  have hin0 : ∀ w ∈ u_ws RX0 TX0 3, w ∈ wsX5_commit := by decide +kernel
  have hin5 : ∀ w ∈ u_ws RX5 TX5 12, w ∈ wsX5_commit := by decide +kernel
  refine wQ (fun Q hQ => ?_)
  generalize hAe : inW [(a, .inr (5, [.int (nI bl), .int (nI bk), .int (nI sp), .ref d, .ref p, .ref t, .ref t2, .ref ch, .ref rs, .int (nI 1), .int f_ct, .int (nI cp)])), (d, .inr (1, [.ref h, .ref lk, .ref lv, .int (nI se)])), (lk, .inl (X.2.1, 60, .inl lkf)), (lv, .inl (X.2.1, 60, .inl lvf)), (ch, .inr (0, [.ref ck, .ref cv, .int (nI C.length)])), (ck, .inl (X.2.1, 60, .inl ckf)), (cv, .inl (X.2.1, 60, .inl cvf)), (h, .inr (2, [.ref hk, .ref hv, .int (nI Hm.length), .int (nI wh)])), (hk, .inl (X.2.1, 512, .inl hkf)), (hv, .inl (X.2.1, 512, .inl hvf))] = A_ at hD hS hQ
  have hC := hc.1
  refine lv_aload_n hx hb dX5_commit_0 rfl (lv_at hl 0 rfl) ?_
  refine va_get (D := X.1) (ci := 5) (v := .int (nI 1)) (C := RX5) (T := TX5) (N := 12) hx hb hts hin5 hown hK hP 0 rfl rfl 9 (by decide) lk65 (fun _ h9 => h9) rfl dX5_commit_1 ?_
  refine lv_if_ne (tgt := 10) hx hb dX5_commit_4 (by decide) (fun c_4 => ?_) (fun c_4 => ?_)
  · skip
    refine lv_aload_n hx hb dX5_commit_10 rfl (lv_at hl 0 rfl) ?_
    refine va_get (D := X.1) (ci := 5) (v := .ref ch) (C := RX5) (T := TX5) (N := 12) hx hb hts hin5 hown hK hP 0 rfl rfl 7 (by decide) lk54 (fun _ h9 => h9) rfl dX5_commit_11 ?_
    refine va_get (D := X.1) (ci := 0) (v := .int (nI C.length)) (C := RX0) (T := TX0) (N := 3) hx hb hts hin0 hown hK hP 4 rfl rfl 2 (by decide) lk162 (fun _ h9 => h9) rfl dX5_commit_14 ?_
    refine lv_istore_n (lv' := [(1, .int (nI C.length)), (0, .ref a)]) hx hb dX5_commit_17 rfl hl (by decide) rfl (fun ls hl => ?_)
    refine lv_iload_n hx hb dX5_commit_18 rfl (lv_at hl 0 rfl) ?_
    refine lv_if_le (tgt := 32) hx hb dX5_commit_19 (by decide) (fun c_19 => ?_) (fun c_19 => ?_)
    · change nI C.length ≤ nI 0 at c_19
      replace c_19 : C.length ≤ 0 := (nI_leI (by omega) (by omega)).mp c_19
      omega
    · change ¬ (nI C.length ≤ nI 0) at c_19
      replace c_19 : ¬ C.length ≤ 0 := fun h9 => c_19 ((nI_leI (by omega) (by omega)).mpr h9)
      refine lv_aload_n hx hb dX5_commit_22 rfl (lv_at hl 1 rfl) ?_
      refine ckVi (As := []) (rest := []) 0 [0, 1, 2, 3, 4, 5, 6, 7, 8, 9] (c_X5_writeChanges_n l X a d p t t2 ch rs sp bl bk cp f_ct h lk lv se ck cv hk hv wh lkf lvf ckf cvf hkf hvf C Hm hc hp hcap hn0 hn1) ⟨hx, hb, hml, hown, hts⟩ (cwV 0 hts gX5_commit_X5_writeChanges rfl rfl rfl (by decide +kernel) ⟨Nat.le_of_ble_eq_true rfl, Nat.le_of_ble_eq_true rfl⟩) hK hN hP hD hS (by decide) rfl (ci := 5) rfl rfl (fun _ => rfl) rfl hl.1 rfl (Nat.le_of_ble_eq_true rfl) dX5_commit_23 ⟨Nat.zero_le _, Nat.zero_le _⟩ (fun r_2 u_1 H locs hc_23 hP hD hS => ?_)
      obtain ⟨lk2, lv2, hk2, hv2⟩ := u_1
      have hP : va_P X.1 vwCl [(a, .inr (5, [.int (nI bl), .int (nI bk), .int (nI sp), .ref d, .ref p, .ref t, .ref t2, .ref ch, .ref rs, .int (nI 1), .int f_ct, .int (nI cp)])), (d, .inr (1, [.ref h, .ref lk, .ref lv, .int (nI 0)])), (lk, .inl (X.2.1, 60, .inl lk2)), (lv, .inl (X.2.1, 60, .inl lv2)), (ch, .inr (0, [.ref ck, .ref cv, .int (nI C.length)])), (ck, .inl (X.2.1, 60, .inl ckf)), (cv, .inl (X.2.1, 60, .inl cvf)), (h, .inr (2, [.ref hk, .ref hv, .int (nI ((apL Hm C).length)), .int (nI (avL Hm wh C))])), (hk, .inl (X.2.1, 512, .inl hk2)), (hv, .inl (X.2.1, 512, .inl hv2))] H := hP
      have hD : va_D A_ [(a, .inr (5, [.int (nI bl), .int (nI bk), .int (nI sp), .ref d, .ref p, .ref t, .ref t2, .ref ch, .ref rs, .int (nI 1), .int f_ct, .int (nI cp)])), (d, .inr (1, [.ref h, .ref lk, .ref lv, .int (nI 0)])), (lk, .inl (X.2.1, 60, .inl lk2)), (lv, .inl (X.2.1, 60, .inl lv2)), (ch, .inr (0, [.ref ck, .ref cv, .int (nI C.length)])), (ck, .inl (X.2.1, 60, .inl ckf)), (cv, .inl (X.2.1, 60, .inl cvf)), (h, .inr (2, [.ref hk, .ref hv, .int (nI ((apL Hm C).length)), .int (nI (avL Hm wh C))])), (hk, .inl (X.2.1, 512, .inl hk2)), (hv, .inl (X.2.1, 512, .inl hv2))] := hD
      try dsimp only at hc_23
      obtain ⟨rfl, hq2⟩ := hc_23
      · skip
        skip
        refine lv_if_ne (tgt := 32) hx hb dX5_commit_26 (by decide) (fun c_26 => ?_) (fun c_26 => ?_)
        · skip
          refine lv_aload_n hx hb dX5_commit_32 rfl (lv_at hl 1 rfl) ?_
          refine va_get (D := X.1) (ci := 5) (v := .ref ch) (C := RX5) (T := TX5) (N := 12) hx hb hts hin5 hown hK hP 0 rfl rfl 7 (by decide) lk54 (fun _ h9 => h9) rfl dX5_commit_33 ?_
          refine ckVv (As := []) (rest := []) 0 [4] (c_X0_clear l X ch ck cv (nI C.length)) ⟨hx, hb, hml, hown, hts⟩ (cwV 0 hts gX5_commit_X0_clear rfl rfl rfl (by decide +kernel) ⟨Nat.le_of_ble_eq_true rfl, Nat.le_of_ble_eq_true rfl⟩) hK hN hP hD hS (by decide) rfl (ci := 0) rfl rfl (fun _ => rfl) rfl hl.1 rfl (Nat.le_of_ble_eq_true rfl) dX5_commit_36 ⟨Nat.zero_le _, Nat.zero_le _⟩ (fun u_3 H locs hc_36 hP hD hS => ?_)
          have hP : va_P X.1 vwCl [(a, .inr (5, [.int (nI bl), .int (nI bk), .int (nI sp), .ref d, .ref p, .ref t, .ref t2, .ref ch, .ref rs, .int (nI 1), .int f_ct, .int (nI cp)])), (d, .inr (1, [.ref h, .ref lk, .ref lv, .int (nI 0)])), (lk, .inl (X.2.1, 60, .inl lk2)), (lv, .inl (X.2.1, 60, .inl lv2)), (ch, .inr (0, [.ref ck, .ref cv, .int (nI 0)])), (ck, .inl (X.2.1, 60, .inl ckf)), (cv, .inl (X.2.1, 60, .inl cvf)), (h, .inr (2, [.ref hk, .ref hv, .int (nI ((apL Hm C).length)), .int (nI (avL Hm wh C))])), (hk, .inl (X.2.1, 512, .inl hk2)), (hv, .inl (X.2.1, 512, .inl hv2))] H := hP
          have hD : va_D A_ [(a, .inr (5, [.int (nI bl), .int (nI bk), .int (nI sp), .ref d, .ref p, .ref t, .ref t2, .ref ch, .ref rs, .int (nI 1), .int f_ct, .int (nI cp)])), (d, .inr (1, [.ref h, .ref lk, .ref lv, .int (nI 0)])), (lk, .inl (X.2.1, 60, .inl lk2)), (lv, .inl (X.2.1, 60, .inl lv2)), (ch, .inr (0, [.ref ck, .ref cv, .int (nI 0)])), (ck, .inl (X.2.1, 60, .inl ckf)), (cv, .inl (X.2.1, 60, .inl cvf)), (h, .inr (2, [.ref hk, .ref hv, .int (nI ((apL Hm C).length)), .int (nI (avL Hm wh C))])), (hk, .inl (X.2.1, 512, .inl hk2)), (hv, .inl (X.2.1, 512, .inl hv2))] := hD
          refine lv_iload_n hx hb dX5_commit_39 rfl (lv_at hl 0 rfl) ?_
          refine wM hQ ?_
          exact rtI (lk2, lv2, hk2, hv2) hx hb hr hlocks hP hS (⟨rfl, hq2⟩) dX5_commit_40
        · exact absurd c_26 (by decide)
  · exact absurd c_4 (by decide)
set_option maxHeartbeats 4000000 in
set_option maxRecDepth 100000 in
theorem c_X5_abort (l : Launch) (X : kX) (a d p t t2 ch rs sp bl bk cp : Nat) (f_ct : Int32) (h lk lv se pk pv n w hk hv wh ck cv nc : Nat) (pkf pvf hkf hvf : Nat → Int32) (Hm : PL) (hp : ptOk hkf hvf Hm) : CWi l X yX5_abort wsX5_abort 2 [.ref a] [(a, .inr (5, [.int (nI bl), .int (nI bk), .int (nI sp), .ref d, .ref p, .ref t, .ref t2, .ref ch, .ref rs, .int (nI 1), .int f_ct, .int (nI cp)])), (d, .inr (1, [.ref h, .ref lk, .ref lv, .int (nI se)])), (p, .inr (2, [.ref pk, .ref pv, .int (nI n), .int (nI w)])), (pk, .inl (X.2.1, 512, .inl pkf)), (pv, .inl (X.2.1, 512, .inl pvf)), (h, .inr (2, [.ref hk, .ref hv, .int (nI Hm.length), .int (nI wh)])), (hk, .inl (X.2.1, 512, .inl hkf)), (hv, .inl (X.2.1, 512, .inl hvf)), (ch, .inr (0, [.ref ck, .ref cv, .int (nI nc)]))] (S := (Nat → Int32) × (Nat → Int32)) (fun r u => r = nI nc ∧ ptOk u.1 u.2 Hm) (fun ⟨kf2, vf2⟩ => [(a, .inr (5, [.int (nI bl), .int (nI bk), .int (nI sp), .ref d, .ref p, .ref t, .ref t2, .ref ch, .ref rs, .int (nI 1), .int f_ct, .int (nI cp)])), (d, .inr (1, [.ref h, .ref lk, .ref lv, .int (nI se)])), (p, .inr (2, [.ref pk, .ref pv, .int (nI Hm.length), .int (nI (w + 1))])), (pk, .inl (X.2.1, 512, .inl kf2)), (pv, .inl (X.2.1, 512, .inl vf2)), (h, .inr (2, [.ref hk, .ref hv, .int (nI Hm.length), .int (nI wh)])), (hk, .inl (X.2.1, 512, .inl hkf)), (hv, .inl (X.2.1, 512, .inl hvf)), (ch, .inr (0, [.ref ck, .ref cv, .int (nI 0)]))]) := by
  refine Met.ofW (cc := cX5_abort) (maxL := 2) (ret := some (.int)) (by decide) rfl ?_
  intro pz ez sz mz args below meth cz s₁ Bz hml hv
  obtain ⟨rfl, hP, hK, hD0, hN⟩ := hv
  have hx := Bz.exec
  have hb := Bz.bytes
  have hr := Bz.returns
  have hts := atoms_spec (ws := wsX5_abort) Bz.pre
  have hown : sz.vm.findClass RX5 = some mz.cls := findClass_of_methodNamed Bz.named
  have hlocks := Bz.notSynchronized
  have hD := inW.self hD0
  have hS : va_S (inW [(a, .inr (5, [.int (nI bl), .int (nI bk), .int (nI sp), .ref d, .ref p, .ref t, .ref t2, .ref ch, .ref rs, .int (nI 1), .int f_ct, .int (nI cp)])), (d, .inr (1, [.ref h, .ref lk, .ref lv, .int (nI se)])), (p, .inr (2, [.ref pk, .ref pv, .int (nI n), .int (nI w)])), (pk, .inl (X.2.1, 512, .inl pkf)), (pv, .inl (X.2.1, 512, .inl pvf)), (h, .inr (2, [.ref hk, .ref hv, .int (nI Hm.length), .int (nI wh)])), (hk, .inl (X.2.1, 512, .inl hkf)), (hv, .inl (X.2.1, 512, .inl hvf)), (ch, .inr (0, [.ref ck, .ref cv, .int (nI nc)]))]) sz.heap sz.heap [] := va_S.rf
  have hl := lv_entry ([.ref a]) (n := 2) (Nat.le_of_ble_eq_true rfl)
  rw [lg_entry_eq]
  generalize (lg_sl ([.ref a]) ++ List.replicate (2 - (lg_sl ([.ref a])).length) Slot.unset).toArray = ls at hl ⊢
  have hl : lv_has ls 2 [(0, .ref a)] := hl
  have lk31 := hts (.fieldLink RX5 31 "PointStore" "disk" "LPointStore$Disk;") (by decide +kernel)
  have lk35 := hts (.fieldLink RX5 35 "PointStore" "pending" "LPointStore$Points;") (by decide +kernel)
  have lk54 := hts (.fieldLink RX5 54 "PointStore" "changes" "LPointStore$Changes;") (by decide +kernel)
  have lk65 := hts (.fieldLink RX5 65 "PointStore" "powered" "Z") (by decide +kernel)
  have lk140 := hts (.fieldLink RX5 140 "PointStore$Disk" "home" "LPointStore$Points;") (by decide +kernel)
  have lk162 := hts (.fieldLink RX5 162 "PointStore$Changes" "total" "I") (by decide +kernel)
  have hin0 : ∀ w ∈ u_ws RX0 TX0 3, w ∈ wsX5_abort := by decide +kernel
  have hin1 : ∀ w ∈ u_ws RX1 TX1 4, w ∈ wsX5_abort := by decide +kernel
  have hin5 : ∀ w ∈ u_ws RX5 TX5 12, w ∈ wsX5_abort := by decide +kernel
  refine wQ (fun Q hQ => ?_)
  generalize hAe : inW [(a, .inr (5, [.int (nI bl), .int (nI bk), .int (nI sp), .ref d, .ref p, .ref t, .ref t2, .ref ch, .ref rs, .int (nI 1), .int f_ct, .int (nI cp)])), (d, .inr (1, [.ref h, .ref lk, .ref lv, .int (nI se)])), (p, .inr (2, [.ref pk, .ref pv, .int (nI n), .int (nI w)])), (pk, .inl (X.2.1, 512, .inl pkf)), (pv, .inl (X.2.1, 512, .inl pvf)), (h, .inr (2, [.ref hk, .ref hv, .int (nI Hm.length), .int (nI wh)])), (hk, .inl (X.2.1, 512, .inl hkf)), (hv, .inl (X.2.1, 512, .inl hvf)), (ch, .inr (0, [.ref ck, .ref cv, .int (nI nc)]))] = A_ at hD hS hQ
  refine lv_aload_n hx hb dX5_abort_0 rfl (lv_at hl 0 rfl) ?_
  refine va_get (D := X.1) (ci := 5) (v := .int (nI 1)) (C := RX5) (T := TX5) (N := 12) hx hb hts hin5 hown hK hP 0 rfl rfl 9 (by decide) lk65 (fun _ h9 => h9) rfl dX5_abort_1 ?_
  refine lv_if_ne (tgt := 10) hx hb dX5_abort_4 (by decide) (fun c_4 => ?_) (fun c_4 => ?_)
  · skip
    refine lv_aload_n hx hb dX5_abort_10 rfl (lv_at hl 0 rfl) ?_
    refine va_get (D := X.1) (ci := 5) (v := .ref ch) (C := RX5) (T := TX5) (N := 12) hx hb hts hin5 hown hK hP 0 rfl rfl 7 (by decide) lk54 (fun _ h9 => h9) rfl dX5_abort_11 ?_
    refine va_get (D := X.1) (ci := 0) (v := .int (nI nc)) (C := RX0) (T := TX0) (N := 3) hx hb hts hin0 hown hK hP 8 rfl rfl 2 (by decide) lk162 (fun _ h9 => h9) rfl dX5_abort_14 ?_
    refine lv_istore_n (lv' := [(1, .int (nI nc)), (0, .ref a)]) hx hb dX5_abort_17 rfl hl (by decide) rfl (fun ls hl => ?_)
    refine lv_aload_n hx hb dX5_abort_18 rfl (lv_at hl 1 rfl) ?_
    refine va_get (D := X.1) (ci := 5) (v := .ref p) (C := RX5) (T := TX5) (N := 12) hx hb hts hin5 hown hK hP 0 rfl rfl 4 (by decide) lk35 (fun _ h9 => h9) rfl dX5_abort_19 ?_
    refine lv_aload_n hx hb dX5_abort_22 rfl (lv_at hl 1 rfl) ?_
    refine va_get (D := X.1) (ci := 5) (v := .ref d) (C := RX5) (T := TX5) (N := 12) hx hb hts hin5 hown hK hP 0 rfl rfl 3 (by decide) lk31 (fun _ h9 => h9) rfl dX5_abort_23 ?_
    refine va_get (D := X.1) (ci := 1) (v := .ref h) (C := RX1) (T := TX1) (N := 4) hx hb hts hin1 hown hK hP 1 rfl rfl 0 (by decide) lk140 (fun _ h9 => h9) rfl dX5_abort_26 ?_
    refine ckVv (As := [.ref h]) (rest := []) 0 [2, 3, 4, 5, 6, 7] (c_X2_copyFrom l X p pk pv n w h hk hv wh pkf pvf hkf hvf Hm hp) ⟨hx, hb, hml, hown, hts⟩ (cwV 1 hts gX5_abort_X2_copyFrom rfl rfl rfl (by decide +kernel) ⟨Nat.le_of_ble_eq_true rfl, Nat.le_of_ble_eq_true rfl⟩) hK hN hP hD hS (by decide) rfl (ci := 2) rfl rfl (fun _ => rfl) rfl hl.1 rfl (Nat.le_of_ble_eq_true rfl) dX5_abort_29 ⟨Nat.zero_le _, Nat.zero_le _⟩ (fun u_1 H locs hcf hP hD hS => ?_)
    obtain ⟨kf2, vf2⟩ := u_1
    have hP : va_P X.1 vwCl [(a, .inr (5, [.int (nI bl), .int (nI bk), .int (nI sp), .ref d, .ref p, .ref t, .ref t2, .ref ch, .ref rs, .int (nI 1), .int f_ct, .int (nI cp)])), (d, .inr (1, [.ref h, .ref lk, .ref lv, .int (nI se)])), (p, .inr (2, [.ref pk, .ref pv, .int (nI Hm.length), .int (nI (w + 1))])), (pk, .inl (X.2.1, 512, .inl kf2)), (pv, .inl (X.2.1, 512, .inl vf2)), (h, .inr (2, [.ref hk, .ref hv, .int (nI Hm.length), .int (nI wh)])), (hk, .inl (X.2.1, 512, .inl hkf)), (hv, .inl (X.2.1, 512, .inl hvf)), (ch, .inr (0, [.ref ck, .ref cv, .int (nI nc)]))] H := hP
    have hD : va_D A_ [(a, .inr (5, [.int (nI bl), .int (nI bk), .int (nI sp), .ref d, .ref p, .ref t, .ref t2, .ref ch, .ref rs, .int (nI 1), .int f_ct, .int (nI cp)])), (d, .inr (1, [.ref h, .ref lk, .ref lv, .int (nI se)])), (p, .inr (2, [.ref pk, .ref pv, .int (nI Hm.length), .int (nI (w + 1))])), (pk, .inl (X.2.1, 512, .inl kf2)), (pv, .inl (X.2.1, 512, .inl vf2)), (h, .inr (2, [.ref hk, .ref hv, .int (nI Hm.length), .int (nI wh)])), (hk, .inl (X.2.1, 512, .inl hkf)), (hv, .inl (X.2.1, 512, .inl hvf)), (ch, .inr (0, [.ref ck, .ref cv, .int (nI nc)]))] := hD
    try dsimp only at hcf
    refine lv_aload_n hx hb dX5_abort_32 rfl (lv_at hl 1 rfl) ?_
    refine va_get (D := X.1) (ci := 5) (v := .ref ch) (C := RX5) (T := TX5) (N := 12) hx hb hts hin5 hown hK hP 0 rfl rfl 7 (by decide) lk54 (fun _ h9 => h9) rfl dX5_abort_33 ?_
    refine ckVv (As := []) (rest := []) 0 [8] (c_X0_clear l X ch ck cv (nI nc)) ⟨hx, hb, hml, hown, hts⟩ (cwV 0 hts gX5_abort_X0_clear rfl rfl rfl (by decide +kernel) ⟨Nat.le_of_ble_eq_true rfl, Nat.le_of_ble_eq_true rfl⟩) hK hN hP hD hS (by decide) rfl (ci := 0) rfl rfl (fun _ => rfl) rfl hl.1 rfl (Nat.le_of_ble_eq_true rfl) dX5_abort_36 ⟨Nat.zero_le _, Nat.zero_le _⟩ (fun u_3 H locs hc_36 hP hD hS => ?_)
    have hP : va_P X.1 vwCl [(a, .inr (5, [.int (nI bl), .int (nI bk), .int (nI sp), .ref d, .ref p, .ref t, .ref t2, .ref ch, .ref rs, .int (nI 1), .int f_ct, .int (nI cp)])), (d, .inr (1, [.ref h, .ref lk, .ref lv, .int (nI se)])), (p, .inr (2, [.ref pk, .ref pv, .int (nI Hm.length), .int (nI (w + 1))])), (pk, .inl (X.2.1, 512, .inl kf2)), (pv, .inl (X.2.1, 512, .inl vf2)), (h, .inr (2, [.ref hk, .ref hv, .int (nI Hm.length), .int (nI wh)])), (hk, .inl (X.2.1, 512, .inl hkf)), (hv, .inl (X.2.1, 512, .inl hvf)), (ch, .inr (0, [.ref ck, .ref cv, .int (nI 0)]))] H := hP
    have hD : va_D A_ [(a, .inr (5, [.int (nI bl), .int (nI bk), .int (nI sp), .ref d, .ref p, .ref t, .ref t2, .ref ch, .ref rs, .int (nI 1), .int f_ct, .int (nI cp)])), (d, .inr (1, [.ref h, .ref lk, .ref lv, .int (nI se)])), (p, .inr (2, [.ref pk, .ref pv, .int (nI Hm.length), .int (nI (w + 1))])), (pk, .inl (X.2.1, 512, .inl kf2)), (pv, .inl (X.2.1, 512, .inl vf2)), (h, .inr (2, [.ref hk, .ref hv, .int (nI Hm.length), .int (nI wh)])), (hk, .inl (X.2.1, 512, .inl hkf)), (hv, .inl (X.2.1, 512, .inl hvf)), (ch, .inr (0, [.ref ck, .ref cv, .int (nI 0)]))] := hD
    refine lv_iload_n hx hb dX5_abort_39 rfl (lv_at hl 0 rfl) ?_
    refine wM hQ ?_
    exact rtI (kf2, vf2) hx hb hr hlocks hP hS (⟨rfl, hcf⟩) dX5_abort_40
  · exact absurd c_4 (by decide)
set_option maxHeartbeats 4000000 in
set_option maxRecDepth 100000 in
theorem c_X5_format_a (l : Launch) (X : kX) (a d p t t2 ch rs sp bl bk cp : Nat)  (h lk lv se pk pv n w ck cv rk_ rv rd nr : Nat) (lkf lvf ckf cvf : Nat → Int32) (nc : Nat)  (hcp : cp ≤ 256) : CWi l X yX5_format wsX5_format 5 [.ref a] [(a, .inr (5, [.int (nI bl), .int (nI bk), .int (nI sp), .ref d, .ref p, .ref t, .ref t2, .ref ch, .ref rs, .int (nI 1), .int (nI 0), .int (nI cp)])), (d, .inr (1, [.ref h, .ref lk, .ref lv, .int (nI se)])), (lk, .inl (X.2.1, 60, .inl lkf)), (lv, .inl (X.2.1, 60, .inl lvf)), (ch, .inr (0, [.ref ck, .ref cv, .int (nI nc)])), (ck, .inl (X.2.1, 60, .inl ckf)), (cv, .inl (X.2.1, 60, .inl cvf)), (p, .inr (2, [.ref pk, .ref pv, .int (nI n), .int (nI w)])), (rs, .inr (3, [.ref rk_, .ref rv, .ref rd, .int (nI nr)]))] (S := (Nat → Int32) × (Nat → Int32) × (Nat → Int32) × (Nat → Int32)) (fun r u => r = -2) (fun ⟨lk2, lv2, ck2, cv2⟩ => [(a, .inr (5, [.int (nI bl), .int (nI bk), .int (nI sp), .ref d, .ref p, .ref t, .ref t2, .ref ch, .ref rs, .int (nI 0), .int (-1), .int (nI cp)])), (d, .inr (1, [.ref h, .ref lk, .ref lv, .int (nI se)])), (lk, .inl (X.2.1, 60, .inl lk2)), (lv, .inl (X.2.1, 60, .inl lv2)), (ch, .inr (0, [.ref ck, .ref cv, .int (nI 0)])), (ck, .inl (X.2.1, 60, .inl ck2)), (cv, .inl (X.2.1, 60, .inl cv2)), (p, .inr (2, [.ref pk, .ref pv, .int (nI 0), .int (nI (w + 1))])), (rs, .inr (3, [.ref rk_, .ref rv, .ref rd, .int (nI 0)]))]) := by
  refine Met.ofW (cc := cX5_format) (maxL := 1) (ret := some (.int)) (by decide) rfl ?_
  intro pz ez sz mz args below meth cz s₁ Bz hml hv
  obtain ⟨rfl, hP, hK, hD0, hN⟩ := hv
  have hx := Bz.exec
  have hb := Bz.bytes
  have hr := Bz.returns
  have hts := atoms_spec (ws := wsX5_format) Bz.pre
  have hown : sz.vm.findClass RX5 = some mz.cls := findClass_of_methodNamed Bz.named
  have hlocks := Bz.notSynchronized
  have hD := inW.self hD0
  have hS : va_S (inW [(a, .inr (5, [.int (nI bl), .int (nI bk), .int (nI sp), .ref d, .ref p, .ref t, .ref t2, .ref ch, .ref rs, .int (nI 1), .int (nI 0), .int (nI cp)])), (d, .inr (1, [.ref h, .ref lk, .ref lv, .int (nI se)])), (lk, .inl (X.2.1, 60, .inl lkf)), (lv, .inl (X.2.1, 60, .inl lvf)), (ch, .inr (0, [.ref ck, .ref cv, .int (nI nc)])), (ck, .inl (X.2.1, 60, .inl ckf)), (cv, .inl (X.2.1, 60, .inl cvf)), (p, .inr (2, [.ref pk, .ref pv, .int (nI n), .int (nI w)])), (rs, .inr (3, [.ref rk_, .ref rv, .ref rd, .int (nI nr)]))]) sz.heap sz.heap [] := va_S.rf
  have hl := lv_entry ([.ref a]) (n := 1) (Nat.le_of_ble_eq_true rfl)
  rw [lg_entry_eq]
  generalize (lg_sl ([.ref a]) ++ List.replicate (1 - (lg_sl ([.ref a])).length) Slot.unset).toArray = ls at hl ⊢
  have hl : lv_has ls 1 [(0, .ref a)] := hl
  have lk54 := hts (.fieldLink RX5 54 "PointStore" "changes" "LPointStore$Changes;") (by decide +kernel)
  have lk65 := hts (.fieldLink RX5 65 "PointStore" "powered" "Z") (by decide +kernel)
  have hin5 : ∀ w ∈ u_ws RX5 TX5 12, w ∈ wsX5_format := by decide +kernel
  refine wQ (fun Q hQ => ?_)
  generalize hAe : inW [(a, .inr (5, [.int (nI bl), .int (nI bk), .int (nI sp), .ref d, .ref p, .ref t, .ref t2, .ref ch, .ref rs, .int (nI 1), .int (nI 0), .int (nI cp)])), (d, .inr (1, [.ref h, .ref lk, .ref lv, .int (nI se)])), (lk, .inl (X.2.1, 60, .inl lkf)), (lv, .inl (X.2.1, 60, .inl lvf)), (ch, .inr (0, [.ref ck, .ref cv, .int (nI nc)])), (ck, .inl (X.2.1, 60, .inl ckf)), (cv, .inl (X.2.1, 60, .inl cvf)), (p, .inr (2, [.ref pk, .ref pv, .int (nI n), .int (nI w)])), (rs, .inr (3, [.ref rk_, .ref rv, .ref rd, .int (nI nr)]))] = A_ at hD hS hQ
  refine lv_aload_n hx hb dX5_format_0 rfl (lv_at hl 0 rfl) ?_
  refine va_get (D := X.1) (ci := 5) (v := .int (nI 1)) (C := RX5) (T := TX5) (N := 12) hx hb hts hin5 hown hK hP 0 rfl rfl 9 (by decide) lk65 (fun _ h9 => h9) rfl dX5_format_1 ?_
  refine lv_if_ne (tgt := 10) hx hb dX5_format_4 (by decide) (fun c_4 => ?_) (fun c_4 => ?_)
  · skip
    refine lv_aload_n hx hb dX5_format_10 rfl (lv_at hl 0 rfl) ?_
    refine va_get (D := X.1) (ci := 5) (v := .ref ch) (C := RX5) (T := TX5) (N := 12) hx hb hts hin5 hown hK hP 0 rfl rfl 7 (by decide) lk54 (fun _ h9 => h9) rfl dX5_format_11 ?_
    refine ckVv (As := []) (rest := []) 0 [4] (c_X0_clear l X ch ck cv (nI nc)) ⟨hx, hb, hml, hown, hts⟩ (cwV 0 hts gX5_format_X0_clear rfl rfl rfl (by decide +kernel) ⟨Nat.le_of_ble_eq_true rfl, Nat.le_of_ble_eq_true rfl⟩) hK hN hP hD hS (by decide) rfl (ci := 0) rfl rfl (fun _ => rfl) rfl hl.1 rfl (Nat.le_of_ble_eq_true rfl) dX5_format_14 ⟨Nat.zero_le _, Nat.zero_le _⟩ (fun u_1 H locs hc_14 hP hD hS => ?_)
    have hP : va_P X.1 vwCl [(a, .inr (5, [.int (nI bl), .int (nI bk), .int (nI sp), .ref d, .ref p, .ref t, .ref t2, .ref ch, .ref rs, .int (nI 1), .int (nI 0), .int (nI cp)])), (d, .inr (1, [.ref h, .ref lk, .ref lv, .int (nI se)])), (lk, .inl (X.2.1, 60, .inl lkf)), (lv, .inl (X.2.1, 60, .inl lvf)), (ch, .inr (0, [.ref ck, .ref cv, .int (nI 0)])), (ck, .inl (X.2.1, 60, .inl ckf)), (cv, .inl (X.2.1, 60, .inl cvf)), (p, .inr (2, [.ref pk, .ref pv, .int (nI n), .int (nI w)])), (rs, .inr (3, [.ref rk_, .ref rv, .ref rd, .int (nI nr)]))] H := hP
    have hD : va_D A_ [(a, .inr (5, [.int (nI bl), .int (nI bk), .int (nI sp), .ref d, .ref p, .ref t, .ref t2, .ref ch, .ref rs, .int (nI 1), .int (nI 0), .int (nI cp)])), (d, .inr (1, [.ref h, .ref lk, .ref lv, .int (nI se)])), (lk, .inl (X.2.1, 60, .inl lkf)), (lv, .inl (X.2.1, 60, .inl lvf)), (ch, .inr (0, [.ref ck, .ref cv, .int (nI 0)])), (ck, .inl (X.2.1, 60, .inl ckf)), (cv, .inl (X.2.1, 60, .inl cvf)), (p, .inr (2, [.ref pk, .ref pv, .int (nI n), .int (nI w)])), (rs, .inr (3, [.ref rk_, .ref rv, .ref rd, .int (nI nr)]))] := hD
    refine lv_aload_n hx hb dX5_format_17 rfl (lv_at hl 0 rfl) ?_
    refine va_get (D := X.1) (ci := 5) (v := .ref ch) (C := RX5) (T := TX5) (N := 12) hx hb hts hin5 hown hK hP 0 rfl rfl 7 (by decide) lk54 (fun _ h9 => h9) rfl dX5_format_18 ?_
    refine lv_iconst (v := (-1)) hx hb dX5_format_21 (by decide) ?_
    refine lv_iconst (v := (-1)) hx hb dX5_format_22 (by decide) ?_
    refine ckVv (As := [.int (-1), .int (-1)]) (rest := []) 0 [4, 5, 6] (c_X0_add l X ch ck cv ckf cvf (none : Op) ([] : List Op) ch_nil (by decide) trivial) ⟨hx, hb, hml, hown, hts⟩ (cwV 2 hts gX5_format_X0_add rfl rfl rfl (by decide +kernel) ⟨Nat.le_of_ble_eq_true rfl, Nat.le_of_ble_eq_true rfl⟩) hK hN hP hD hS (by decide) rfl (ci := 0) rfl rfl (fun _ => rfl) rfl hl.1 rfl (Nat.le_of_ble_eq_true rfl) dX5_format_23 ⟨Nat.zero_le _, Nat.zero_le _⟩ (fun u_3 H locs hca hP hD hS => ?_)
    obtain ⟨ck2, cv2⟩ := u_3
    have hP : va_P X.1 vwCl [(a, .inr (5, [.int (nI bl), .int (nI bk), .int (nI sp), .ref d, .ref p, .ref t, .ref t2, .ref ch, .ref rs, .int (nI 1), .int (nI 0), .int (nI cp)])), (d, .inr (1, [.ref h, .ref lk, .ref lv, .int (nI se)])), (lk, .inl (X.2.1, 60, .inl lkf)), (lv, .inl (X.2.1, 60, .inl lvf)), (ch, .inr (0, [.ref ck, .ref cv, .int (nI (([] : List Op).length + 1))])), (ck, .inl (X.2.1, 60, .inl ck2)), (cv, .inl (X.2.1, 60, .inl cv2)), (p, .inr (2, [.ref pk, .ref pv, .int (nI n), .int (nI w)])), (rs, .inr (3, [.ref rk_, .ref rv, .ref rd, .int (nI nr)]))] H := hP
    have hD : va_D A_ [(a, .inr (5, [.int (nI bl), .int (nI bk), .int (nI sp), .ref d, .ref p, .ref t, .ref t2, .ref ch, .ref rs, .int (nI 1), .int (nI 0), .int (nI cp)])), (d, .inr (1, [.ref h, .ref lk, .ref lv, .int (nI se)])), (lk, .inl (X.2.1, 60, .inl lkf)), (lv, .inl (X.2.1, 60, .inl lvf)), (ch, .inr (0, [.ref ck, .ref cv, .int (nI (([] : List Op).length + 1))])), (ck, .inl (X.2.1, 60, .inl ck2)), (cv, .inl (X.2.1, 60, .inl cv2)), (p, .inr (2, [.ref pk, .ref pv, .int (nI n), .int (nI w)])), (rs, .inr (3, [.ref rk_, .ref rv, .ref rd, .int (nI nr)]))] := hD
    try dsimp only at hca
    have hca : chOk ck2 cv2 [(none : Op)] := hca
    refine lv_aload_n hx hb dX5_format_26 rfl (lv_at hl 0 rfl) ?_
    refine ckVi (As := []) (rest := []) 0 [0, 1, 2, 3, 4, 5, 6, 7, 8] (c_X5_writeChanges_a l X a d p t t2 ch rs sp bl bk cp h lk lv se pk pv n w ck cv rk_ rv rd nr lkf lvf ck2 cv2 ([(none : Op)]) hca hcp) ⟨hx, hb, hml, hown, hts⟩ (cwV 0 hts gX5_format_X5_writeChanges rfl rfl rfl (by decide +kernel) ⟨Nat.le_of_ble_eq_true rfl, Nat.le_of_ble_eq_true rfl⟩) hK hN hP hD hS (by decide) rfl (ci := 5) rfl rfl (fun _ => rfl) rfl hl.1 rfl (Nat.le_of_ble_eq_true rfl) dX5_format_27 ⟨Nat.zero_le _, Nat.zero_le _⟩ (fun r_6 u_5 H locs hc_27 hP hD hS => ?_)
    obtain ⟨lk2, lv2⟩ := u_5
    have hP : va_P X.1 vwCl [(a, .inr (5, [.int (nI bl), .int (nI bk), .int (nI sp), .ref d, .ref p, .ref t, .ref t2, .ref ch, .ref rs, .int (nI 0), .int (-1), .int (nI cp)])), (d, .inr (1, [.ref h, .ref lk, .ref lv, .int (nI se)])), (lk, .inl (X.2.1, 60, .inl lk2)), (lv, .inl (X.2.1, 60, .inl lv2)), (ch, .inr (0, [.ref ck, .ref cv, .int (nI 0)])), (ck, .inl (X.2.1, 60, .inl ck2)), (cv, .inl (X.2.1, 60, .inl cv2)), (p, .inr (2, [.ref pk, .ref pv, .int (nI 0), .int (nI (w + 1))])), (rs, .inr (3, [.ref rk_, .ref rv, .ref rd, .int (nI 0)]))] H := hP
    have hD : va_D A_ [(a, .inr (5, [.int (nI bl), .int (nI bk), .int (nI sp), .ref d, .ref p, .ref t, .ref t2, .ref ch, .ref rs, .int (nI 0), .int (-1), .int (nI cp)])), (d, .inr (1, [.ref h, .ref lk, .ref lv, .int (nI se)])), (lk, .inl (X.2.1, 60, .inl lk2)), (lv, .inl (X.2.1, 60, .inl lv2)), (ch, .inr (0, [.ref ck, .ref cv, .int (nI 0)])), (ck, .inl (X.2.1, 60, .inl ck2)), (cv, .inl (X.2.1, 60, .inl cv2)), (p, .inr (2, [.ref pk, .ref pv, .int (nI 0), .int (nI (w + 1))])), (rs, .inr (3, [.ref rk_, .ref rv, .ref rd, .int (nI 0)]))] := hD
    try dsimp only at hc_27
    obtain rfl := hc_27
    · skip
      skip
      refine lv_if_ne (tgt := 36) hx hb dX5_format_30 (by decide) (fun c_30 => ?_) (fun c_30 => ?_)
      · exact absurd c_30 (by decide)
      · skip
        refine lv_bipush (v := (-2)) hx hb dX5_format_33 (by decide) ?_
        refine wM hQ ?_
        exact rtI (lk2, lv2, ck2, cv2) hx hb hr hlocks hP hS (rfl) dX5_format_35
  · exact absurd c_4 (by decide)
set_option maxHeartbeats 4000000 in
set_option maxRecDepth 100000 in
theorem c_X5_format_b (l : Launch) (X : kX) (a d p t t2 ch rs sp bl bk cp : Nat)  (h lk lv se pk pv n w ck cv rk_ rv rd nr : Nat) (hk hv wh : Nat) (lkf lvf ckf cvf hkf hvf : Nat → Int32) (nc : Nat) (Hm : PL)  (hp : ptOk hkf hvf Hm) (hcp : cp ≤ 256)  : CWi l X yX5_format wsX5_format 5 [.ref a] [(a, .inr (5, [.int (nI bl), .int (nI bk), .int (nI sp), .ref d, .ref p, .ref t, .ref t2, .ref ch, .ref rs, .int (nI 1), .int (nI 1), .int (nI cp)])), (d, .inr (1, [.ref h, .ref lk, .ref lv, .int (nI se)])), (lk, .inl (X.2.1, 60, .inl lkf)), (lv, .inl (X.2.1, 60, .inl lvf)), (ch, .inr (0, [.ref ck, .ref cv, .int (nI nc)])), (ck, .inl (X.2.1, 60, .inl ckf)), (cv, .inl (X.2.1, 60, .inl cvf)), (h, .inr (2, [.ref hk, .ref hv, .int (nI Hm.length), .int (nI wh)])), (hk, .inl (X.2.1, 512, .inl hkf)), (hv, .inl (X.2.1, 512, .inl hvf)), (p, .inr (2, [.ref pk, .ref pv, .int (nI n), .int (nI w)])), (rs, .inr (3, [.ref rk_, .ref rv, .ref rd, .int (nI nr)]))] (S := (Nat → Int32) × (Nat → Int32) × (Nat → Int32) × (Nat → Int32) × (Nat → Int32) × (Nat → Int32)) (fun r u => r = -2 ∧ chOk u.1 u.2.1 [(none : Op)] ∧ ptOk u.2.2.1 u.2.2.2.1 (apL Hm ([(none : Op)].take (1 * cp / 256)))) (fun ⟨lk2, lv2, hk2, hv2, ck2, cv2⟩ => [(a, .inr (5, [.int (nI bl), .int (nI bk), .int (nI sp), .ref d, .ref p, .ref t, .ref t2, .ref ch, .ref rs, .int (nI 0), .int (-1), .int (nI cp)])), (d, .inr (1, [.ref h, .ref lk, .ref lv, .int (nI 1)])), (lk, .inl (X.2.1, 60, .inl lk2)), (lv, .inl (X.2.1, 60, .inl lv2)), (ch, .inr (0, [.ref ck, .ref cv, .int (nI 0)])), (ck, .inl (X.2.1, 60, .inl ck2)), (cv, .inl (X.2.1, 60, .inl cv2)), (h, .inr (2, [.ref hk, .ref hv, .int (nI ((apL Hm ([(none : Op)].take (1 * cp / 256))).length)), .int (nI (avL Hm wh ([(none : Op)].take (1 * cp / 256))))])), (hk, .inl (X.2.1, 512, .inl hk2)), (hv, .inl (X.2.1, 512, .inl hv2)), (p, .inr (2, [.ref pk, .ref pv, .int (nI 0), .int (nI (w + 1))])), (rs, .inr (3, [.ref rk_, .ref rv, .ref rd, .int (nI 0)]))]) := by
  refine Met.ofW (cc := cX5_format) (maxL := 1) (ret := some (.int)) (by decide) rfl ?_
  intro pz ez sz mz args below meth cz s₁ Bz hml hv
  obtain ⟨rfl, hP, hK, hD0, hN⟩ := hv
  have hx := Bz.exec
  have hb := Bz.bytes
  have hr := Bz.returns
  have hts := atoms_spec (ws := wsX5_format) Bz.pre
  have hown : sz.vm.findClass RX5 = some mz.cls := findClass_of_methodNamed Bz.named
  have hlocks := Bz.notSynchronized
  have hD := inW.self hD0
  have hS : va_S (inW [(a, .inr (5, [.int (nI bl), .int (nI bk), .int (nI sp), .ref d, .ref p, .ref t, .ref t2, .ref ch, .ref rs, .int (nI 1), .int (nI 1), .int (nI cp)])), (d, .inr (1, [.ref h, .ref lk, .ref lv, .int (nI se)])), (lk, .inl (X.2.1, 60, .inl lkf)), (lv, .inl (X.2.1, 60, .inl lvf)), (ch, .inr (0, [.ref ck, .ref cv, .int (nI nc)])), (ck, .inl (X.2.1, 60, .inl ckf)), (cv, .inl (X.2.1, 60, .inl cvf)), (h, .inr (2, [.ref hk, .ref hv, .int (nI Hm.length), .int (nI wh)])), (hk, .inl (X.2.1, 512, .inl hkf)), (hv, .inl (X.2.1, 512, .inl hvf)), (p, .inr (2, [.ref pk, .ref pv, .int (nI n), .int (nI w)])), (rs, .inr (3, [.ref rk_, .ref rv, .ref rd, .int (nI nr)]))]) sz.heap sz.heap [] := va_S.rf
  have hl := lv_entry ([.ref a]) (n := 1) (Nat.le_of_ble_eq_true rfl)
  rw [lg_entry_eq]
  generalize (lg_sl ([.ref a]) ++ List.replicate (1 - (lg_sl ([.ref a])).length) Slot.unset).toArray = ls at hl ⊢
  have hl : lv_has ls 1 [(0, .ref a)] := hl
  have lk54 := hts (.fieldLink RX5 54 "PointStore" "changes" "LPointStore$Changes;") (by decide +kernel)
  have lk65 := hts (.fieldLink RX5 65 "PointStore" "powered" "Z") (by decide +kernel)
  have hin5 : ∀ w ∈ u_ws RX5 TX5 12, w ∈ wsX5_format := by decide +kernel
  refine wQ (fun Q hQ => ?_)
  generalize hAe : inW [(a, .inr (5, [.int (nI bl), .int (nI bk), .int (nI sp), .ref d, .ref p, .ref t, .ref t2, .ref ch, .ref rs, .int (nI 1), .int (nI 1), .int (nI cp)])), (d, .inr (1, [.ref h, .ref lk, .ref lv, .int (nI se)])), (lk, .inl (X.2.1, 60, .inl lkf)), (lv, .inl (X.2.1, 60, .inl lvf)), (ch, .inr (0, [.ref ck, .ref cv, .int (nI nc)])), (ck, .inl (X.2.1, 60, .inl ckf)), (cv, .inl (X.2.1, 60, .inl cvf)), (h, .inr (2, [.ref hk, .ref hv, .int (nI Hm.length), .int (nI wh)])), (hk, .inl (X.2.1, 512, .inl hkf)), (hv, .inl (X.2.1, 512, .inl hvf)), (p, .inr (2, [.ref pk, .ref pv, .int (nI n), .int (nI w)])), (rs, .inr (3, [.ref rk_, .ref rv, .ref rd, .int (nI nr)]))] = A_ at hD hS hQ
  have hcap1 : ∀ j, j ≤ [(none : Op)].length → (apL Hm ([(none : Op)].take j)).length ≤ 512 := fun j hj => by
    rcases (show j = 0 ∨ j = 1 by simp at hj; omega) with rfl | rfl
    · exact hp.1
    · exact Nat.zero_le _
  refine lv_aload_n hx hb dX5_format_0 rfl (lv_at hl 0 rfl) ?_
  refine va_get (D := X.1) (ci := 5) (v := .int (nI 1)) (C := RX5) (T := TX5) (N := 12) hx hb hts hin5 hown hK hP 0 rfl rfl 9 (by decide) lk65 (fun _ h9 => h9) rfl dX5_format_1 ?_
  refine lv_if_ne (tgt := 10) hx hb dX5_format_4 (by decide) (fun c_4 => ?_) (fun c_4 => ?_)
  · skip
    refine lv_aload_n hx hb dX5_format_10 rfl (lv_at hl 0 rfl) ?_
    refine va_get (D := X.1) (ci := 5) (v := .ref ch) (C := RX5) (T := TX5) (N := 12) hx hb hts hin5 hown hK hP 0 rfl rfl 7 (by decide) lk54 (fun _ h9 => h9) rfl dX5_format_11 ?_
    refine ckVv (As := []) (rest := []) 0 [4] (c_X0_clear l X ch ck cv (nI nc)) ⟨hx, hb, hml, hown, hts⟩ (cwV 0 hts gX5_format_X0_clear rfl rfl rfl (by decide +kernel) ⟨Nat.le_of_ble_eq_true rfl, Nat.le_of_ble_eq_true rfl⟩) hK hN hP hD hS (by decide) rfl (ci := 0) rfl rfl (fun _ => rfl) rfl hl.1 rfl (Nat.le_of_ble_eq_true rfl) dX5_format_14 ⟨Nat.zero_le _, Nat.zero_le _⟩ (fun u_1 H locs hc_14 hP hD hS => ?_)
    have hP : va_P X.1 vwCl [(a, .inr (5, [.int (nI bl), .int (nI bk), .int (nI sp), .ref d, .ref p, .ref t, .ref t2, .ref ch, .ref rs, .int (nI 1), .int (nI 1), .int (nI cp)])), (d, .inr (1, [.ref h, .ref lk, .ref lv, .int (nI se)])), (lk, .inl (X.2.1, 60, .inl lkf)), (lv, .inl (X.2.1, 60, .inl lvf)), (ch, .inr (0, [.ref ck, .ref cv, .int (nI 0)])), (ck, .inl (X.2.1, 60, .inl ckf)), (cv, .inl (X.2.1, 60, .inl cvf)), (h, .inr (2, [.ref hk, .ref hv, .int (nI Hm.length), .int (nI wh)])), (hk, .inl (X.2.1, 512, .inl hkf)), (hv, .inl (X.2.1, 512, .inl hvf)), (p, .inr (2, [.ref pk, .ref pv, .int (nI n), .int (nI w)])), (rs, .inr (3, [.ref rk_, .ref rv, .ref rd, .int (nI nr)]))] H := hP
    have hD : va_D A_ [(a, .inr (5, [.int (nI bl), .int (nI bk), .int (nI sp), .ref d, .ref p, .ref t, .ref t2, .ref ch, .ref rs, .int (nI 1), .int (nI 1), .int (nI cp)])), (d, .inr (1, [.ref h, .ref lk, .ref lv, .int (nI se)])), (lk, .inl (X.2.1, 60, .inl lkf)), (lv, .inl (X.2.1, 60, .inl lvf)), (ch, .inr (0, [.ref ck, .ref cv, .int (nI 0)])), (ck, .inl (X.2.1, 60, .inl ckf)), (cv, .inl (X.2.1, 60, .inl cvf)), (h, .inr (2, [.ref hk, .ref hv, .int (nI Hm.length), .int (nI wh)])), (hk, .inl (X.2.1, 512, .inl hkf)), (hv, .inl (X.2.1, 512, .inl hvf)), (p, .inr (2, [.ref pk, .ref pv, .int (nI n), .int (nI w)])), (rs, .inr (3, [.ref rk_, .ref rv, .ref rd, .int (nI nr)]))] := hD
    refine lv_aload_n hx hb dX5_format_17 rfl (lv_at hl 0 rfl) ?_
    refine va_get (D := X.1) (ci := 5) (v := .ref ch) (C := RX5) (T := TX5) (N := 12) hx hb hts hin5 hown hK hP 0 rfl rfl 7 (by decide) lk54 (fun _ h9 => h9) rfl dX5_format_18 ?_
    refine lv_iconst (v := (-1)) hx hb dX5_format_21 (by decide) ?_
    refine lv_iconst (v := (-1)) hx hb dX5_format_22 (by decide) ?_
    refine ckVv (As := [.int (-1), .int (-1)]) (rest := []) 0 [4, 5, 6] (c_X0_add l X ch ck cv ckf cvf (none : Op) ([] : List Op) ch_nil (by decide) trivial) ⟨hx, hb, hml, hown, hts⟩ (cwV 2 hts gX5_format_X0_add rfl rfl rfl (by decide +kernel) ⟨Nat.le_of_ble_eq_true rfl, Nat.le_of_ble_eq_true rfl⟩) hK hN hP hD hS (by decide) rfl (ci := 0) rfl rfl (fun _ => rfl) rfl hl.1 rfl (Nat.le_of_ble_eq_true rfl) dX5_format_23 ⟨Nat.zero_le _, Nat.zero_le _⟩ (fun u_3 H locs hca hP hD hS => ?_)
    obtain ⟨ck2, cv2⟩ := u_3
    have hP : va_P X.1 vwCl [(a, .inr (5, [.int (nI bl), .int (nI bk), .int (nI sp), .ref d, .ref p, .ref t, .ref t2, .ref ch, .ref rs, .int (nI 1), .int (nI 1), .int (nI cp)])), (d, .inr (1, [.ref h, .ref lk, .ref lv, .int (nI se)])), (lk, .inl (X.2.1, 60, .inl lkf)), (lv, .inl (X.2.1, 60, .inl lvf)), (ch, .inr (0, [.ref ck, .ref cv, .int (nI (([] : List Op).length + 1))])), (ck, .inl (X.2.1, 60, .inl ck2)), (cv, .inl (X.2.1, 60, .inl cv2)), (h, .inr (2, [.ref hk, .ref hv, .int (nI Hm.length), .int (nI wh)])), (hk, .inl (X.2.1, 512, .inl hkf)), (hv, .inl (X.2.1, 512, .inl hvf)), (p, .inr (2, [.ref pk, .ref pv, .int (nI n), .int (nI w)])), (rs, .inr (3, [.ref rk_, .ref rv, .ref rd, .int (nI nr)]))] H := hP
    have hD : va_D A_ [(a, .inr (5, [.int (nI bl), .int (nI bk), .int (nI sp), .ref d, .ref p, .ref t, .ref t2, .ref ch, .ref rs, .int (nI 1), .int (nI 1), .int (nI cp)])), (d, .inr (1, [.ref h, .ref lk, .ref lv, .int (nI se)])), (lk, .inl (X.2.1, 60, .inl lkf)), (lv, .inl (X.2.1, 60, .inl lvf)), (ch, .inr (0, [.ref ck, .ref cv, .int (nI (([] : List Op).length + 1))])), (ck, .inl (X.2.1, 60, .inl ck2)), (cv, .inl (X.2.1, 60, .inl cv2)), (h, .inr (2, [.ref hk, .ref hv, .int (nI Hm.length), .int (nI wh)])), (hk, .inl (X.2.1, 512, .inl hkf)), (hv, .inl (X.2.1, 512, .inl hvf)), (p, .inr (2, [.ref pk, .ref pv, .int (nI n), .int (nI w)])), (rs, .inr (3, [.ref rk_, .ref rv, .ref rd, .int (nI nr)]))] := hD
    try dsimp only at hca
    have hca : chOk ck2 cv2 [(none : Op)] := hca
    refine lv_aload_n hx hb dX5_format_26 rfl (lv_at hl 0 rfl) ?_
    refine ckVi (As := []) (rest := []) 0 [0, 1, 2, 3, 4, 5, 6, 7, 8, 9, 10, 11] (c_X5_writeChanges_b l X a d p t t2 ch rs sp bl bk cp h lk lv se pk pv n w ck cv rk_ rv rd nr hk hv wh lkf lvf ck2 cv2 hkf hvf ([(none : Op)]) Hm hca hp hcp hcap1) ⟨hx, hb, hml, hown, hts⟩ (cwV 0 hts gX5_format_X5_writeChanges rfl rfl rfl (by decide +kernel) ⟨Nat.le_of_ble_eq_true rfl, Nat.le_of_ble_eq_true rfl⟩) hK hN hP hD hS (by decide) rfl (ci := 5) rfl rfl (fun _ => rfl) rfl hl.1 rfl (Nat.le_of_ble_eq_true rfl) dX5_format_27 ⟨Nat.zero_le _, Nat.zero_le _⟩ (fun r_6 u_5 H locs hc_27 hP hD hS => ?_)
    obtain ⟨lk2, lv2, hk2, hv2⟩ := u_5
    have hP : va_P X.1 vwCl [(a, .inr (5, [.int (nI bl), .int (nI bk), .int (nI sp), .ref d, .ref p, .ref t, .ref t2, .ref ch, .ref rs, .int (nI 0), .int (-1), .int (nI cp)])), (d, .inr (1, [.ref h, .ref lk, .ref lv, .int (nI (([(none : Op)]).length))])), (lk, .inl (X.2.1, 60, .inl lk2)), (lv, .inl (X.2.1, 60, .inl lv2)), (ch, .inr (0, [.ref ck, .ref cv, .int (nI 0)])), (ck, .inl (X.2.1, 60, .inl ck2)), (cv, .inl (X.2.1, 60, .inl cv2)), (h, .inr (2, [.ref hk, .ref hv, .int (nI ((apL Hm (([(none : Op)]).take (([(none : Op)]).length * cp / 256))).length)), .int (nI (avL Hm wh (([(none : Op)]).take (([(none : Op)]).length * cp / 256))))])), (hk, .inl (X.2.1, 512, .inl hk2)), (hv, .inl (X.2.1, 512, .inl hv2)), (p, .inr (2, [.ref pk, .ref pv, .int (nI 0), .int (nI (w + 1))])), (rs, .inr (3, [.ref rk_, .ref rv, .ref rd, .int (nI 0)]))] H := hP
    have hD : va_D A_ [(a, .inr (5, [.int (nI bl), .int (nI bk), .int (nI sp), .ref d, .ref p, .ref t, .ref t2, .ref ch, .ref rs, .int (nI 0), .int (-1), .int (nI cp)])), (d, .inr (1, [.ref h, .ref lk, .ref lv, .int (nI (([(none : Op)]).length))])), (lk, .inl (X.2.1, 60, .inl lk2)), (lv, .inl (X.2.1, 60, .inl lv2)), (ch, .inr (0, [.ref ck, .ref cv, .int (nI 0)])), (ck, .inl (X.2.1, 60, .inl ck2)), (cv, .inl (X.2.1, 60, .inl cv2)), (h, .inr (2, [.ref hk, .ref hv, .int (nI ((apL Hm (([(none : Op)]).take (([(none : Op)]).length * cp / 256))).length)), .int (nI (avL Hm wh (([(none : Op)]).take (([(none : Op)]).length * cp / 256))))])), (hk, .inl (X.2.1, 512, .inl hk2)), (hv, .inl (X.2.1, 512, .inl hv2)), (p, .inr (2, [.ref pk, .ref pv, .int (nI 0), .int (nI (w + 1))])), (rs, .inr (3, [.ref rk_, .ref rv, .ref rd, .int (nI 0)]))] := hD
    try dsimp only at hc_27
    obtain ⟨rfl, hq1, hq2⟩ := hc_27
    · skip
      skip
      refine lv_if_ne (tgt := 36) hx hb dX5_format_30 (by decide) (fun c_30 => ?_) (fun c_30 => ?_)
      · exact absurd c_30 (by decide)
      · skip
        refine lv_bipush (v := (-2)) hx hb dX5_format_33 (by decide) ?_
        refine wM hQ ?_
        exact rtI (lk2, lv2, hk2, hv2, ck2, cv2) hx hb hr hlocks hP hS (⟨rfl, hq1, hq2⟩) dX5_format_35
  · exact absurd c_4 (by decide)
set_option maxHeartbeats 4000000 in
set_option maxRecDepth 100000 in
theorem c_X5_format_n (l : Launch) (X : kX) (a d p t t2 ch rs sp bl bk cp : Nat) (f_ct : Int32) (h lk lv se ck cv : Nat) (hk hv wh : Nat) (lkf lvf ckf cvf hkf hvf : Nat → Int32) (nc : Nat) (Hm : PL)  (hp : ptOk hkf hvf Hm)  (hn0 : ¬ f_ct = 0) (hn1 : ¬ f_ct = nI 1) (pk pv n w : Nat) : CWi l X yX5_format wsX5_format 5 [.ref a] [(a, .inr (5, [.int (nI bl), .int (nI bk), .int (nI sp), .ref d, .ref p, .ref t, .ref t2, .ref ch, .ref rs, .int (nI 1), .int f_ct, .int (nI cp)])), (d, .inr (1, [.ref h, .ref lk, .ref lv, .int (nI se)])), (lk, .inl (X.2.1, 60, .inl lkf)), (lv, .inl (X.2.1, 60, .inl lvf)), (ch, .inr (0, [.ref ck, .ref cv, .int (nI nc)])), (ck, .inl (X.2.1, 60, .inl ckf)), (cv, .inl (X.2.1, 60, .inl cvf)), (h, .inr (2, [.ref hk, .ref hv, .int (nI Hm.length), .int (nI wh)])), (hk, .inl (X.2.1, 512, .inl hkf)), (hv, .inl (X.2.1, 512, .inl hvf)), (p, .inr (2, [.ref pk, .ref pv, .int (nI n), .int (nI w)]))] (S := (Nat → Int32) × (Nat → Int32) × (Nat → Int32) × (Nat → Int32) × (Nat → Int32) × (Nat → Int32)) (fun r u => r = nI 0) (fun ⟨lk2, lv2, hk2, hv2, ck2, cv2⟩ => [(a, .inr (5, [.int (nI bl), .int (nI bk), .int (nI sp), .ref d, .ref p, .ref t, .ref t2, .ref ch, .ref rs, .int (nI 1), .int f_ct, .int (nI cp)])), (d, .inr (1, [.ref h, .ref lk, .ref lv, .int (nI 0)])), (lk, .inl (X.2.1, 60, .inl lk2)), (lv, .inl (X.2.1, 60, .inl lv2)), (ch, .inr (0, [.ref ck, .ref cv, .int (nI 0)])), (ck, .inl (X.2.1, 60, .inl ck2)), (cv, .inl (X.2.1, 60, .inl cv2)), (h, .inr (2, [.ref hk, .ref hv, .int (nI 0), .int (nI (wh + 1))])), (hk, .inl (X.2.1, 512, .inl hk2)), (hv, .inl (X.2.1, 512, .inl hv2)), (p, .inr (2, [.ref pk, .ref pv, .int (nI 0), .int (nI (w + 1))]))]) := by
  refine Met.ofW (cc := cX5_format) (maxL := 1) (ret := some (.int)) (by decide) rfl ?_
  intro pz ez sz mz args below meth cz s₁ Bz hml hv
  obtain ⟨rfl, hP, hK, hD0, hN⟩ := hv
  have hx := Bz.exec
  have hb := Bz.bytes
  have hr := Bz.returns
  have hts := atoms_spec (ws := wsX5_format) Bz.pre
  have hown : sz.vm.findClass RX5 = some mz.cls := findClass_of_methodNamed Bz.named
  have hlocks := Bz.notSynchronized
  have hD := inW.self hD0
  have hS : va_S (inW [(a, .inr (5, [.int (nI bl), .int (nI bk), .int (nI sp), .ref d, .ref p, .ref t, .ref t2, .ref ch, .ref rs, .int (nI 1), .int f_ct, .int (nI cp)])), (d, .inr (1, [.ref h, .ref lk, .ref lv, .int (nI se)])), (lk, .inl (X.2.1, 60, .inl lkf)), (lv, .inl (X.2.1, 60, .inl lvf)), (ch, .inr (0, [.ref ck, .ref cv, .int (nI nc)])), (ck, .inl (X.2.1, 60, .inl ckf)), (cv, .inl (X.2.1, 60, .inl cvf)), (h, .inr (2, [.ref hk, .ref hv, .int (nI Hm.length), .int (nI wh)])), (hk, .inl (X.2.1, 512, .inl hkf)), (hv, .inl (X.2.1, 512, .inl hvf)), (p, .inr (2, [.ref pk, .ref pv, .int (nI n), .int (nI w)]))]) sz.heap sz.heap [] := va_S.rf
  have hl := lv_entry ([.ref a]) (n := 1) (Nat.le_of_ble_eq_true rfl)
  rw [lg_entry_eq]
  generalize (lg_sl ([.ref a]) ++ List.replicate (1 - (lg_sl ([.ref a])).length) Slot.unset).toArray = ls at hl ⊢
  have hl : lv_has ls 1 [(0, .ref a)] := hl
  have lk35 := hts (.fieldLink RX5 35 "PointStore" "pending" "LPointStore$Points;") (by decide +kernel)
  have lk54 := hts (.fieldLink RX5 54 "PointStore" "changes" "LPointStore$Changes;") (by decide +kernel)
  have lk65 := hts (.fieldLink RX5 65 "PointStore" "powered" "Z") (by decide +kernel)
  have hin5 : ∀ w ∈ u_ws RX5 TX5 12, w ∈ wsX5_format := by decide +kernel
  refine wQ (fun Q hQ => ?_)
  generalize hAe : inW [(a, .inr (5, [.int (nI bl), .int (nI bk), .int (nI sp), .ref d, .ref p, .ref t, .ref t2, .ref ch, .ref rs, .int (nI 1), .int f_ct, .int (nI cp)])), (d, .inr (1, [.ref h, .ref lk, .ref lv, .int (nI se)])), (lk, .inl (X.2.1, 60, .inl lkf)), (lv, .inl (X.2.1, 60, .inl lvf)), (ch, .inr (0, [.ref ck, .ref cv, .int (nI nc)])), (ck, .inl (X.2.1, 60, .inl ckf)), (cv, .inl (X.2.1, 60, .inl cvf)), (h, .inr (2, [.ref hk, .ref hv, .int (nI Hm.length), .int (nI wh)])), (hk, .inl (X.2.1, 512, .inl hkf)), (hv, .inl (X.2.1, 512, .inl hvf)), (p, .inr (2, [.ref pk, .ref pv, .int (nI n), .int (nI w)]))] = A_ at hD hS hQ
  have hcap1 : ∀ j, j ≤ [(none : Op)].length → (apL Hm ([(none : Op)].take j)).length ≤ 512 := fun j hj => by
    rcases (show j = 0 ∨ j = 1 by simp at hj; omega) with rfl | rfl
    · exact hp.1
    · exact Nat.zero_le _
  refine lv_aload_n hx hb dX5_format_0 rfl (lv_at hl 0 rfl) ?_
  refine va_get (D := X.1) (ci := 5) (v := .int (nI 1)) (C := RX5) (T := TX5) (N := 12) hx hb hts hin5 hown hK hP 0 rfl rfl 9 (by decide) lk65 (fun _ h9 => h9) rfl dX5_format_1 ?_
  refine lv_if_ne (tgt := 10) hx hb dX5_format_4 (by decide) (fun c_4 => ?_) (fun c_4 => ?_)
  · skip
    refine lv_aload_n hx hb dX5_format_10 rfl (lv_at hl 0 rfl) ?_
    refine va_get (D := X.1) (ci := 5) (v := .ref ch) (C := RX5) (T := TX5) (N := 12) hx hb hts hin5 hown hK hP 0 rfl rfl 7 (by decide) lk54 (fun _ h9 => h9) rfl dX5_format_11 ?_
    refine ckVv (As := []) (rest := []) 0 [4] (c_X0_clear l X ch ck cv (nI nc)) ⟨hx, hb, hml, hown, hts⟩ (cwV 0 hts gX5_format_X0_clear rfl rfl rfl (by decide +kernel) ⟨Nat.le_of_ble_eq_true rfl, Nat.le_of_ble_eq_true rfl⟩) hK hN hP hD hS (by decide) rfl (ci := 0) rfl rfl (fun _ => rfl) rfl hl.1 rfl (Nat.le_of_ble_eq_true rfl) dX5_format_14 ⟨Nat.zero_le _, Nat.zero_le _⟩ (fun u_1 H locs hc_14 hP hD hS => ?_)
    have hP : va_P X.1 vwCl [(a, .inr (5, [.int (nI bl), .int (nI bk), .int (nI sp), .ref d, .ref p, .ref t, .ref t2, .ref ch, .ref rs, .int (nI 1), .int f_ct, .int (nI cp)])), (d, .inr (1, [.ref h, .ref lk, .ref lv, .int (nI se)])), (lk, .inl (X.2.1, 60, .inl lkf)), (lv, .inl (X.2.1, 60, .inl lvf)), (ch, .inr (0, [.ref ck, .ref cv, .int (nI 0)])), (ck, .inl (X.2.1, 60, .inl ckf)), (cv, .inl (X.2.1, 60, .inl cvf)), (h, .inr (2, [.ref hk, .ref hv, .int (nI Hm.length), .int (nI wh)])), (hk, .inl (X.2.1, 512, .inl hkf)), (hv, .inl (X.2.1, 512, .inl hvf)), (p, .inr (2, [.ref pk, .ref pv, .int (nI n), .int (nI w)]))] H := hP
    have hD : va_D A_ [(a, .inr (5, [.int (nI bl), .int (nI bk), .int (nI sp), .ref d, .ref p, .ref t, .ref t2, .ref ch, .ref rs, .int (nI 1), .int f_ct, .int (nI cp)])), (d, .inr (1, [.ref h, .ref lk, .ref lv, .int (nI se)])), (lk, .inl (X.2.1, 60, .inl lkf)), (lv, .inl (X.2.1, 60, .inl lvf)), (ch, .inr (0, [.ref ck, .ref cv, .int (nI 0)])), (ck, .inl (X.2.1, 60, .inl ckf)), (cv, .inl (X.2.1, 60, .inl cvf)), (h, .inr (2, [.ref hk, .ref hv, .int (nI Hm.length), .int (nI wh)])), (hk, .inl (X.2.1, 512, .inl hkf)), (hv, .inl (X.2.1, 512, .inl hvf)), (p, .inr (2, [.ref pk, .ref pv, .int (nI n), .int (nI w)]))] := hD
    refine lv_aload_n hx hb dX5_format_17 rfl (lv_at hl 0 rfl) ?_
    refine va_get (D := X.1) (ci := 5) (v := .ref ch) (C := RX5) (T := TX5) (N := 12) hx hb hts hin5 hown hK hP 0 rfl rfl 7 (by decide) lk54 (fun _ h9 => h9) rfl dX5_format_18 ?_
    refine lv_iconst (v := (-1)) hx hb dX5_format_21 (by decide) ?_
    refine lv_iconst (v := (-1)) hx hb dX5_format_22 (by decide) ?_
    refine ckVv (As := [.int (-1), .int (-1)]) (rest := []) 0 [4, 5, 6] (c_X0_add l X ch ck cv ckf cvf (none : Op) ([] : List Op) ch_nil (by decide) trivial) ⟨hx, hb, hml, hown, hts⟩ (cwV 2 hts gX5_format_X0_add rfl rfl rfl (by decide +kernel) ⟨Nat.le_of_ble_eq_true rfl, Nat.le_of_ble_eq_true rfl⟩) hK hN hP hD hS (by decide) rfl (ci := 0) rfl rfl (fun _ => rfl) rfl hl.1 rfl (Nat.le_of_ble_eq_true rfl) dX5_format_23 ⟨Nat.zero_le _, Nat.zero_le _⟩ (fun u_3 H locs hca hP hD hS => ?_)
    obtain ⟨ck2, cv2⟩ := u_3
    have hP : va_P X.1 vwCl [(a, .inr (5, [.int (nI bl), .int (nI bk), .int (nI sp), .ref d, .ref p, .ref t, .ref t2, .ref ch, .ref rs, .int (nI 1), .int f_ct, .int (nI cp)])), (d, .inr (1, [.ref h, .ref lk, .ref lv, .int (nI se)])), (lk, .inl (X.2.1, 60, .inl lkf)), (lv, .inl (X.2.1, 60, .inl lvf)), (ch, .inr (0, [.ref ck, .ref cv, .int (nI (([] : List Op).length + 1))])), (ck, .inl (X.2.1, 60, .inl ck2)), (cv, .inl (X.2.1, 60, .inl cv2)), (h, .inr (2, [.ref hk, .ref hv, .int (nI Hm.length), .int (nI wh)])), (hk, .inl (X.2.1, 512, .inl hkf)), (hv, .inl (X.2.1, 512, .inl hvf)), (p, .inr (2, [.ref pk, .ref pv, .int (nI n), .int (nI w)]))] H := hP
    have hD : va_D A_ [(a, .inr (5, [.int (nI bl), .int (nI bk), .int (nI sp), .ref d, .ref p, .ref t, .ref t2, .ref ch, .ref rs, .int (nI 1), .int f_ct, .int (nI cp)])), (d, .inr (1, [.ref h, .ref lk, .ref lv, .int (nI se)])), (lk, .inl (X.2.1, 60, .inl lkf)), (lv, .inl (X.2.1, 60, .inl lvf)), (ch, .inr (0, [.ref ck, .ref cv, .int (nI (([] : List Op).length + 1))])), (ck, .inl (X.2.1, 60, .inl ck2)), (cv, .inl (X.2.1, 60, .inl cv2)), (h, .inr (2, [.ref hk, .ref hv, .int (nI Hm.length), .int (nI wh)])), (hk, .inl (X.2.1, 512, .inl hkf)), (hv, .inl (X.2.1, 512, .inl hvf)), (p, .inr (2, [.ref pk, .ref pv, .int (nI n), .int (nI w)]))] := hD
    try dsimp only at hca
    have hca : chOk ck2 cv2 [(none : Op)] := hca
    refine lv_aload_n hx hb dX5_format_26 rfl (lv_at hl 0 rfl) ?_
    refine ckVi (As := []) (rest := []) 0 [0, 1, 2, 3, 4, 5, 6, 7, 8, 9] (c_X5_writeChanges_n l X a d p t t2 ch rs sp bl bk cp f_ct h lk lv se ck cv hk hv wh lkf lvf ck2 cv2 hkf hvf ([(none : Op)]) Hm hca hp hcap1 hn0 hn1) ⟨hx, hb, hml, hown, hts⟩ (cwV 0 hts gX5_format_X5_writeChanges rfl rfl rfl (by decide +kernel) ⟨Nat.le_of_ble_eq_true rfl, Nat.le_of_ble_eq_true rfl⟩) hK hN hP hD hS (by decide) rfl (ci := 5) rfl rfl (fun _ => rfl) rfl hl.1 rfl (Nat.le_of_ble_eq_true rfl) dX5_format_27 ⟨Nat.zero_le _, Nat.zero_le _⟩ (fun r_6 u_5 H locs hc_27 hP hD hS => ?_)
    obtain ⟨lk2, lv2, hk2, hv2⟩ := u_5
    have hP : va_P X.1 vwCl [(a, .inr (5, [.int (nI bl), .int (nI bk), .int (nI sp), .ref d, .ref p, .ref t, .ref t2, .ref ch, .ref rs, .int (nI 1), .int f_ct, .int (nI cp)])), (d, .inr (1, [.ref h, .ref lk, .ref lv, .int (nI 0)])), (lk, .inl (X.2.1, 60, .inl lk2)), (lv, .inl (X.2.1, 60, .inl lv2)), (ch, .inr (0, [.ref ck, .ref cv, .int (nI (([(none : Op)]).length))])), (ck, .inl (X.2.1, 60, .inl ck2)), (cv, .inl (X.2.1, 60, .inl cv2)), (h, .inr (2, [.ref hk, .ref hv, .int (nI ((apL Hm ([(none : Op)])).length)), .int (nI (avL Hm wh ([(none : Op)])))])), (hk, .inl (X.2.1, 512, .inl hk2)), (hv, .inl (X.2.1, 512, .inl hv2)), (p, .inr (2, [.ref pk, .ref pv, .int (nI n), .int (nI w)]))] H := hP
    have hD : va_D A_ [(a, .inr (5, [.int (nI bl), .int (nI bk), .int (nI sp), .ref d, .ref p, .ref t, .ref t2, .ref ch, .ref rs, .int (nI 1), .int f_ct, .int (nI cp)])), (d, .inr (1, [.ref h, .ref lk, .ref lv, .int (nI 0)])), (lk, .inl (X.2.1, 60, .inl lk2)), (lv, .inl (X.2.1, 60, .inl lv2)), (ch, .inr (0, [.ref ck, .ref cv, .int (nI (([(none : Op)]).length))])), (ck, .inl (X.2.1, 60, .inl ck2)), (cv, .inl (X.2.1, 60, .inl cv2)), (h, .inr (2, [.ref hk, .ref hv, .int (nI ((apL Hm ([(none : Op)])).length)), .int (nI (avL Hm wh ([(none : Op)])))])), (hk, .inl (X.2.1, 512, .inl hk2)), (hv, .inl (X.2.1, 512, .inl hv2)), (p, .inr (2, [.ref pk, .ref pv, .int (nI n), .int (nI w)]))] := hD
    try dsimp only at hc_27
    obtain ⟨rfl, hq2⟩ := hc_27
    · skip
      skip
      refine lv_if_ne (tgt := 36) hx hb dX5_format_30 (by decide) (fun c_30 => ?_) (fun c_30 => ?_)
      · skip
        refine lv_aload_n hx hb dX5_format_36 rfl (lv_at hl 0 rfl) ?_
        refine va_get (D := X.1) (ci := 5) (v := .ref ch) (C := RX5) (T := TX5) (N := 12) hx hb hts hin5 hown hK hP 0 rfl rfl 7 (by decide) lk54 (fun _ h9 => h9) rfl dX5_format_37 ?_
        refine ckVv (As := []) (rest := []) 0 [4] (c_X0_clear l X ch ck cv (nI (([(none : Op)]).length))) ⟨hx, hb, hml, hown, hts⟩ (cwV 0 hts gX5_format_X0_clear rfl rfl rfl (by decide +kernel) ⟨Nat.le_of_ble_eq_true rfl, Nat.le_of_ble_eq_true rfl⟩) hK hN hP hD hS (by decide) rfl (ci := 0) rfl rfl (fun _ => rfl) rfl hl.1 rfl (Nat.le_of_ble_eq_true rfl) dX5_format_40 ⟨Nat.zero_le _, Nat.zero_le _⟩ (fun u_7 H locs hc_40 hP hD hS => ?_)
        have hP : va_P X.1 vwCl [(a, .inr (5, [.int (nI bl), .int (nI bk), .int (nI sp), .ref d, .ref p, .ref t, .ref t2, .ref ch, .ref rs, .int (nI 1), .int f_ct, .int (nI cp)])), (d, .inr (1, [.ref h, .ref lk, .ref lv, .int (nI 0)])), (lk, .inl (X.2.1, 60, .inl lk2)), (lv, .inl (X.2.1, 60, .inl lv2)), (ch, .inr (0, [.ref ck, .ref cv, .int (nI 0)])), (ck, .inl (X.2.1, 60, .inl ck2)), (cv, .inl (X.2.1, 60, .inl cv2)), (h, .inr (2, [.ref hk, .ref hv, .int (nI ((apL Hm ([(none : Op)])).length)), .int (nI (avL Hm wh ([(none : Op)])))])), (hk, .inl (X.2.1, 512, .inl hk2)), (hv, .inl (X.2.1, 512, .inl hv2)), (p, .inr (2, [.ref pk, .ref pv, .int (nI n), .int (nI w)]))] H := hP
        have hD : va_D A_ [(a, .inr (5, [.int (nI bl), .int (nI bk), .int (nI sp), .ref d, .ref p, .ref t, .ref t2, .ref ch, .ref rs, .int (nI 1), .int f_ct, .int (nI cp)])), (d, .inr (1, [.ref h, .ref lk, .ref lv, .int (nI 0)])), (lk, .inl (X.2.1, 60, .inl lk2)), (lv, .inl (X.2.1, 60, .inl lv2)), (ch, .inr (0, [.ref ck, .ref cv, .int (nI 0)])), (ck, .inl (X.2.1, 60, .inl ck2)), (cv, .inl (X.2.1, 60, .inl cv2)), (h, .inr (2, [.ref hk, .ref hv, .int (nI ((apL Hm ([(none : Op)])).length)), .int (nI (avL Hm wh ([(none : Op)])))])), (hk, .inl (X.2.1, 512, .inl hk2)), (hv, .inl (X.2.1, 512, .inl hv2)), (p, .inr (2, [.ref pk, .ref pv, .int (nI n), .int (nI w)]))] := hD
        refine lv_aload_n hx hb dX5_format_43 rfl (lv_at hl 0 rfl) ?_
        refine va_get (D := X.1) (ci := 5) (v := .ref p) (C := RX5) (T := TX5) (N := 12) hx hb hts hin5 hown hK hP 0 rfl rfl 4 (by decide) lk35 (fun _ h9 => h9) rfl dX5_format_44 ?_
        refine ckVv (As := []) (rest := []) 0 [10] (c_X2_clear l X p pk pv n w) ⟨hx, hb, hml, hown, hts⟩ (cwV 0 hts gX5_format_X2_clear rfl rfl rfl (by decide +kernel) ⟨Nat.le_of_ble_eq_true rfl, Nat.le_of_ble_eq_true rfl⟩) hK hN hP hD hS (by decide) rfl (ci := 2) rfl rfl (fun _ => rfl) rfl hl.1 rfl (Nat.le_of_ble_eq_true rfl) dX5_format_47 ⟨Nat.zero_le _, Nat.zero_le _⟩ (fun u_9 H locs hc_47 hP hD hS => ?_)
        have hP : va_P X.1 vwCl [(a, .inr (5, [.int (nI bl), .int (nI bk), .int (nI sp), .ref d, .ref p, .ref t, .ref t2, .ref ch, .ref rs, .int (nI 1), .int f_ct, .int (nI cp)])), (d, .inr (1, [.ref h, .ref lk, .ref lv, .int (nI 0)])), (lk, .inl (X.2.1, 60, .inl lk2)), (lv, .inl (X.2.1, 60, .inl lv2)), (ch, .inr (0, [.ref ck, .ref cv, .int (nI 0)])), (ck, .inl (X.2.1, 60, .inl ck2)), (cv, .inl (X.2.1, 60, .inl cv2)), (h, .inr (2, [.ref hk, .ref hv, .int (nI ((apL Hm ([(none : Op)])).length)), .int (nI (avL Hm wh ([(none : Op)])))])), (hk, .inl (X.2.1, 512, .inl hk2)), (hv, .inl (X.2.1, 512, .inl hv2)), (p, .inr (2, [.ref pk, .ref pv, .int (nI 0), .int (nI (w + 1))]))] H := hP
        have hD : va_D A_ [(a, .inr (5, [.int (nI bl), .int (nI bk), .int (nI sp), .ref d, .ref p, .ref t, .ref t2, .ref ch, .ref rs, .int (nI 1), .int f_ct, .int (nI cp)])), (d, .inr (1, [.ref h, .ref lk, .ref lv, .int (nI 0)])), (lk, .inl (X.2.1, 60, .inl lk2)), (lv, .inl (X.2.1, 60, .inl lv2)), (ch, .inr (0, [.ref ck, .ref cv, .int (nI 0)])), (ck, .inl (X.2.1, 60, .inl ck2)), (cv, .inl (X.2.1, 60, .inl cv2)), (h, .inr (2, [.ref hk, .ref hv, .int (nI ((apL Hm ([(none : Op)])).length)), .int (nI (avL Hm wh ([(none : Op)])))])), (hk, .inl (X.2.1, 512, .inl hk2)), (hv, .inl (X.2.1, 512, .inl hv2)), (p, .inr (2, [.ref pk, .ref pv, .int (nI 0), .int (nI (w + 1))]))] := hD
        refine lv_iconst (v := nI 0) hx hb dX5_format_50 (by decide) ?_
        refine wM hQ ?_
        exact rtI (lk2, lv2, hk2, hv2, ck2, cv2) hx hb hr hlocks hP hS (rfl) dX5_format_51
      · exact absurd c_30 (by decide)
  · exact absurd c_4 (by decide)
set_option maxHeartbeats 4000000 in
set_option maxRecDepth 100000 in
theorem c_X5_recover_a (l : Launch) (X : kX) (a d p t t2 ch rs sp bl bk cp : Nat)  (h lk lv pk pv n w hk hv wh ck cv nc rk_ rv rd nr : Nat) (f_pw : Int32) (lkf lvf pkf pvf hkf hvf : Nat → Int32) (C : List Op) (Hm : PL) (hc : chOk lkf lvf C) (hp : ptOk hkf hvf Hm) (hcp : cp ≤ 256) (hcap : ∀ j, j ≤ C.length → (apL Hm (C.take j)).length ≤ 512) : CWi l X yX5_recover wsX5_recover 5 [.ref a] [(a, .inr (5, [.int (nI bl), .int (nI bk), .int (nI sp), .ref d, .ref p, .ref t, .ref t2, .ref ch, .ref rs, .int f_pw, .int (nI 2), .int (nI cp)])), (d, .inr (1, [.ref h, .ref lk, .ref lv, .int (nI C.length)])), (lk, .inl (X.2.1, 60, .inl lkf)), (lv, .inl (X.2.1, 60, .inl lvf)), (h, .inr (2, [.ref hk, .ref hv, .int (nI Hm.length), .int (nI wh)])), (hk, .inl (X.2.1, 512, .inl hkf)), (hv, .inl (X.2.1, 512, .inl hvf)), (p, .inr (2, [.ref pk, .ref pv, .int (nI n), .int (nI w)])), (ch, .inr (0, [.ref ck, .ref cv, .int (nI nc)])), (rs, .inr (3, [.ref rk_, .ref rv, .ref rd, .int (nI nr)]))] (S := (Nat → Int32) × (Nat → Int32)) (fun r u => r = -2 ∧ ptOk u.1 u.2 (apL Hm (C.take (C.length * cp / 256)))) (fun ⟨hk2, hv2⟩ => [(a, .inr (5, [.int (nI bl), .int (nI bk), .int (nI sp), .ref d, .ref p, .ref t, .ref t2, .ref ch, .ref rs, .int (nI 0), .int (-1), .int (nI cp)])), (d, .inr (1, [.ref h, .ref lk, .ref lv, .int (nI C.length)])), (lk, .inl (X.2.1, 60, .inl lkf)), (lv, .inl (X.2.1, 60, .inl lvf)), (h, .inr (2, [.ref hk, .ref hv, .int (nI ((apL Hm (C.take (C.length * cp / 256))).length)), .int (nI (avL Hm wh (C.take (C.length * cp / 256))))])), (hk, .inl (X.2.1, 512, .inl hk2)), (hv, .inl (X.2.1, 512, .inl hv2)), (p, .inr (2, [.ref pk, .ref pv, .int (nI 0), .int (nI (w + 1))])), (ch, .inr (0, [.ref ck, .ref cv, .int (nI 0)])), (rs, .inr (3, [.ref rk_, .ref rv, .ref rd, .int (nI 0)]))]) := by
  refine Met.ofW (cc := cX5_recover) (maxL := 1) (ret := some (.int)) (by decide) rfl ?_
  intro pz ez sz mz args below meth cz s₁ Bz hml hv
  obtain ⟨rfl, hP, hK, hD0, hN⟩ := hv
  have hx := Bz.exec
  have hb := Bz.bytes
  have hr := Bz.returns
  have hts := atoms_spec (ws := wsX5_recover) Bz.pre
  have hown : sz.vm.findClass RX5 = some mz.cls := findClass_of_methodNamed Bz.named
  have hlocks := Bz.notSynchronized
  have hD := inW.self hD0
  have hS : va_S (inW [(a, .inr (5, [.int (nI bl), .int (nI bk), .int (nI sp), .ref d, .ref p, .ref t, .ref t2, .ref ch, .ref rs, .int f_pw, .int (nI 2), .int (nI cp)])), (d, .inr (1, [.ref h, .ref lk, .ref lv, .int (nI C.length)])), (lk, .inl (X.2.1, 60, .inl lkf)), (lv, .inl (X.2.1, 60, .inl lvf)), (h, .inr (2, [.ref hk, .ref hv, .int (nI Hm.length), .int (nI wh)])), (hk, .inl (X.2.1, 512, .inl hkf)), (hv, .inl (X.2.1, 512, .inl hvf)), (p, .inr (2, [.ref pk, .ref pv, .int (nI n), .int (nI w)])), (ch, .inr (0, [.ref ck, .ref cv, .int (nI nc)])), (rs, .inr (3, [.ref rk_, .ref rv, .ref rd, .int (nI nr)]))]) sz.heap sz.heap [] := va_S.rf
  have hl := lv_entry ([.ref a]) (n := 1) (Nat.le_of_ble_eq_true rfl)
  rw [lg_entry_eq]
  generalize (lg_sl ([.ref a]) ++ List.replicate (1 - (lg_sl ([.ref a])).length) Slot.unset).toArray = ls at hl ⊢
  have hl : lv_has ls 1 [(0, .ref a)] := hl
  have lk31 := hts (.fieldLink RX5 31 "PointStore" "disk" "LPointStore$Disk;") (by decide +kernel)
  have lk69 := hts (.fieldLink RX5 69 "PointStore" "cut" "I") (by decide +kernel)
  have lk72 := hts (.fieldLink RX5 72 "PointStore" "cutParts" "I") (by decide +kernel)
  have hin5 : ∀ w ∈ u_ws RX5 TX5 12, w ∈ wsX5_recover := by decide +kernel
  refine wQ (fun Q hQ => ?_)
  generalize hAe : inW [(a, .inr (5, [.int (nI bl), .int (nI bk), .int (nI sp), .ref d, .ref p, .ref t, .ref t2, .ref ch, .ref rs, .int f_pw, .int (nI 2), .int (nI cp)])), (d, .inr (1, [.ref h, .ref lk, .ref lv, .int (nI C.length)])), (lk, .inl (X.2.1, 60, .inl lkf)), (lv, .inl (X.2.1, 60, .inl lvf)), (h, .inr (2, [.ref hk, .ref hv, .int (nI Hm.length), .int (nI wh)])), (hk, .inl (X.2.1, 512, .inl hkf)), (hv, .inl (X.2.1, 512, .inl hvf)), (p, .inr (2, [.ref pk, .ref pv, .int (nI n), .int (nI w)])), (ch, .inr (0, [.ref ck, .ref cv, .int (nI nc)])), (rs, .inr (3, [.ref rk_, .ref rv, .ref rd, .int (nI nr)]))] = A_ at hD hS hQ
  refine lv_aload_n hx hb dX5_recover_0 rfl (lv_at hl 0 rfl) ?_
  refine va_get (D := X.1) (ci := 5) (v := .int (nI 2)) (C := RX5) (T := TX5) (N := 12) hx hb hts hin5 hown hK hP 0 rfl rfl 10 (by decide) lk69 (fun _ h9 => h9) rfl dX5_recover_1 ?_
  refine lv_iconst (v := nI 2) hx hb dX5_recover_4 (by decide) ?_
  refine lv_icmp_ne (tgt := 26) hx hb dX5_recover_5 (by decide) (fun c_5 => ?_) (fun c_5 => ?_)
  · exact absurd c_5 (by decide)
  · skip
    refine lv_aload_n hx hb dX5_recover_8 rfl (lv_at hl 0 rfl) ?_
    refine va_get (D := X.1) (ci := 5) (v := .ref d) (C := RX5) (T := TX5) (N := 12) hx hb hts hin5 hown hK hP 0 rfl rfl 3 (by decide) lk31 (fun _ h9 => h9) rfl dX5_recover_9 ?_
    refine lv_aload_n hx hb dX5_recover_12 rfl (lv_at hl 0 rfl) ?_
    refine va_get (D := X.1) (ci := 5) (v := .int (nI cp)) (C := RX5) (T := TX5) (N := 12) hx hb hts hin5 hown hK hP 0 rfl rfl 11 (by decide) lk72 (fun _ h9 => h9) rfl dX5_recover_13 ?_
    refine ckVv (As := [.int (nI cp)]) (rest := []) 0 [1, 2, 3, 4, 5, 6] (c_X1_writeHome l X d h lk lv hk hv wh cp lkf lvf hkf hvf Hm C hc hp hcp hcap) ⟨hx, hb, hml, hown, hts⟩ (cwV 1 hts gX5_recover_X1_writeHome rfl rfl rfl (by decide +kernel) ⟨Nat.le_of_ble_eq_true rfl, Nat.le_of_ble_eq_true rfl⟩) hK hN hP hD hS (by decide) rfl (ci := 1) rfl rfl (fun _ => rfl) rfl hl.1 rfl (Nat.le_of_ble_eq_true rfl) dX5_recover_16 ⟨Nat.zero_le _, Nat.zero_le _⟩ (fun u_1 H locs hwh hP hD hS => ?_)
    obtain ⟨hk2, hv2⟩ := u_1
    have hP : va_P X.1 vwCl [(a, .inr (5, [.int (nI bl), .int (nI bk), .int (nI sp), .ref d, .ref p, .ref t, .ref t2, .ref ch, .ref rs, .int f_pw, .int (nI 2), .int (nI cp)])), (d, .inr (1, [.ref h, .ref lk, .ref lv, .int (nI C.length)])), (lk, .inl (X.2.1, 60, .inl lkf)), (lv, .inl (X.2.1, 60, .inl lvf)), (h, .inr (2, [.ref hk, .ref hv, .int (nI ((apL Hm (C.take (C.length * cp / 256))).length)), .int (nI (avL Hm wh (C.take (C.length * cp / 256))))])), (hk, .inl (X.2.1, 512, .inl hk2)), (hv, .inl (X.2.1, 512, .inl hv2)), (p, .inr (2, [.ref pk, .ref pv, .int (nI n), .int (nI w)])), (ch, .inr (0, [.ref ck, .ref cv, .int (nI nc)])), (rs, .inr (3, [.ref rk_, .ref rv, .ref rd, .int (nI nr)]))] H := hP
    have hD : va_D A_ [(a, .inr (5, [.int (nI bl), .int (nI bk), .int (nI sp), .ref d, .ref p, .ref t, .ref t2, .ref ch, .ref rs, .int f_pw, .int (nI 2), .int (nI cp)])), (d, .inr (1, [.ref h, .ref lk, .ref lv, .int (nI C.length)])), (lk, .inl (X.2.1, 60, .inl lkf)), (lv, .inl (X.2.1, 60, .inl lvf)), (h, .inr (2, [.ref hk, .ref hv, .int (nI ((apL Hm (C.take (C.length * cp / 256))).length)), .int (nI (avL Hm wh (C.take (C.length * cp / 256))))])), (hk, .inl (X.2.1, 512, .inl hk2)), (hv, .inl (X.2.1, 512, .inl hv2)), (p, .inr (2, [.ref pk, .ref pv, .int (nI n), .int (nI w)])), (ch, .inr (0, [.ref ck, .ref cv, .int (nI nc)])), (rs, .inr (3, [.ref rk_, .ref rv, .ref rd, .int (nI nr)]))] := hD
    try dsimp only at hwh
    refine lv_aload_n hx hb dX5_recover_19 rfl (lv_at hl 0 rfl) ?_
    refine ckVv (As := []) (rest := []) 0 [0, 7, 8, 9] (c_X5_losePower l X a d p t t2 ch rs sp bl bk cp (nI 2) pk pv n w ck cv nc rk_ rv rd nr f_pw) ⟨hx, hb, hml, hown, hts⟩ (cwV 0 hts gX5_recover_X5_losePower rfl rfl rfl (by decide +kernel) ⟨Nat.le_of_ble_eq_true rfl, Nat.le_of_ble_eq_true rfl⟩) hK hN hP hD hS (by decide) rfl (ci := 5) rfl rfl (fun _ => rfl) rfl hl.1 rfl (Nat.le_of_ble_eq_true rfl) dX5_recover_20 ⟨Nat.zero_le _, Nat.zero_le _⟩ (fun u_3 H locs hc_20 hP hD hS => ?_)
    have hP : va_P X.1 vwCl [(a, .inr (5, [.int (nI bl), .int (nI bk), .int (nI sp), .ref d, .ref p, .ref t, .ref t2, .ref ch, .ref rs, .int (nI 0), .int (-1), .int (nI cp)])), (d, .inr (1, [.ref h, .ref lk, .ref lv, .int (nI C.length)])), (lk, .inl (X.2.1, 60, .inl lkf)), (lv, .inl (X.2.1, 60, .inl lvf)), (h, .inr (2, [.ref hk, .ref hv, .int (nI ((apL Hm (C.take (C.length * cp / 256))).length)), .int (nI (avL Hm wh (C.take (C.length * cp / 256))))])), (hk, .inl (X.2.1, 512, .inl hk2)), (hv, .inl (X.2.1, 512, .inl hv2)), (p, .inr (2, [.ref pk, .ref pv, .int (nI 0), .int (nI (w + 1))])), (ch, .inr (0, [.ref ck, .ref cv, .int (nI 0)])), (rs, .inr (3, [.ref rk_, .ref rv, .ref rd, .int (nI 0)]))] H := hP
    have hD : va_D A_ [(a, .inr (5, [.int (nI bl), .int (nI bk), .int (nI sp), .ref d, .ref p, .ref t, .ref t2, .ref ch, .ref rs, .int (nI 0), .int (-1), .int (nI cp)])), (d, .inr (1, [.ref h, .ref lk, .ref lv, .int (nI C.length)])), (lk, .inl (X.2.1, 60, .inl lkf)), (lv, .inl (X.2.1, 60, .inl lvf)), (h, .inr (2, [.ref hk, .ref hv, .int (nI ((apL Hm (C.take (C.length * cp / 256))).length)), .int (nI (avL Hm wh (C.take (C.length * cp / 256))))])), (hk, .inl (X.2.1, 512, .inl hk2)), (hv, .inl (X.2.1, 512, .inl hv2)), (p, .inr (2, [.ref pk, .ref pv, .int (nI 0), .int (nI (w + 1))])), (ch, .inr (0, [.ref ck, .ref cv, .int (nI 0)])), (rs, .inr (3, [.ref rk_, .ref rv, .ref rd, .int (nI 0)]))] := hD
    refine lv_bipush (v := (-2)) hx hb dX5_recover_23 (by decide) ?_
    refine wM hQ ?_
    exact rtI (hk2, hv2) hx hb hr hlocks hP hS (⟨rfl, hwh⟩) dX5_recover_25
set_option maxHeartbeats 4000000 in
set_option maxRecDepth 100000 in
theorem c_X5_recover_n (l : Launch) (X : kX) (a d p t t2 ch rs sp bl bk cp : Nat) (f_ct : Int32) (h lk lv pk pv n w hk hv wh ck cv nc rk_ rv rd nr : Nat) (f_pw : Int32) (lkf lvf pkf pvf hkf hvf : Nat → Int32) (C : List Op) (Hm : PL) (hc : chOk lkf lvf C) (hp : ptOk hkf hvf Hm) (hcap : ∀ j, j ≤ C.length → (apL Hm (C.take j)).length ≤ 512) (hn2 : ¬ f_ct = nI 2) : CWi l X yX5_recover wsX5_recover 5 [.ref a] [(a, .inr (5, [.int (nI bl), .int (nI bk), .int (nI sp), .ref d, .ref p, .ref t, .ref t2, .ref ch, .ref rs, .int f_pw, .int f_ct, .int (nI cp)])), (d, .inr (1, [.ref h, .ref lk, .ref lv, .int (nI C.length)])), (lk, .inl (X.2.1, 60, .inl lkf)), (lv, .inl (X.2.1, 60, .inl lvf)), (h, .inr (2, [.ref hk, .ref hv, .int (nI Hm.length), .int (nI wh)])), (hk, .inl (X.2.1, 512, .inl hkf)), (hv, .inl (X.2.1, 512, .inl hvf)), (p, .inr (2, [.ref pk, .ref pv, .int (nI n), .int (nI w)])), (pk, .inl (X.2.1, 512, .inl pkf)), (pv, .inl (X.2.1, 512, .inl pvf)), (ch, .inr (0, [.ref ck, .ref cv, .int (nI nc)])), (rs, .inr (3, [.ref rk_, .ref rv, .ref rd, .int (nI nr)]))] (S := (Nat → Int32) × (Nat → Int32) × (Nat → Int32) × (Nat → Int32)) (fun r u => r = nI 0 ∧ ptOk u.1 u.2.1 (apL Hm C) ∧ ptOk u.2.2.1 u.2.2.2 (apL Hm C)) (fun ⟨hk2, hv2, kf2, vf2⟩ => [(a, .inr (5, [.int (nI bl), .int (nI bk), .int (nI sp), .ref d, .ref p, .ref t, .ref t2, .ref ch, .ref rs, .int (nI 1), .int f_ct, .int (nI cp)])), (d, .inr (1, [.ref h, .ref lk, .ref lv, .int (nI 0)])), (lk, .inl (X.2.1, 60, .inl lkf)), (lv, .inl (X.2.1, 60, .inl lvf)), (h, .inr (2, [.ref hk, .ref hv, .int (nI ((apL Hm C).length)), .int (nI (avL Hm wh C))])), (hk, .inl (X.2.1, 512, .inl hk2)), (hv, .inl (X.2.1, 512, .inl hv2)), (p, .inr (2, [.ref pk, .ref pv, .int (nI ((apL Hm C).length)), .int (nI (w + 1))])), (pk, .inl (X.2.1, 512, .inl kf2)), (pv, .inl (X.2.1, 512, .inl vf2)), (ch, .inr (0, [.ref ck, .ref cv, .int (nI 0)])), (rs, .inr (3, [.ref rk_, .ref rv, .ref rd, .int (nI 0)]))]) := by
  refine Met.ofW (cc := cX5_recover) (maxL := 1) (ret := some (.int)) (by decide) rfl ?_
  intro pz ez sz mz args below meth cz s₁ Bz hml hv
  obtain ⟨rfl, hP, hK, hD0, hN⟩ := hv
  have hx := Bz.exec
  have hb := Bz.bytes
  have hr := Bz.returns
  have hts := atoms_spec (ws := wsX5_recover) Bz.pre
  have hown : sz.vm.findClass RX5 = some mz.cls := findClass_of_methodNamed Bz.named
  have hlocks := Bz.notSynchronized
  have hD := inW.self hD0
  have hS : va_S (inW [(a, .inr (5, [.int (nI bl), .int (nI bk), .int (nI sp), .ref d, .ref p, .ref t, .ref t2, .ref ch, .ref rs, .int f_pw, .int f_ct, .int (nI cp)])), (d, .inr (1, [.ref h, .ref lk, .ref lv, .int (nI C.length)])), (lk, .inl (X.2.1, 60, .inl lkf)), (lv, .inl (X.2.1, 60, .inl lvf)), (h, .inr (2, [.ref hk, .ref hv, .int (nI Hm.length), .int (nI wh)])), (hk, .inl (X.2.1, 512, .inl hkf)), (hv, .inl (X.2.1, 512, .inl hvf)), (p, .inr (2, [.ref pk, .ref pv, .int (nI n), .int (nI w)])), (pk, .inl (X.2.1, 512, .inl pkf)), (pv, .inl (X.2.1, 512, .inl pvf)), (ch, .inr (0, [.ref ck, .ref cv, .int (nI nc)])), (rs, .inr (3, [.ref rk_, .ref rv, .ref rd, .int (nI nr)]))]) sz.heap sz.heap [] := va_S.rf
  have hl := lv_entry ([.ref a]) (n := 1) (Nat.le_of_ble_eq_true rfl)
  rw [lg_entry_eq]
  generalize (lg_sl ([.ref a]) ++ List.replicate (1 - (lg_sl ([.ref a])).length) Slot.unset).toArray = ls at hl ⊢
  have hl : lv_has ls 1 [(0, .ref a)] := hl
  have lk31 := hts (.fieldLink RX5 31 "PointStore" "disk" "LPointStore$Disk;") (by decide +kernel)
  have lk35 := hts (.fieldLink RX5 35 "PointStore" "pending" "LPointStore$Points;") (by decide +kernel)
  have lk54 := hts (.fieldLink RX5 54 "PointStore" "changes" "LPointStore$Changes;") (by decide +kernel)
  have lk61 := hts (.fieldLink RX5 61 "PointStore" "results" "LPointStore$Results;") (by decide +kernel)
  have lk65 := hts (.fieldLink RX5 65 "PointStore" "powered" "Z") (by decide +kernel)
  have lk69 := hts (.fieldLink RX5 69 "PointStore" "cut" "I") (by decide +kernel)
  have lk140 := hts (.fieldLink RX5 140 "PointStore$Disk" "home" "LPointStore$Points;") (by decide +kernel)
  have hin1 : ∀ w ∈ u_ws RX1 TX1 4, w ∈ wsX5_recover := by decide +kernel
  have hin5 : ∀ w ∈ u_ws RX5 TX5 12, w ∈ wsX5_recover := by decide +kernel
  refine wQ (fun Q hQ => ?_)
  generalize hAe : inW [(a, .inr (5, [.int (nI bl), .int (nI bk), .int (nI sp), .ref d, .ref p, .ref t, .ref t2, .ref ch, .ref rs, .int f_pw, .int f_ct, .int (nI cp)])), (d, .inr (1, [.ref h, .ref lk, .ref lv, .int (nI C.length)])), (lk, .inl (X.2.1, 60, .inl lkf)), (lv, .inl (X.2.1, 60, .inl lvf)), (h, .inr (2, [.ref hk, .ref hv, .int (nI Hm.length), .int (nI wh)])), (hk, .inl (X.2.1, 512, .inl hkf)), (hv, .inl (X.2.1, 512, .inl hvf)), (p, .inr (2, [.ref pk, .ref pv, .int (nI n), .int (nI w)])), (pk, .inl (X.2.1, 512, .inl pkf)), (pv, .inl (X.2.1, 512, .inl pvf)), (ch, .inr (0, [.ref ck, .ref cv, .int (nI nc)])), (rs, .inr (3, [.ref rk_, .ref rv, .ref rd, .int (nI nr)]))] = A_ at hD hS hQ
  refine lv_aload_n hx hb dX5_recover_0 rfl (lv_at hl 0 rfl) ?_
  refine va_get (D := X.1) (ci := 5) (v := .int f_ct) (C := RX5) (T := TX5) (N := 12) hx hb hts hin5 hown hK hP 0 rfl rfl 10 (by decide) lk69 (fun _ h9 => h9) rfl dX5_recover_1 ?_
  refine lv_iconst (v := nI 2) hx hb dX5_recover_4 (by decide) ?_
  refine lv_icmp_ne (tgt := 26) hx hb dX5_recover_5 (by decide) (fun c_5 => ?_) (fun c_5 => ?_)
  · skip
    refine lv_aload_n hx hb dX5_recover_26 rfl (lv_at hl 0 rfl) ?_
    refine va_get (D := X.1) (ci := 5) (v := .ref d) (C := RX5) (T := TX5) (N := 12) hx hb hts hin5 hown hK hP 0 rfl rfl 3 (by decide) lk31 (fun _ h9 => h9) rfl dX5_recover_27 ?_
    refine lv_sipush (v := nI 256) hx hb dX5_recover_30 (by decide) ?_
    refine ckVv (As := [.int (nI 256)]) (rest := []) 0 [1, 2, 3, 4, 5, 6] (c_X1_writeHome l X d h lk lv hk hv wh 256 lkf lvf hkf hvf Hm C hc hp (Nat.le_refl 256) hcap) ⟨hx, hb, hml, hown, hts⟩ (cwV 1 hts gX5_recover_X1_writeHome rfl rfl rfl (by decide +kernel) ⟨Nat.le_of_ble_eq_true rfl, Nat.le_of_ble_eq_true rfl⟩) hK hN hP hD hS (by decide) rfl (ci := 1) rfl rfl (fun _ => rfl) rfl hl.1 rfl (Nat.le_of_ble_eq_true rfl) dX5_recover_33 ⟨Nat.zero_le _, Nat.zero_le _⟩ (fun u_1 H locs hwh hP hD hS => ?_)
    obtain ⟨hk2, hv2⟩ := u_1
    have hP : va_P X.1 vwCl [(a, .inr (5, [.int (nI bl), .int (nI bk), .int (nI sp), .ref d, .ref p, .ref t, .ref t2, .ref ch, .ref rs, .int f_pw, .int f_ct, .int (nI cp)])), (d, .inr (1, [.ref h, .ref lk, .ref lv, .int (nI C.length)])), (lk, .inl (X.2.1, 60, .inl lkf)), (lv, .inl (X.2.1, 60, .inl lvf)), (h, .inr (2, [.ref hk, .ref hv, .int (nI ((apL Hm (C.take (C.length * 256 / 256))).length)), .int (nI (avL Hm wh (C.take (C.length * 256 / 256))))])), (hk, .inl (X.2.1, 512, .inl hk2)), (hv, .inl (X.2.1, 512, .inl hv2)), (p, .inr (2, [.ref pk, .ref pv, .int (nI n), .int (nI w)])), (pk, .inl (X.2.1, 512, .inl pkf)), (pv, .inl (X.2.1, 512, .inl pvf)), (ch, .inr (0, [.ref ck, .ref cv, .int (nI nc)])), (rs, .inr (3, [.ref rk_, .ref rv, .ref rd, .int (nI nr)]))] H := hP
    have hD : va_D A_ [(a, .inr (5, [.int (nI bl), .int (nI bk), .int (nI sp), .ref d, .ref p, .ref t, .ref t2, .ref ch, .ref rs, .int f_pw, .int f_ct, .int (nI cp)])), (d, .inr (1, [.ref h, .ref lk, .ref lv, .int (nI C.length)])), (lk, .inl (X.2.1, 60, .inl lkf)), (lv, .inl (X.2.1, 60, .inl lvf)), (h, .inr (2, [.ref hk, .ref hv, .int (nI ((apL Hm (C.take (C.length * 256 / 256))).length)), .int (nI (avL Hm wh (C.take (C.length * 256 / 256))))])), (hk, .inl (X.2.1, 512, .inl hk2)), (hv, .inl (X.2.1, 512, .inl hv2)), (p, .inr (2, [.ref pk, .ref pv, .int (nI n), .int (nI w)])), (pk, .inl (X.2.1, 512, .inl pkf)), (pv, .inl (X.2.1, 512, .inl pvf)), (ch, .inr (0, [.ref ck, .ref cv, .int (nI nc)])), (rs, .inr (3, [.ref rk_, .ref rv, .ref rd, .int (nI nr)]))] := hD
    try dsimp only at hwh
    rw [take_256] at hP hD hwh
    have hP : va_P X.1 vwCl [(a, .inr (5, [.int (nI bl), .int (nI bk), .int (nI sp), .ref d, .ref p, .ref t, .ref t2, .ref ch, .ref rs, .int f_pw, .int f_ct, .int (nI cp)])), (d, .inr (1, [.ref h, .ref lk, .ref lv, .int (nI C.length)])), (lk, .inl (X.2.1, 60, .inl lkf)), (lv, .inl (X.2.1, 60, .inl lvf)), (h, .inr (2, [.ref hk, .ref hv, .int (nI ((apL Hm C).length)), .int (nI (avL Hm wh C))])), (hk, .inl (X.2.1, 512, .inl hk2)), (hv, .inl (X.2.1, 512, .inl hv2)), (p, .inr (2, [.ref pk, .ref pv, .int (nI n), .int (nI w)])), (pk, .inl (X.2.1, 512, .inl pkf)), (pv, .inl (X.2.1, 512, .inl pvf)), (ch, .inr (0, [.ref ck, .ref cv, .int (nI nc)])), (rs, .inr (3, [.ref rk_, .ref rv, .ref rd, .int (nI nr)]))] _ := hP
    have hD : va_D A_ [(a, .inr (5, [.int (nI bl), .int (nI bk), .int (nI sp), .ref d, .ref p, .ref t, .ref t2, .ref ch, .ref rs, .int f_pw, .int f_ct, .int (nI cp)])), (d, .inr (1, [.ref h, .ref lk, .ref lv, .int (nI C.length)])), (lk, .inl (X.2.1, 60, .inl lkf)), (lv, .inl (X.2.1, 60, .inl lvf)), (h, .inr (2, [.ref hk, .ref hv, .int (nI ((apL Hm C).length)), .int (nI (avL Hm wh C))])), (hk, .inl (X.2.1, 512, .inl hk2)), (hv, .inl (X.2.1, 512, .inl hv2)), (p, .inr (2, [.ref pk, .ref pv, .int (nI n), .int (nI w)])), (pk, .inl (X.2.1, 512, .inl pkf)), (pv, .inl (X.2.1, 512, .inl pvf)), (ch, .inr (0, [.ref ck, .ref cv, .int (nI nc)])), (rs, .inr (3, [.ref rk_, .ref rv, .ref rd, .int (nI nr)]))] := hD
    refine lv_aload_n hx hb dX5_recover_36 rfl (lv_at hl 0 rfl) ?_
    refine va_get (D := X.1) (ci := 5) (v := .ref d) (C := RX5) (T := TX5) (N := 12) hx hb hts hin5 hown hK hP 0 rfl rfl 3 (by decide) lk31 (fun _ h9 => h9) rfl dX5_recover_37 ?_
    refine ckVv (As := []) (rest := []) 0 [1] (c_X1_end l X d h lk lv (nI C.length)) ⟨hx, hb, hml, hown, hts⟩ (cwV 0 hts gX5_recover_X1_end rfl rfl rfl (by decide +kernel) ⟨Nat.le_of_ble_eq_true rfl, Nat.le_of_ble_eq_true rfl⟩) hK hN hP hD hS (by decide) rfl (ci := 1) rfl rfl (fun _ => rfl) rfl hl.1 rfl (Nat.le_of_ble_eq_true rfl) dX5_recover_40 ⟨Nat.zero_le _, Nat.zero_le _⟩ (fun u_3 H locs hc_40 hP hD hS => ?_)
    have hP : va_P X.1 vwCl [(a, .inr (5, [.int (nI bl), .int (nI bk), .int (nI sp), .ref d, .ref p, .ref t, .ref t2, .ref ch, .ref rs, .int f_pw, .int f_ct, .int (nI cp)])), (d, .inr (1, [.ref h, .ref lk, .ref lv, .int (nI 0)])), (lk, .inl (X.2.1, 60, .inl lkf)), (lv, .inl (X.2.1, 60, .inl lvf)), (h, .inr (2, [.ref hk, .ref hv, .int (nI ((apL Hm C).length)), .int (nI (avL Hm wh C))])), (hk, .inl (X.2.1, 512, .inl hk2)), (hv, .inl (X.2.1, 512, .inl hv2)), (p, .inr (2, [.ref pk, .ref pv, .int (nI n), .int (nI w)])), (pk, .inl (X.2.1, 512, .inl pkf)), (pv, .inl (X.2.1, 512, .inl pvf)), (ch, .inr (0, [.ref ck, .ref cv, .int (nI nc)])), (rs, .inr (3, [.ref rk_, .ref rv, .ref rd, .int (nI nr)]))] H := hP
    have hD : va_D A_ [(a, .inr (5, [.int (nI bl), .int (nI bk), .int (nI sp), .ref d, .ref p, .ref t, .ref t2, .ref ch, .ref rs, .int f_pw, .int f_ct, .int (nI cp)])), (d, .inr (1, [.ref h, .ref lk, .ref lv, .int (nI 0)])), (lk, .inl (X.2.1, 60, .inl lkf)), (lv, .inl (X.2.1, 60, .inl lvf)), (h, .inr (2, [.ref hk, .ref hv, .int (nI ((apL Hm C).length)), .int (nI (avL Hm wh C))])), (hk, .inl (X.2.1, 512, .inl hk2)), (hv, .inl (X.2.1, 512, .inl hv2)), (p, .inr (2, [.ref pk, .ref pv, .int (nI n), .int (nI w)])), (pk, .inl (X.2.1, 512, .inl pkf)), (pv, .inl (X.2.1, 512, .inl pvf)), (ch, .inr (0, [.ref ck, .ref cv, .int (nI nc)])), (rs, .inr (3, [.ref rk_, .ref rv, .ref rd, .int (nI nr)]))] := hD
    refine lv_aload_n hx hb dX5_recover_43 rfl (lv_at hl 0 rfl) ?_
    refine va_get (D := X.1) (ci := 5) (v := .ref p) (C := RX5) (T := TX5) (N := 12) hx hb hts hin5 hown hK hP 0 rfl rfl 4 (by decide) lk35 (fun _ h9 => h9) rfl dX5_recover_44 ?_
    refine lv_aload_n hx hb dX5_recover_47 rfl (lv_at hl 0 rfl) ?_
    refine va_get (D := X.1) (ci := 5) (v := .ref d) (C := RX5) (T := TX5) (N := 12) hx hb hts hin5 hown hK hP 0 rfl rfl 3 (by decide) lk31 (fun _ h9 => h9) rfl dX5_recover_48 ?_
    refine va_get (D := X.1) (ci := 1) (v := .ref h) (C := RX1) (T := TX1) (N := 4) hx hb hts hin1 hown hK hP 1 rfl rfl 0 (by decide) lk140 (fun _ h9 => h9) rfl dX5_recover_51 ?_
    refine ckVv (As := [.ref h]) (rest := []) 0 [7, 8, 9, 4, 5, 6] (c_X2_copyFrom l X p pk pv n w h hk hv (avL Hm wh C) pkf pvf hk2 hv2 (apL Hm C) hwh) ⟨hx, hb, hml, hown, hts⟩ (cwV 1 hts gX5_recover_X2_copyFrom rfl rfl rfl (by decide +kernel) ⟨Nat.le_of_ble_eq_true rfl, Nat.le_of_ble_eq_true rfl⟩) hK hN hP hD hS (by decide) rfl (ci := 2) rfl rfl (fun _ => rfl) rfl hl.1 rfl (Nat.le_of_ble_eq_true rfl) dX5_recover_54 ⟨Nat.zero_le _, Nat.zero_le _⟩ (fun u_5 H locs hcf hP hD hS => ?_)
    obtain ⟨kf2, vf2⟩ := u_5
    have hP : va_P X.1 vwCl [(a, .inr (5, [.int (nI bl), .int (nI bk), .int (nI sp), .ref d, .ref p, .ref t, .ref t2, .ref ch, .ref rs, .int f_pw, .int f_ct, .int (nI cp)])), (d, .inr (1, [.ref h, .ref lk, .ref lv, .int (nI 0)])), (lk, .inl (X.2.1, 60, .inl lkf)), (lv, .inl (X.2.1, 60, .inl lvf)), (h, .inr (2, [.ref hk, .ref hv, .int (nI ((apL Hm C).length)), .int (nI (avL Hm wh C))])), (hk, .inl (X.2.1, 512, .inl hk2)), (hv, .inl (X.2.1, 512, .inl hv2)), (p, .inr (2, [.ref pk, .ref pv, .int (nI ((apL Hm C).length)), .int (nI (w + 1))])), (pk, .inl (X.2.1, 512, .inl kf2)), (pv, .inl (X.2.1, 512, .inl vf2)), (ch, .inr (0, [.ref ck, .ref cv, .int (nI nc)])), (rs, .inr (3, [.ref rk_, .ref rv, .ref rd, .int (nI nr)]))] H := hP
    have hD : va_D A_ [(a, .inr (5, [.int (nI bl), .int (nI bk), .int (nI sp), .ref d, .ref p, .ref t, .ref t2, .ref ch, .ref rs, .int f_pw, .int f_ct, .int (nI cp)])), (d, .inr (1, [.ref h, .ref lk, .ref lv, .int (nI 0)])), (lk, .inl (X.2.1, 60, .inl lkf)), (lv, .inl (X.2.1, 60, .inl lvf)), (h, .inr (2, [.ref hk, .ref hv, .int (nI ((apL Hm C).length)), .int (nI (avL Hm wh C))])), (hk, .inl (X.2.1, 512, .inl hk2)), (hv, .inl (X.2.1, 512, .inl hv2)), (p, .inr (2, [.ref pk, .ref pv, .int (nI ((apL Hm C).length)), .int (nI (w + 1))])), (pk, .inl (X.2.1, 512, .inl kf2)), (pv, .inl (X.2.1, 512, .inl vf2)), (ch, .inr (0, [.ref ck, .ref cv, .int (nI nc)])), (rs, .inr (3, [.ref rk_, .ref rv, .ref rd, .int (nI nr)]))] := hD
    try dsimp only at hcf
    refine lv_aload_n hx hb dX5_recover_57 rfl (lv_at hl 0 rfl) ?_
    refine va_get (D := X.1) (ci := 5) (v := .ref ch) (C := RX5) (T := TX5) (N := 12) hx hb hts hin5 hown hK hP 0 rfl rfl 7 (by decide) lk54 (fun _ h9 => h9) rfl dX5_recover_58 ?_
    refine ckVv (As := []) (rest := []) 0 [10] (c_X0_clear l X ch ck cv (nI nc)) ⟨hx, hb, hml, hown, hts⟩ (cwV 0 hts gX5_recover_X0_clear rfl rfl rfl (by decide +kernel) ⟨Nat.le_of_ble_eq_true rfl, Nat.le_of_ble_eq_true rfl⟩) hK hN hP hD hS (by decide) rfl (ci := 0) rfl rfl (fun _ => rfl) rfl hl.1 rfl (Nat.le_of_ble_eq_true rfl) dX5_recover_61 ⟨Nat.zero_le _, Nat.zero_le _⟩ (fun u_7 H locs hc_61 hP hD hS => ?_)
    have hP : va_P X.1 vwCl [(a, .inr (5, [.int (nI bl), .int (nI bk), .int (nI sp), .ref d, .ref p, .ref t, .ref t2, .ref ch, .ref rs, .int f_pw, .int f_ct, .int (nI cp)])), (d, .inr (1, [.ref h, .ref lk, .ref lv, .int (nI 0)])), (lk, .inl (X.2.1, 60, .inl lkf)), (lv, .inl (X.2.1, 60, .inl lvf)), (h, .inr (2, [.ref hk, .ref hv, .int (nI ((apL Hm C).length)), .int (nI (avL Hm wh C))])), (hk, .inl (X.2.1, 512, .inl hk2)), (hv, .inl (X.2.1, 512, .inl hv2)), (p, .inr (2, [.ref pk, .ref pv, .int (nI ((apL Hm C).length)), .int (nI (w + 1))])), (pk, .inl (X.2.1, 512, .inl kf2)), (pv, .inl (X.2.1, 512, .inl vf2)), (ch, .inr (0, [.ref ck, .ref cv, .int (nI 0)])), (rs, .inr (3, [.ref rk_, .ref rv, .ref rd, .int (nI nr)]))] H := hP
    have hD : va_D A_ [(a, .inr (5, [.int (nI bl), .int (nI bk), .int (nI sp), .ref d, .ref p, .ref t, .ref t2, .ref ch, .ref rs, .int f_pw, .int f_ct, .int (nI cp)])), (d, .inr (1, [.ref h, .ref lk, .ref lv, .int (nI 0)])), (lk, .inl (X.2.1, 60, .inl lkf)), (lv, .inl (X.2.1, 60, .inl lvf)), (h, .inr (2, [.ref hk, .ref hv, .int (nI ((apL Hm C).length)), .int (nI (avL Hm wh C))])), (hk, .inl (X.2.1, 512, .inl hk2)), (hv, .inl (X.2.1, 512, .inl hv2)), (p, .inr (2, [.ref pk, .ref pv, .int (nI ((apL Hm C).length)), .int (nI (w + 1))])), (pk, .inl (X.2.1, 512, .inl kf2)), (pv, .inl (X.2.1, 512, .inl vf2)), (ch, .inr (0, [.ref ck, .ref cv, .int (nI 0)])), (rs, .inr (3, [.ref rk_, .ref rv, .ref rd, .int (nI nr)]))] := hD
    refine lv_aload_n hx hb dX5_recover_64 rfl (lv_at hl 0 rfl) ?_
    refine va_get (D := X.1) (ci := 5) (v := .ref rs) (C := RX5) (T := TX5) (N := 12) hx hb hts hin5 hown hK hP 0 rfl rfl 8 (by decide) lk61 (fun _ h9 => h9) rfl dX5_recover_65 ?_
    refine ckVv (As := []) (rest := []) 0 [11] (c_X3_clear l X rs rk_ rv rd (nI nr)) ⟨hx, hb, hml, hown, hts⟩ (cwV 0 hts gX5_recover_X3_clear rfl rfl rfl (by decide +kernel) ⟨Nat.le_of_ble_eq_true rfl, Nat.le_of_ble_eq_true rfl⟩) hK hN hP hD hS (by decide) rfl (ci := 3) rfl rfl (fun _ => rfl) rfl hl.1 rfl (Nat.le_of_ble_eq_true rfl) dX5_recover_68 ⟨Nat.zero_le _, Nat.zero_le _⟩ (fun u_9 H locs hc_68 hP hD hS => ?_)
    have hP : va_P X.1 vwCl [(a, .inr (5, [.int (nI bl), .int (nI bk), .int (nI sp), .ref d, .ref p, .ref t, .ref t2, .ref ch, .ref rs, .int f_pw, .int f_ct, .int (nI cp)])), (d, .inr (1, [.ref h, .ref lk, .ref lv, .int (nI 0)])), (lk, .inl (X.2.1, 60, .inl lkf)), (lv, .inl (X.2.1, 60, .inl lvf)), (h, .inr (2, [.ref hk, .ref hv, .int (nI ((apL Hm C).length)), .int (nI (avL Hm wh C))])), (hk, .inl (X.2.1, 512, .inl hk2)), (hv, .inl (X.2.1, 512, .inl hv2)), (p, .inr (2, [.ref pk, .ref pv, .int (nI ((apL Hm C).length)), .int (nI (w + 1))])), (pk, .inl (X.2.1, 512, .inl kf2)), (pv, .inl (X.2.1, 512, .inl vf2)), (ch, .inr (0, [.ref ck, .ref cv, .int (nI 0)])), (rs, .inr (3, [.ref rk_, .ref rv, .ref rd, .int (nI 0)]))] H := hP
    have hD : va_D A_ [(a, .inr (5, [.int (nI bl), .int (nI bk), .int (nI sp), .ref d, .ref p, .ref t, .ref t2, .ref ch, .ref rs, .int f_pw, .int f_ct, .int (nI cp)])), (d, .inr (1, [.ref h, .ref lk, .ref lv, .int (nI 0)])), (lk, .inl (X.2.1, 60, .inl lkf)), (lv, .inl (X.2.1, 60, .inl lvf)), (h, .inr (2, [.ref hk, .ref hv, .int (nI ((apL Hm C).length)), .int (nI (avL Hm wh C))])), (hk, .inl (X.2.1, 512, .inl hk2)), (hv, .inl (X.2.1, 512, .inl hv2)), (p, .inr (2, [.ref pk, .ref pv, .int (nI ((apL Hm C).length)), .int (nI (w + 1))])), (pk, .inl (X.2.1, 512, .inl kf2)), (pv, .inl (X.2.1, 512, .inl vf2)), (ch, .inr (0, [.ref ck, .ref cv, .int (nI 0)])), (rs, .inr (3, [.ref rk_, .ref rv, .ref rd, .int (nI 0)]))] := hD
    refine lv_aload_n hx hb dX5_recover_71 rfl (lv_at hl 0 rfl) ?_
    refine lv_iconst (v := nI 1) hx hb dX5_recover_72 (by decide) ?_
    refine va_put (D := X.1) (ci := 5) (v := .int (nI 1)) (ty := .boolean) (C := RX5) (T := TX5) (N := 12) hx hb hts hin5 tyX5 tyX5_ok nmX5 hown hK hP hD hS 0 rfl rfl 9 (by decide) lk65 (fun _ h9 => h9) rfl (by decide +kernel) (by decide) rfl (Nat.le_of_ble_eq_true rfl) dX5_recover_73 (fun H locs hP hD hS => ?_)
    have hP : va_P X.1 vwCl [(a, .inr (5, [.int (nI bl), .int (nI bk), .int (nI sp), .ref d, .ref p, .ref t, .ref t2, .ref ch, .ref rs, .int (nI 1), .int f_ct, .int (nI cp)])), (d, .inr (1, [.ref h, .ref lk, .ref lv, .int (nI 0)])), (lk, .inl (X.2.1, 60, .inl lkf)), (lv, .inl (X.2.1, 60, .inl lvf)), (h, .inr (2, [.ref hk, .ref hv, .int (nI ((apL Hm C).length)), .int (nI (avL Hm wh C))])), (hk, .inl (X.2.1, 512, .inl hk2)), (hv, .inl (X.2.1, 512, .inl hv2)), (p, .inr (2, [.ref pk, .ref pv, .int (nI ((apL Hm C).length)), .int (nI (w + 1))])), (pk, .inl (X.2.1, 512, .inl kf2)), (pv, .inl (X.2.1, 512, .inl vf2)), (ch, .inr (0, [.ref ck, .ref cv, .int (nI 0)])), (rs, .inr (3, [.ref rk_, .ref rv, .ref rd, .int (nI 0)]))] H := hP
    have hD : va_D A_ [(a, .inr (5, [.int (nI bl), .int (nI bk), .int (nI sp), .ref d, .ref p, .ref t, .ref t2, .ref ch, .ref rs, .int (nI 1), .int f_ct, .int (nI cp)])), (d, .inr (1, [.ref h, .ref lk, .ref lv, .int (nI 0)])), (lk, .inl (X.2.1, 60, .inl lkf)), (lv, .inl (X.2.1, 60, .inl lvf)), (h, .inr (2, [.ref hk, .ref hv, .int (nI ((apL Hm C).length)), .int (nI (avL Hm wh C))])), (hk, .inl (X.2.1, 512, .inl hk2)), (hv, .inl (X.2.1, 512, .inl hv2)), (p, .inr (2, [.ref pk, .ref pv, .int (nI ((apL Hm C).length)), .int (nI (w + 1))])), (pk, .inl (X.2.1, 512, .inl kf2)), (pv, .inl (X.2.1, 512, .inl vf2)), (ch, .inr (0, [.ref ck, .ref cv, .int (nI 0)])), (rs, .inr (3, [.ref rk_, .ref rv, .ref rd, .int (nI 0)]))] := hD
    refine lv_iconst (v := nI 0) hx hb dX5_recover_76 (by decide) ?_
    refine wM hQ ?_
    exact rtI (hk2, hv2, kf2, vf2) hx hb hr hlocks hP hS (⟨rfl, hwh, hcf⟩) dX5_recover_77
  · skip
    exact absurd c_5 hn2
set_option maxHeartbeats 4000000 in
set_option maxRecDepth 100000 in
theorem c_X5_node (l : Launch) (X : kX) (a d p t t2 ch rs sp bl bk cp : Nat) (f_ct : Int32) (pk pv w fa oa h hk hv wh fa2 oa2 b : Nat) (f_nn f_dd f_mo e_nn e_dd e_mo : Int32) (pkf pvf hkf hvf ff o ffb ob : Nat → Int32) (P Hm : PL) (h1 : ptOk pkf pvf P) (h2 : ptOk hkf hvf Hm) (hbl : bl ≤ 400) (hb1 : b ≤ 15) (hbk : 1 ≤ bk) (hbk2 : bk ≤ 8) (ht1 : tcOk bk b (bl + 1) P w f_nn f_dd f_mo ff) (ht2 : tcOk bk b (bl + 1) Hm wh e_nn e_dd e_mo ffb) (hi1 : insd b P) (hi2 : insd b Hm) (hf1 : (tr bk b 0 0 P).length ≤ bl) (hf2 : (tr bk b 0 0 Hm).length ≤ bl) (s_ x y : Int32) : CWi l X yX5_node wsX5_node (b + 6) [.ref a, .int s_, .int x, .int y] [(a, .inr (5, [.int (nI bl), .int (nI bk), .int (nI sp), .ref d, .ref p, .ref t, .ref t2, .ref ch, .ref rs, .int (nI 1), .int f_ct, .int (nI cp)])), (p, .inr (2, [.ref pk, .ref pv, .int (nI P.length), .int (nI w)])), (pk, .inl (X.2.1, 512, .inl pkf)), (pv, .inl (X.2.1, 512, .inl pvf)), (h, .inr (2, [.ref hk, .ref hv, .int (nI Hm.length), .int (nI wh)])), (hk, .inl (X.2.1, 512, .inl hkf)), (hv, .inl (X.2.1, 512, .inl hvf)), (t, .inr (4, [.ref p, .int (nI bk), .int (nI b), .int (nI (bl + 1)), .ref fa, .ref oa, .int f_nn, .int f_dd, .int f_mo])), (fa, .inl (X.2.1, 6 * (bl + 1), .inl ff)), (oa, .inl (X.2.1, 512, .inl o)), (t2, .inr (4, [.ref h, .int (nI bk), .int (nI b), .int (nI (bl + 1)), .ref fa2, .ref oa2, .int e_nn, .int e_dd, .int e_mo])), (fa2, .inl (X.2.1, 6 * (bl + 1), .inl ffb)), (oa2, .inl (X.2.1, 512, .inl ob))] (S := (Int32 × Int32 × Int32 × (Nat → Int32) × (Nat → Int32)) × (Int32 × Int32 × Int32 × (Nat → Int32) × (Nat → Int32))) (fun r u => r = nodV (sel s_ (tr bk b 0 0 P) (tr bk b 0 0 Hm)) x y ∧ tcOk bk b (bl + 1) P w u.1.1 u.1.2.1 u.1.2.2.1 u.1.2.2.2.1 ∧ tcOk bk b (bl + 1) Hm wh u.2.1 u.2.2.1 u.2.2.2.1 u.2.2.2.2.1) (fun ⟨⟨g_nn, g_dd, g_mo, ff2, o2⟩, ⟨q_nn, q_dd, q_mo, ff3, o3⟩⟩ => [(a, .inr (5, [.int (nI bl), .int (nI bk), .int (nI sp), .ref d, .ref p, .ref t, .ref t2, .ref ch, .ref rs, .int (nI 1), .int f_ct, .int (nI cp)])), (p, .inr (2, [.ref pk, .ref pv, .int (nI P.length), .int (nI w)])), (pk, .inl (X.2.1, 512, .inl pkf)), (pv, .inl (X.2.1, 512, .inl pvf)), (h, .inr (2, [.ref hk, .ref hv, .int (nI Hm.length), .int (nI wh)])), (hk, .inl (X.2.1, 512, .inl hkf)), (hv, .inl (X.2.1, 512, .inl hvf)), (t, .inr (4, [.ref p, .int (nI bk), .int (nI b), .int (nI (bl + 1)), .ref fa, .ref oa, .int g_nn, .int g_dd, .int g_mo])), (fa, .inl (X.2.1, 6 * (bl + 1), .inl ff2)), (oa, .inl (X.2.1, 512, .inl o2)), (t2, .inr (4, [.ref h, .int (nI bk), .int (nI b), .int (nI (bl + 1)), .ref fa2, .ref oa2, .int q_nn, .int q_dd, .int q_mo])), (fa2, .inl (X.2.1, 6 * (bl + 1), .inl ff3)), (oa2, .inl (X.2.1, 512, .inl o3))]) := by
  refine Met.ofW (cc := cX5_node) (maxL := 5) (ret := some (.int)) (by decide) rfl ?_
  intro pz ez sz mz args below meth cz s₁ Bz hml hv
  obtain ⟨rfl, hP, hK, hD0, hN⟩ := hv
  have hx := Bz.exec
  have hb := Bz.bytes
  have hr := Bz.returns
  have hts := atoms_spec (ws := wsX5_node) Bz.pre
  have hown : sz.vm.findClass RX5 = some mz.cls := findClass_of_methodNamed Bz.named
  have hlocks := Bz.notSynchronized
  have hD := inW.self hD0
  have hS : va_S (inW [(a, .inr (5, [.int (nI bl), .int (nI bk), .int (nI sp), .ref d, .ref p, .ref t, .ref t2, .ref ch, .ref rs, .int (nI 1), .int f_ct, .int (nI cp)])), (p, .inr (2, [.ref pk, .ref pv, .int (nI P.length), .int (nI w)])), (pk, .inl (X.2.1, 512, .inl pkf)), (pv, .inl (X.2.1, 512, .inl pvf)), (h, .inr (2, [.ref hk, .ref hv, .int (nI Hm.length), .int (nI wh)])), (hk, .inl (X.2.1, 512, .inl hkf)), (hv, .inl (X.2.1, 512, .inl hvf)), (t, .inr (4, [.ref p, .int (nI bk), .int (nI b), .int (nI (bl + 1)), .ref fa, .ref oa, .int f_nn, .int f_dd, .int f_mo])), (fa, .inl (X.2.1, 6 * (bl + 1), .inl ff)), (oa, .inl (X.2.1, 512, .inl o)), (t2, .inr (4, [.ref h, .int (nI bk), .int (nI b), .int (nI (bl + 1)), .ref fa2, .ref oa2, .int e_nn, .int e_dd, .int e_mo])), (fa2, .inl (X.2.1, 6 * (bl + 1), .inl ffb)), (oa2, .inl (X.2.1, 512, .inl ob))]) sz.heap sz.heap [] := va_S.rf
  have hl := lv_entry ([.ref a, .int s_, .int x, .int y]) (n := 5) (Nat.le_of_ble_eq_true rfl)
  rw [lg_entry_eq]
  generalize (lg_sl ([.ref a, .int s_, .int x, .int y]) ++ List.replicate (5 - (lg_sl ([.ref a, .int s_, .int x, .int y])).length) Slot.unset).toArray = ls at hl ⊢
  have hl : lv_has ls 5 [(0, .ref a), (1, .int s_), (2, .int x), (3, .int y)] := hl
  have lk65 := hts (.fieldLink RX5 65 "PointStore" "powered" "Z") (by decide +kernel)
  have hin5 : ∀ w ∈ u_ws RX5 TX5 12, w ∈ wsX5_node := by decide +kernel
  refine wQ (fun Q hQ => ?_)
  generalize hAe : inW [(a, .inr (5, [.int (nI bl), .int (nI bk), .int (nI sp), .ref d, .ref p, .ref t, .ref t2, .ref ch, .ref rs, .int (nI 1), .int f_ct, .int (nI cp)])), (p, .inr (2, [.ref pk, .ref pv, .int (nI P.length), .int (nI w)])), (pk, .inl (X.2.1, 512, .inl pkf)), (pv, .inl (X.2.1, 512, .inl pvf)), (h, .inr (2, [.ref hk, .ref hv, .int (nI Hm.length), .int (nI wh)])), (hk, .inl (X.2.1, 512, .inl hkf)), (hv, .inl (X.2.1, 512, .inl hvf)), (t, .inr (4, [.ref p, .int (nI bk), .int (nI b), .int (nI (bl + 1)), .ref fa, .ref oa, .int f_nn, .int f_dd, .int f_mo])), (fa, .inl (X.2.1, 6 * (bl + 1), .inl ff)), (oa, .inl (X.2.1, 512, .inl o)), (t2, .inr (4, [.ref h, .int (nI bk), .int (nI b), .int (nI (bl + 1)), .ref fa2, .ref oa2, .int e_nn, .int e_dd, .int e_mo])), (fa2, .inl (X.2.1, 6 * (bl + 1), .inl ffb)), (oa2, .inl (X.2.1, 512, .inl ob))] = A_ at hD hS hQ
  have hg1 : gF bk b 0 0 (bl + 1) P [] = tr bk b 0 0 P := gF_fit (by omega)
  have hg2 : gF bk b 0 0 (bl + 1) Hm [] = tr bk b 0 0 Hm := gF_fit (by omega)
  refine lv_aload_n hx hb dX5_node_0 rfl (lv_at hl 0 rfl) ?_
  refine va_get (D := X.1) (ci := 5) (v := .int (nI 1)) (C := RX5) (T := TX5) (N := 12) hx hb hts hin5 hown hK hP 0 rfl rfl 9 (by decide) lk65 (fun _ h9 => h9) rfl dX5_node_1 ?_
  refine lv_if_ne (tgt := 10) hx hb dX5_node_4 (by decide) (fun c_4 => ?_) (fun c_4 => ?_)
  · skip
    refine lv_aload_n hx hb dX5_node_10 rfl (lv_at hl 0 rfl) ?_
    refine lv_iload_n hx hb dX5_node_11 rfl (lv_at hl 1 rfl) ?_
    refine ckVRq (As := [.int s_]) (rest := []) 0 [0] (c_X5_treeOf l X a d p t t2 ch rs sp (nI bl) (nI bk) (nI 1) f_ct (nI cp) s_) ⟨hx, hb, hml, hown, hts⟩ (cwV 1 hts gX5_node_X5_treeOf rfl rfl rfl (by decide +kernel) ⟨Nat.le_of_ble_eq_true rfl, Nat.le_of_ble_eq_true rfl⟩) hK hN hP hD (by decide) rfl (ci := 5) rfl rfl rfl hl.1 rfl (Nat.le_of_ble_eq_true rfl) dX5_node_12 ⟨Nat.zero_le _, Nat.zero_le _⟩ (fun r_1 hc_12 => ?_)
    rcases sel3 s_ with hs | hs | hs
    · skip
      rw [if_pos hs] at hc_12
      subst hc_12
      refine lv_astore (lv' := [(4, .ref t), (0, .ref a), (1, .int s_), (2, .int x), (3, .int y)]) hx hb dX5_node_15 hl (by decide) rfl (fun ls hl => ?_)
      refine lv_aload hx hb dX5_node_17 (lv_at hl 0 rfl) ?_
      refine lv_ifnonnull (tgt := 24) hx hb dX5_node_19 (by decide) ?_
      refine lv_aload hx hb dX5_node_24 (lv_at hl 0 rfl) ?_
      refine ckVr (As := []) (rest := []) 0 [7, 1, 2, 3, 8, 9] (c_X4_upToDate l X t p pk pv fa oa bk b (bl + 1) w f_nn f_dd f_mo pkf pvf ff o P h1 (by omega) hb1 hbk hbk2 (insd_rg hi1) ht1.1) ⟨hx, hb, hml, hown, hts⟩ (cwV 0 hts gX5_node_X4_upToDate rfl rfl rfl (by decide +kernel) ⟨(by show b + 4 + 1 + 1 ≤ b + 6 + 1; omega), (by show 8 + (2 + 11) + 100 * (b + 4 + 1) ≤ 100 * (b + 6 + 1); omega)⟩) hK hN hP hD hS (by decide) rfl (ci := 4) rfl rfl (fun _ => rfl) rfl hl.1 rfl (Nat.le_of_ble_eq_true rfl) dX5_node_26 ⟨Nat.zero_le _, Nat.zero_le _⟩ (fun u_2 H locs hup hP hD hS => ?_)
      obtain ⟨ffx, ox⟩ := u_2
      have hP : va_P X.1 vwCl [(a, .inr (5, [.int (nI bl), .int (nI bk), .int (nI sp), .ref d, .ref p, .ref t, .ref t2, .ref ch, .ref rs, .int (nI 1), .int f_ct, .int (nI cp)])), (p, .inr (2, [.ref pk, .ref pv, .int (nI P.length), .int (nI w)])), (pk, .inl (X.2.1, 512, .inl pkf)), (pv, .inl (X.2.1, 512, .inl pvf)), (h, .inr (2, [.ref hk, .ref hv, .int (nI Hm.length), .int (nI wh)])), (hk, .inl (X.2.1, 512, .inl hkf)), (hv, .inl (X.2.1, 512, .inl hvf)), (t, .inr (4, [.ref p, .int (nI bk), .int (nI b), .int (nI (bl + 1)), .ref fa, .ref oa, .int (nI ((gF bk b 0 0 (bl + 1) P []).length)), .int (nI (dpt b (gF bk b 0 0 (bl + 1) P []))), .int (nI w)])), (fa, .inl (X.2.1, 6 * (bl + 1), .inl ffx)), (oa, .inl (X.2.1, 512, .inl ox)), (t2, .inr (4, [.ref h, .int (nI bk), .int (nI b), .int (nI (bl + 1)), .ref fa2, .ref oa2, .int e_nn, .int e_dd, .int e_mo])), (fa2, .inl (X.2.1, 6 * (bl + 1), .inl ffb)), (oa2, .inl (X.2.1, 512, .inl ob))] H := hP
      have hD : va_D A_ [(a, .inr (5, [.int (nI bl), .int (nI bk), .int (nI sp), .ref d, .ref p, .ref t, .ref t2, .ref ch, .ref rs, .int (nI 1), .int f_ct, .int (nI cp)])), (p, .inr (2, [.ref pk, .ref pv, .int (nI P.length), .int (nI w)])), (pk, .inl (X.2.1, 512, .inl pkf)), (pv, .inl (X.2.1, 512, .inl pvf)), (h, .inr (2, [.ref hk, .ref hv, .int (nI Hm.length), .int (nI wh)])), (hk, .inl (X.2.1, 512, .inl hkf)), (hv, .inl (X.2.1, 512, .inl hvf)), (t, .inr (4, [.ref p, .int (nI bk), .int (nI b), .int (nI (bl + 1)), .ref fa, .ref oa, .int (nI ((gF bk b 0 0 (bl + 1) P []).length)), .int (nI (dpt b (gF bk b 0 0 (bl + 1) P []))), .int (nI w)])), (fa, .inl (X.2.1, 6 * (bl + 1), .inl ffx)), (oa, .inl (X.2.1, 512, .inl ox)), (t2, .inr (4, [.ref h, .int (nI bk), .int (nI b), .int (nI (bl + 1)), .ref fa2, .ref oa2, .int e_nn, .int e_dd, .int e_mo])), (fa2, .inl (X.2.1, 6 * (bl + 1), .inl ffb)), (oa2, .inl (X.2.1, 512, .inl ob))] := hD
      try dsimp only at hup
      refine lv_iload_n hx hb dX5_node_29 rfl (lv_at hl 3 rfl) ?_
      refine lv_iload_n hx hb dX5_node_30 rfl (lv_at hl 4 rfl) ?_
      refine ckVRi (As := [.int x, .int y]) (rest := []) 0 [7, 8] (c_X4_factOf l X t p 0 0 fa oa bk b (bl + 1) ((gF bk b 0 0 (bl + 1) P []).length) (dpt b (gF bk b 0 0 (bl + 1) P [])) (nI w) ffx x y (gF bk b 0 0 (bl + 1) P []) hup (List.length_take_le _ _) (by omega) rfl) ⟨hx, hb, hml, hown, hts⟩ (cwV 2 hts gX5_node_X4_factOf rfl rfl rfl (by decide +kernel) ⟨Nat.le_of_ble_eq_true rfl, Nat.le_of_ble_eq_true rfl⟩) hK hN hP hD (by decide) rfl (ci := 4) rfl rfl rfl hl.1 rfl (Nat.le_of_ble_eq_true rfl) dX5_node_31 ⟨Nat.zero_le _, Nat.zero_le _⟩ (fun r_4 hc_31 => ?_)
      subst hc_31
      refine wM hQ ?_
      exact rtI ((nI ((gF bk b 0 0 (bl + 1) P []).length), nI (dpt b (gF bk b 0 0 (bl + 1) P [])), nI w, ffx, ox), (e_nn, e_dd, e_mo, ffb, ob)) hx hb hr hlocks hP hS (⟨(by show _ = _; rw [sel_0 hs]; show _ = fct _ x y; rw [← hg1]), tc_same hup, ht2⟩) dX5_node_34
    · skip
      rw [if_neg (by rw [hs]; decide), if_pos hs] at hc_12
      subst hc_12
      refine lv_astore (lv' := [(4, .ref t2), (0, .ref a), (1, .int s_), (2, .int x), (3, .int y)]) hx hb dX5_node_15 hl (by decide) rfl (fun ls hl => ?_)
      refine lv_aload hx hb dX5_node_17 (lv_at hl 0 rfl) ?_
      refine lv_ifnonnull (tgt := 24) hx hb dX5_node_19 (by decide) ?_
      refine lv_aload hx hb dX5_node_24 (lv_at hl 0 rfl) ?_
      refine ckVr (As := []) (rest := []) 0 [10, 4, 5, 6, 11, 12] (c_X4_upToDate l X t2 h hk hv fa2 oa2 bk b (bl + 1) wh e_nn e_dd e_mo hkf hvf ffb ob Hm h2 (by omega) hb1 hbk hbk2 (insd_rg hi2) ht2.1) ⟨hx, hb, hml, hown, hts⟩ (cwV 0 hts gX5_node_X4_upToDate rfl rfl rfl (by decide +kernel) ⟨(by show b + 4 + 1 + 1 ≤ b + 6 + 1; omega), (by show 8 + (2 + 11) + 100 * (b + 4 + 1) ≤ 100 * (b + 6 + 1); omega)⟩) hK hN hP hD hS (by decide) rfl (ci := 4) rfl rfl (fun _ => rfl) rfl hl.1 rfl (Nat.le_of_ble_eq_true rfl) dX5_node_26 ⟨Nat.zero_le _, Nat.zero_le _⟩ (fun u_5 H locs hup hP hD hS => ?_)
      obtain ⟨ffy, oy⟩ := u_5
      have hP : va_P X.1 vwCl [(a, .inr (5, [.int (nI bl), .int (nI bk), .int (nI sp), .ref d, .ref p, .ref t, .ref t2, .ref ch, .ref rs, .int (nI 1), .int f_ct, .int (nI cp)])), (p, .inr (2, [.ref pk, .ref pv, .int (nI P.length), .int (nI w)])), (pk, .inl (X.2.1, 512, .inl pkf)), (pv, .inl (X.2.1, 512, .inl pvf)), (h, .inr (2, [.ref hk, .ref hv, .int (nI Hm.length), .int (nI wh)])), (hk, .inl (X.2.1, 512, .inl hkf)), (hv, .inl (X.2.1, 512, .inl hvf)), (t, .inr (4, [.ref p, .int (nI bk), .int (nI b), .int (nI (bl + 1)), .ref fa, .ref oa, .int f_nn, .int f_dd, .int f_mo])), (fa, .inl (X.2.1, 6 * (bl + 1), .inl ff)), (oa, .inl (X.2.1, 512, .inl o)), (t2, .inr (4, [.ref h, .int (nI bk), .int (nI b), .int (nI (bl + 1)), .ref fa2, .ref oa2, .int (nI ((gF bk b 0 0 (bl + 1) Hm []).length)), .int (nI (dpt b (gF bk b 0 0 (bl + 1) Hm []))), .int (nI wh)])), (fa2, .inl (X.2.1, 6 * (bl + 1), .inl ffy)), (oa2, .inl (X.2.1, 512, .inl oy))] H := hP
      have hD : va_D A_ [(a, .inr (5, [.int (nI bl), .int (nI bk), .int (nI sp), .ref d, .ref p, .ref t, .ref t2, .ref ch, .ref rs, .int (nI 1), .int f_ct, .int (nI cp)])), (p, .inr (2, [.ref pk, .ref pv, .int (nI P.length), .int (nI w)])), (pk, .inl (X.2.1, 512, .inl pkf)), (pv, .inl (X.2.1, 512, .inl pvf)), (h, .inr (2, [.ref hk, .ref hv, .int (nI Hm.length), .int (nI wh)])), (hk, .inl (X.2.1, 512, .inl hkf)), (hv, .inl (X.2.1, 512, .inl hvf)), (t, .inr (4, [.ref p, .int (nI bk), .int (nI b), .int (nI (bl + 1)), .ref fa, .ref oa, .int f_nn, .int f_dd, .int f_mo])), (fa, .inl (X.2.1, 6 * (bl + 1), .inl ff)), (oa, .inl (X.2.1, 512, .inl o)), (t2, .inr (4, [.ref h, .int (nI bk), .int (nI b), .int (nI (bl + 1)), .ref fa2, .ref oa2, .int (nI ((gF bk b 0 0 (bl + 1) Hm []).length)), .int (nI (dpt b (gF bk b 0 0 (bl + 1) Hm []))), .int (nI wh)])), (fa2, .inl (X.2.1, 6 * (bl + 1), .inl ffy)), (oa2, .inl (X.2.1, 512, .inl oy))] := hD
      try dsimp only at hup
      refine lv_iload_n hx hb dX5_node_29 rfl (lv_at hl 3 rfl) ?_
      refine lv_iload_n hx hb dX5_node_30 rfl (lv_at hl 4 rfl) ?_
      refine ckVRi (As := [.int x, .int y]) (rest := []) 0 [10, 11] (c_X4_factOf l X t2 h 0 0 fa2 oa2 bk b (bl + 1) ((gF bk b 0 0 (bl + 1) Hm []).length) (dpt b (gF bk b 0 0 (bl + 1) Hm [])) (nI wh) ffy x y (gF bk b 0 0 (bl + 1) Hm []) hup (List.length_take_le _ _) (by omega) rfl) ⟨hx, hb, hml, hown, hts⟩ (cwV 2 hts gX5_node_X4_factOf rfl rfl rfl (by decide +kernel) ⟨Nat.le_of_ble_eq_true rfl, Nat.le_of_ble_eq_true rfl⟩) hK hN hP hD (by decide) rfl (ci := 4) rfl rfl rfl hl.1 rfl (Nat.le_of_ble_eq_true rfl) dX5_node_31 ⟨Nat.zero_le _, Nat.zero_le _⟩ (fun r_7 hc_31 => ?_)
      subst hc_31
      refine wM hQ ?_
      exact rtI ((f_nn, f_dd, f_mo, ff, o), (nI ((gF bk b 0 0 (bl + 1) Hm []).length), nI (dpt b (gF bk b 0 0 (bl + 1) Hm [])), nI wh, ffy, oy)) hx hb hr hlocks hP hS (⟨(by show _ = _; rw [sel_1 hs]; show _ = fct _ x y; rw [← hg2]), ht1, tc_same hup⟩) dX5_node_34
    · skip
      rw [if_neg hs.1, if_neg hs.2] at hc_12
      subst hc_12
      refine lv_astoreN (lv' := [(4, .null), (0, .ref a), (1, .int s_), (2, .int x), (3, .int y)]) hx hb dX5_node_15 hl (by decide) rfl (fun ls hl => ?_)
      refine lv_aloadN hx hb dX5_node_17 (lv_at hl 0 rfl) ?_
      refine lv_ifnonnullN hx hb dX5_node_19 ?_
      refine lv_iconst (v := (-1)) hx hb dX5_node_22 (by decide) ?_
      refine wM hQ ?_
      exact rtI ((f_nn, f_dd, f_mo, ff, o), (e_nn, e_dd, e_mo, ffb, ob)) hx hb hr hlocks hP hS (⟨(by show _ = _; rw [sel_n hs.1 hs.2]; rfl), ht1, ht2⟩) dX5_node_23
  · exact absurd c_4 (by decide)
set_option maxHeartbeats 4000000 in
set_option maxRecDepth 100000 in
theorem c_X5_count (l : Launch) (X : kX) (a d p t t2 ch rs sp bl bk cp : Nat) (f_ct : Int32) (pk pv w fa oa h hk hv wh fa2 oa2 b : Nat) (f_nn f_dd f_mo e_nn e_dd e_mo : Int32) (pkf pvf hkf hvf ff o ffb ob : Nat → Int32) (P Hm : PL) (h1 : ptOk pkf pvf P) (h2 : ptOk hkf hvf Hm) (hbl : bl ≤ 400) (hb1 : b ≤ 15) (hbk : 1 ≤ bk) (hbk2 : bk ≤ 8) (ht1 : tcOk bk b (bl + 1) P w f_nn f_dd f_mo ff) (ht2 : tcOk bk b (bl + 1) Hm wh e_nn e_dd e_mo ffb) (hi1 : insd b P) (hi2 : insd b Hm) (hf1 : (tr bk b 0 0 P).length ≤ bl) (hf2 : (tr bk b 0 0 Hm).length ≤ bl) (lk lv se ck cv nc : Nat) (x : Int32) : CWi l X yX5_count wsX5_count (b + 6) [.ref a, .int x] [(a, .inr (5, [.int (nI bl), .int (nI bk), .int (nI sp), .ref d, .ref p, .ref t, .ref t2, .ref ch, .ref rs, .int (nI 1), .int f_ct, .int (nI cp)])), (d, .inr (1, [.ref h, .ref lk, .ref lv, .int (nI se)])), (p, .inr (2, [.ref pk, .ref pv, .int (nI P.length), .int (nI w)])), (pk, .inl (X.2.1, 512, .inl pkf)), (pv, .inl (X.2.1, 512, .inl pvf)), (h, .inr (2, [.ref hk, .ref hv, .int (nI Hm.length), .int (nI wh)])), (hk, .inl (X.2.1, 512, .inl hkf)), (hv, .inl (X.2.1, 512, .inl hvf)), (t, .inr (4, [.ref p, .int (nI bk), .int (nI b), .int (nI (bl + 1)), .ref fa, .ref oa, .int f_nn, .int f_dd, .int f_mo])), (fa, .inl (X.2.1, 6 * (bl + 1), .inl ff)), (oa, .inl (X.2.1, 512, .inl o)), (t2, .inr (4, [.ref h, .int (nI bk), .int (nI b), .int (nI (bl + 1)), .ref fa2, .ref oa2, .int e_nn, .int e_dd, .int e_mo])), (fa2, .inl (X.2.1, 6 * (bl + 1), .inl ffb)), (oa2, .inl (X.2.1, 512, .inl ob)), (ch, .inr (0, [.ref ck, .ref cv, .int (nI nc)]))] (S := (Int32 × Int32 × Int32 × (Nat → Int32) × (Nat → Int32)) × (Int32 × Int32 × Int32 × (Nat → Int32) × (Nat → Int32))) (fun r u => r = cntV bk b bl sp P Hm nc f_ct x ∧ tcOk bk b (bl + 1) P w u.1.1 u.1.2.1 u.1.2.2.1 u.1.2.2.2.1 ∧ tcOk bk b (bl + 1) Hm wh u.2.1 u.2.2.1 u.2.2.2.1 u.2.2.2.2.1) (fun ⟨⟨g_nn, g_dd, g_mo, ff2, o2⟩, ⟨q_nn, q_dd, q_mo, ff3, o3⟩⟩ => [(a, .inr (5, [.int (nI bl), .int (nI bk), .int (nI sp), .ref d, .ref p, .ref t, .ref t2, .ref ch, .ref rs, .int (nI 1), .int f_ct, .int (nI cp)])), (d, .inr (1, [.ref h, .ref lk, .ref lv, .int (nI se)])), (p, .inr (2, [.ref pk, .ref pv, .int (nI P.length), .int (nI w)])), (pk, .inl (X.2.1, 512, .inl pkf)), (pv, .inl (X.2.1, 512, .inl pvf)), (h, .inr (2, [.ref hk, .ref hv, .int (nI Hm.length), .int (nI wh)])), (hk, .inl (X.2.1, 512, .inl hkf)), (hv, .inl (X.2.1, 512, .inl hvf)), (t, .inr (4, [.ref p, .int (nI bk), .int (nI b), .int (nI (bl + 1)), .ref fa, .ref oa, .int g_nn, .int g_dd, .int g_mo])), (fa, .inl (X.2.1, 6 * (bl + 1), .inl ff2)), (oa, .inl (X.2.1, 512, .inl o2)), (t2, .inr (4, [.ref h, .int (nI bk), .int (nI b), .int (nI (bl + 1)), .ref fa2, .ref oa2, .int q_nn, .int q_dd, .int q_mo])), (fa2, .inl (X.2.1, 6 * (bl + 1), .inl ff3)), (oa2, .inl (X.2.1, 512, .inl o3)), (ch, .inr (0, [.ref ck, .ref cv, .int (nI nc)]))]) := by
  refine Met.ofW (cc := cX5_count) (maxL := 2) (ret := some (.int)) (by decide) rfl ?_
  intro pz ez sz mz args below meth cz s₁ Bz hml hv
  obtain ⟨rfl, hP, hK, hD0, hN⟩ := hv
  have hx := Bz.exec
  have hb := Bz.bytes
  have hr := Bz.returns
  have hts := atoms_spec (ws := wsX5_count) Bz.pre
  have hown : sz.vm.findClass RX5 = some mz.cls := findClass_of_methodNamed Bz.named
  have hlocks := Bz.notSynchronized
  have hD := inW.self hD0
  have hS : va_S (inW [(a, .inr (5, [.int (nI bl), .int (nI bk), .int (nI sp), .ref d, .ref p, .ref t, .ref t2, .ref ch, .ref rs, .int (nI 1), .int f_ct, .int (nI cp)])), (d, .inr (1, [.ref h, .ref lk, .ref lv, .int (nI se)])), (p, .inr (2, [.ref pk, .ref pv, .int (nI P.length), .int (nI w)])), (pk, .inl (X.2.1, 512, .inl pkf)), (pv, .inl (X.2.1, 512, .inl pvf)), (h, .inr (2, [.ref hk, .ref hv, .int (nI Hm.length), .int (nI wh)])), (hk, .inl (X.2.1, 512, .inl hkf)), (hv, .inl (X.2.1, 512, .inl hvf)), (t, .inr (4, [.ref p, .int (nI bk), .int (nI b), .int (nI (bl + 1)), .ref fa, .ref oa, .int f_nn, .int f_dd, .int f_mo])), (fa, .inl (X.2.1, 6 * (bl + 1), .inl ff)), (oa, .inl (X.2.1, 512, .inl o)), (t2, .inr (4, [.ref h, .int (nI bk), .int (nI b), .int (nI (bl + 1)), .ref fa2, .ref oa2, .int e_nn, .int e_dd, .int e_mo])), (fa2, .inl (X.2.1, 6 * (bl + 1), .inl ffb)), (oa2, .inl (X.2.1, 512, .inl ob)), (ch, .inr (0, [.ref ck, .ref cv, .int (nI nc)]))]) sz.heap sz.heap [] := va_S.rf
  have hl := lv_entry ([.ref a, .int x]) (n := 2) (Nat.le_of_ble_eq_true rfl)
  rw [lg_entry_eq]
  generalize (lg_sl ([.ref a, .int x]) ++ List.replicate (2 - (lg_sl ([.ref a, .int x])).length) Slot.unset).toArray = ls at hl ⊢
  have hl : lv_has ls 2 [(0, .ref a), (1, .int x)] := hl
  have lk16 := hts (.fieldLink RX5 16 "PointStore" "blocks" "I") (by decide +kernel)
  have lk20 := hts (.fieldLink RX5 20 "PointStore" "bucket" "I") (by decide +kernel)
  have lk23 := hts (.fieldLink RX5 23 "PointStore" "span" "I") (by decide +kernel)
  have lk31 := hts (.fieldLink RX5 31 "PointStore" "disk" "LPointStore$Disk;") (by decide +kernel)
  have lk35 := hts (.fieldLink RX5 35 "PointStore" "pending" "LPointStore$Points;") (by decide +kernel)
  have lk44 := hts (.fieldLink RX5 44 "PointStore" "pendingTree" "LPointStore$Tree;") (by decide +kernel)
  have lk48 := hts (.fieldLink RX5 48 "PointStore" "committedTree" "LPointStore$Tree;") (by decide +kernel)
  have lk54 := hts (.fieldLink RX5 54 "PointStore" "changes" "LPointStore$Changes;") (by decide +kernel)
  have lk65 := hts (.fieldLink RX5 65 "PointStore" "powered" "Z") (by decide +kernel)
  have lk69 := hts (.fieldLink RX5 69 "PointStore" "cut" "I") (by decide +kernel)
  have lk112 := hts (.fieldLink RX5 112 "PointStore$Points" "total" "I") (by decide +kernel)
  have lk140 := hts (.fieldLink RX5 140 "PointStore$Disk" "home" "LPointStore$Points;") (by decide +kernel)
  have lk162 := hts (.fieldLink RX5 162 "PointStore$Changes" "total" "I") (by decide +kernel)
  have lk191 := hts (.fieldLink RX5 191 "PointStore$Tree" "nodes" "I") (by decide +kernel)
  have lk194 := hts (.fieldLink RX5 194 "PointStore$Tree" "depth" "I") (by decide +kernel)
  have hin0 : ∀ w ∈ u_ws RX0 TX0 3, w ∈ wsX5_count := by decide +kernel
  have hin1 : ∀ w ∈ u_ws RX1 TX1 4, w ∈ wsX5_count := by decide +kernel
  have hin2 : ∀ w ∈ u_ws RX2 TX2 4, w ∈ wsX5_count := by decide +kernel
  have hin4 : ∀ w ∈ u_ws RX4 TX4 9, w ∈ wsX5_count := by decide +kernel
  have hin5 : ∀ w ∈ u_ws RX5 TX5 12, w ∈ wsX5_count := by decide +kernel
  refine wQ (fun Q hQ => ?_)
  generalize hAe : inW [(a, .inr (5, [.int (nI bl), .int (nI bk), .int (nI sp), .ref d, .ref p, .ref t, .ref t2, .ref ch, .ref rs, .int (nI 1), .int f_ct, .int (nI cp)])), (d, .inr (1, [.ref h, .ref lk, .ref lv, .int (nI se)])), (p, .inr (2, [.ref pk, .ref pv, .int (nI P.length), .int (nI w)])), (pk, .inl (X.2.1, 512, .inl pkf)), (pv, .inl (X.2.1, 512, .inl pvf)), (h, .inr (2, [.ref hk, .ref hv, .int (nI Hm.length), .int (nI wh)])), (hk, .inl (X.2.1, 512, .inl hkf)), (hv, .inl (X.2.1, 512, .inl hvf)), (t, .inr (4, [.ref p, .int (nI bk), .int (nI b), .int (nI (bl + 1)), .ref fa, .ref oa, .int f_nn, .int f_dd, .int f_mo])), (fa, .inl (X.2.1, 6 * (bl + 1), .inl ff)), (oa, .inl (X.2.1, 512, .inl o)), (t2, .inr (4, [.ref h, .int (nI bk), .int (nI b), .int (nI (bl + 1)), .ref fa2, .ref oa2, .int e_nn, .int e_dd, .int e_mo])), (fa2, .inl (X.2.1, 6 * (bl + 1), .inl ffb)), (oa2, .inl (X.2.1, 512, .inl ob)), (ch, .inr (0, [.ref ck, .ref cv, .int (nI nc)]))] = A_ at hD hS hQ
  have hg1 : gF bk b 0 0 (bl + 1) P [] = tr bk b 0 0 P := gF_fit (by omega)
  have hg2 : gF bk b 0 0 (bl + 1) Hm [] = tr bk b 0 0 Hm := gF_fit (by omega)
  have hf3 : (gF bk b 0 0 (bl + 1) P []).length ≤ bl := by rw [hg1]; exact hf1
  refine lv_aload_n hx hb dX5_count_0 rfl (lv_at hl 0 rfl) ?_
  refine va_get (D := X.1) (ci := 5) (v := .int (nI 1)) (C := RX5) (T := TX5) (N := 12) hx hb hts hin5 hown hK hP 0 rfl rfl 9 (by decide) lk65 (fun _ h9 => h9) rfl dX5_count_1 ?_
  refine lv_if_ne (tgt := 10) hx hb dX5_count_4 (by decide) (fun c_4 => ?_) (fun c_4 => ?_)
  · skip
    refine lv_iload_n hx hb dX5_count_10 rfl (lv_at hl 1 rfl) ?_
    rcases sw_cases x 11 with h_11 | h_11
    · refine lv_tableOut (tgt := 164) hx hb dX5_count_11 (by rcases h_11 with h9 | h9; exact Or.inl h9; right; omega) (by decide) ?_
      refine lv_iconst (v := (-1)) hx hb dX5_count_164 (by decide) ?_
      refine wM hQ ?_
      exact rtI ((f_nn, f_dd, f_mo, ff, o), (e_nn, e_dd, e_mo, ffb, ob)) hx hb hr hlocks hP hS (⟨(by show _ = _; unfold cntV; rw [cif_neg (sw_ne h_11 (by decide) (by decide)), cif_neg (sw_ne h_11 (by decide) (by decide)), cif_neg (sw_ne h_11 (by decide) (by decide)), cif_neg (sw_ne h_11 (by decide) (by decide)), cif_neg (sw_ne h_11 (by decide) (by decide)), cif_neg (sw_ne h_11 (by decide) (by decide)), cif_neg (sw_ne h_11 (by decide) (by decide)), cif_neg (sw_ne h_11 (by decide) (by decide)), cif_neg (sw_ne h_11 (by decide) (by decide)), cif_neg (sw_ne h_11 (by decide) (by decide)), cif_neg (sw_ne h_11 (by decide) (by decide))]), ht1, ht2⟩) dX5_count_165
    · obtain ⟨j_11, hj_11, rfl⟩ := h_11
      rcases sw_lt11 hj_11 with rfl | rfl | rfl | rfl | rfl | rfl | rfl | rfl | rfl | rfl | rfl
      · refine lv_tableIn (tgt := 68) hx hb dX5_count_11 (by decide) (by decide) rfl (by decide) ?_
        refine lv_aload_n hx hb dX5_count_68 rfl (lv_at hl 0 rfl) ?_
        refine va_get (D := X.1) (ci := 5) (v := .ref p) (C := RX5) (T := TX5) (N := 12) hx hb hts hin5 hown hK hP 0 rfl rfl 4 (by decide) lk35 (fun _ h9 => h9) rfl dX5_count_69 ?_
        refine va_get (D := X.1) (ci := 2) (v := .int (nI P.length)) (C := RX2) (T := TX2) (N := 4) hx hb hts hin2 hown hK hP 2 rfl rfl 2 (by decide) lk112 (fun _ h9 => h9) rfl dX5_count_72 ?_
        refine wM hQ ?_
        exact rtI ((f_nn, f_dd, f_mo, ff, o), (e_nn, e_dd, e_mo, ffb, ob)) hx hb hr hlocks hP hS (⟨(by show _ = _; unfold cntV; rw [cif_pos rfl]), ht1, ht2⟩) dX5_count_75
      · refine lv_tableIn (tgt := 76) hx hb dX5_count_11 (by decide) (by decide) rfl (by decide) ?_
        refine lv_aload_n hx hb dX5_count_76 rfl (lv_at hl 0 rfl) ?_
        refine va_get (D := X.1) (ci := 5) (v := .ref d) (C := RX5) (T := TX5) (N := 12) hx hb hts hin5 hown hK hP 0 rfl rfl 3 (by decide) lk31 (fun _ h9 => h9) rfl dX5_count_77 ?_
        refine va_get (D := X.1) (ci := 1) (v := .ref h) (C := RX1) (T := TX1) (N := 4) hx hb hts hin1 hown hK hP 1 rfl rfl 0 (by decide) lk140 (fun _ h9 => h9) rfl dX5_count_80 ?_
        refine va_get (D := X.1) (ci := 2) (v := .int (nI Hm.length)) (C := RX2) (T := TX2) (N := 4) hx hb hts hin2 hown hK hP 5 rfl rfl 2 (by decide) lk112 (fun _ h9 => h9) rfl dX5_count_83 ?_
        refine wM hQ ?_
        exact rtI ((f_nn, f_dd, f_mo, ff, o), (e_nn, e_dd, e_mo, ffb, ob)) hx hb hr hlocks hP hS (⟨(by show _ = _; unfold cntV; rw [cif_neg (by decide), cif_pos rfl]), ht1, ht2⟩) dX5_count_86
      · refine lv_tableIn (tgt := 87) hx hb dX5_count_11 (by decide) (by decide) rfl (by decide) ?_
        refine lv_aload_n hx hb dX5_count_87 rfl (lv_at hl 0 rfl) ?_
        refine va_get (D := X.1) (ci := 5) (v := .ref t) (C := RX5) (T := TX5) (N := 12) hx hb hts hin5 hown hK hP 0 rfl rfl 5 (by decide) lk44 (fun _ h9 => h9) rfl dX5_count_88 ?_
        refine ckVr (As := []) (rest := []) 0 [8, 2, 3, 4, 9, 10] (c_X4_upToDate l X t p pk pv fa oa bk b (bl + 1) w f_nn f_dd f_mo pkf pvf ff o P h1 (by omega) hb1 hbk hbk2 (insd_rg hi1) ht1.1) ⟨hx, hb, hml, hown, hts⟩ (cwV 0 hts gX5_count_X4_upToDate rfl rfl rfl (by decide +kernel) ⟨(by show b + 4 + 1 + 1 ≤ b + 6 + 1; omega), (by show 8 + (2 + 11) + 100 * (b + 4 + 1) ≤ 100 * (b + 6 + 1); omega)⟩) hK hN hP hD hS (by decide) rfl (ci := 4) rfl rfl (fun _ => rfl) rfl hl.1 rfl (Nat.le_of_ble_eq_true rfl) dX5_count_91 ⟨Nat.zero_le _, Nat.zero_le _⟩ (fun u_1 H locs hup hP hD hS => ?_)
        obtain ⟨ffx, ox⟩ := u_1
        have hP : va_P X.1 vwCl [(a, .inr (5, [.int (nI bl), .int (nI bk), .int (nI sp), .ref d, .ref p, .ref t, .ref t2, .ref ch, .ref rs, .int (nI 1), .int f_ct, .int (nI cp)])), (d, .inr (1, [.ref h, .ref lk, .ref lv, .int (nI se)])), (p, .inr (2, [.ref pk, .ref pv, .int (nI P.length), .int (nI w)])), (pk, .inl (X.2.1, 512, .inl pkf)), (pv, .inl (X.2.1, 512, .inl pvf)), (h, .inr (2, [.ref hk, .ref hv, .int (nI Hm.length), .int (nI wh)])), (hk, .inl (X.2.1, 512, .inl hkf)), (hv, .inl (X.2.1, 512, .inl hvf)), (t, .inr (4, [.ref p, .int (nI bk), .int (nI b), .int (nI (bl + 1)), .ref fa, .ref oa, .int (nI ((gF bk b 0 0 (bl + 1) P []).length)), .int (nI (dpt b (gF bk b 0 0 (bl + 1) P []))), .int (nI w)])), (fa, .inl (X.2.1, 6 * (bl + 1), .inl ffx)), (oa, .inl (X.2.1, 512, .inl ox)), (t2, .inr (4, [.ref h, .int (nI bk), .int (nI b), .int (nI (bl + 1)), .ref fa2, .ref oa2, .int e_nn, .int e_dd, .int e_mo])), (fa2, .inl (X.2.1, 6 * (bl + 1), .inl ffb)), (oa2, .inl (X.2.1, 512, .inl ob)), (ch, .inr (0, [.ref ck, .ref cv, .int (nI nc)]))] H := hP
        have hD : va_D A_ [(a, .inr (5, [.int (nI bl), .int (nI bk), .int (nI sp), .ref d, .ref p, .ref t, .ref t2, .ref ch, .ref rs, .int (nI 1), .int f_ct, .int (nI cp)])), (d, .inr (1, [.ref h, .ref lk, .ref lv, .int (nI se)])), (p, .inr (2, [.ref pk, .ref pv, .int (nI P.length), .int (nI w)])), (pk, .inl (X.2.1, 512, .inl pkf)), (pv, .inl (X.2.1, 512, .inl pvf)), (h, .inr (2, [.ref hk, .ref hv, .int (nI Hm.length), .int (nI wh)])), (hk, .inl (X.2.1, 512, .inl hkf)), (hv, .inl (X.2.1, 512, .inl hvf)), (t, .inr (4, [.ref p, .int (nI bk), .int (nI b), .int (nI (bl + 1)), .ref fa, .ref oa, .int (nI ((gF bk b 0 0 (bl + 1) P []).length)), .int (nI (dpt b (gF bk b 0 0 (bl + 1) P []))), .int (nI w)])), (fa, .inl (X.2.1, 6 * (bl + 1), .inl ffx)), (oa, .inl (X.2.1, 512, .inl ox)), (t2, .inr (4, [.ref h, .int (nI bk), .int (nI b), .int (nI (bl + 1)), .ref fa2, .ref oa2, .int e_nn, .int e_dd, .int e_mo])), (fa2, .inl (X.2.1, 6 * (bl + 1), .inl ffb)), (oa2, .inl (X.2.1, 512, .inl ob)), (ch, .inr (0, [.ref ck, .ref cv, .int (nI nc)]))] := hD
        try dsimp only at hup
        refine va_get (D := X.1) (ci := 4) (v := .int (nI ((gF bk b 0 0 (bl + 1) P []).length))) (C := RX4) (T := TX4) (N := 9) hx hb hts hin4 hown hK hP 8 rfl rfl 6 (by decide) lk191 (fun _ h9 => h9) rfl dX5_count_94 ?_
        refine wM hQ ?_
        exact rtI ((nI ((gF bk b 0 0 (bl + 1) P []).length), nI (dpt b (gF bk b 0 0 (bl + 1) P [])), nI w, ffx, ox), (e_nn, e_dd, e_mo, ffb, ob)) hx hb hr hlocks hP hS (⟨(by show _ = _; unfold cntV; rw [cif_neg (by decide), cif_neg (by decide), cif_pos rfl, ← hg1]), tc_same hup, ht2⟩) dX5_count_97
      · refine lv_tableIn (tgt := 98) hx hb dX5_count_11 (by decide) (by decide) rfl (by decide) ?_
        refine lv_aload_n hx hb dX5_count_98 rfl (lv_at hl 0 rfl) ?_
        refine va_get (D := X.1) (ci := 5) (v := .ref t2) (C := RX5) (T := TX5) (N := 12) hx hb hts hin5 hown hK hP 0 rfl rfl 6 (by decide) lk48 (fun _ h9 => h9) rfl dX5_count_99 ?_
        refine ckVr (As := []) (rest := []) 0 [11, 5, 6, 7, 12, 13] (c_X4_upToDate l X t2 h hk hv fa2 oa2 bk b (bl + 1) wh e_nn e_dd e_mo hkf hvf ffb ob Hm h2 (by omega) hb1 hbk hbk2 (insd_rg hi2) ht2.1) ⟨hx, hb, hml, hown, hts⟩ (cwV 0 hts gX5_count_X4_upToDate rfl rfl rfl (by decide +kernel) ⟨(by show b + 4 + 1 + 1 ≤ b + 6 + 1; omega), (by show 8 + (2 + 11) + 100 * (b + 4 + 1) ≤ 100 * (b + 6 + 1); omega)⟩) hK hN hP hD hS (by decide) rfl (ci := 4) rfl rfl (fun _ => rfl) rfl hl.1 rfl (Nat.le_of_ble_eq_true rfl) dX5_count_102 ⟨Nat.zero_le _, Nat.zero_le _⟩ (fun u_3 H locs hup hP hD hS => ?_)
        obtain ⟨ffy, oy⟩ := u_3
        have hP : va_P X.1 vwCl [(a, .inr (5, [.int (nI bl), .int (nI bk), .int (nI sp), .ref d, .ref p, .ref t, .ref t2, .ref ch, .ref rs, .int (nI 1), .int f_ct, .int (nI cp)])), (d, .inr (1, [.ref h, .ref lk, .ref lv, .int (nI se)])), (p, .inr (2, [.ref pk, .ref pv, .int (nI P.length), .int (nI w)])), (pk, .inl (X.2.1, 512, .inl pkf)), (pv, .inl (X.2.1, 512, .inl pvf)), (h, .inr (2, [.ref hk, .ref hv, .int (nI Hm.length), .int (nI wh)])), (hk, .inl (X.2.1, 512, .inl hkf)), (hv, .inl (X.2.1, 512, .inl hvf)), (t, .inr (4, [.ref p, .int (nI bk), .int (nI b), .int (nI (bl + 1)), .ref fa, .ref oa, .int f_nn, .int f_dd, .int f_mo])), (fa, .inl (X.2.1, 6 * (bl + 1), .inl ff)), (oa, .inl (X.2.1, 512, .inl o)), (t2, .inr (4, [.ref h, .int (nI bk), .int (nI b), .int (nI (bl + 1)), .ref fa2, .ref oa2, .int (nI ((gF bk b 0 0 (bl + 1) Hm []).length)), .int (nI (dpt b (gF bk b 0 0 (bl + 1) Hm []))), .int (nI wh)])), (fa2, .inl (X.2.1, 6 * (bl + 1), .inl ffy)), (oa2, .inl (X.2.1, 512, .inl oy)), (ch, .inr (0, [.ref ck, .ref cv, .int (nI nc)]))] H := hP
        have hD : va_D A_ [(a, .inr (5, [.int (nI bl), .int (nI bk), .int (nI sp), .ref d, .ref p, .ref t, .ref t2, .ref ch, .ref rs, .int (nI 1), .int f_ct, .int (nI cp)])), (d, .inr (1, [.ref h, .ref lk, .ref lv, .int (nI se)])), (p, .inr (2, [.ref pk, .ref pv, .int (nI P.length), .int (nI w)])), (pk, .inl (X.2.1, 512, .inl pkf)), (pv, .inl (X.2.1, 512, .inl pvf)), (h, .inr (2, [.ref hk, .ref hv, .int (nI Hm.length), .int (nI wh)])), (hk, .inl (X.2.1, 512, .inl hkf)), (hv, .inl (X.2.1, 512, .inl hvf)), (t, .inr (4, [.ref p, .int (nI bk), .int (nI b), .int (nI (bl + 1)), .ref fa, .ref oa, .int f_nn, .int f_dd, .int f_mo])), (fa, .inl (X.2.1, 6 * (bl + 1), .inl ff)), (oa, .inl (X.2.1, 512, .inl o)), (t2, .inr (4, [.ref h, .int (nI bk), .int (nI b), .int (nI (bl + 1)), .ref fa2, .ref oa2, .int (nI ((gF bk b 0 0 (bl + 1) Hm []).length)), .int (nI (dpt b (gF bk b 0 0 (bl + 1) Hm []))), .int (nI wh)])), (fa2, .inl (X.2.1, 6 * (bl + 1), .inl ffy)), (oa2, .inl (X.2.1, 512, .inl oy)), (ch, .inr (0, [.ref ck, .ref cv, .int (nI nc)]))] := hD
        try dsimp only at hup
        refine va_get (D := X.1) (ci := 4) (v := .int (nI ((gF bk b 0 0 (bl + 1) Hm []).length))) (C := RX4) (T := TX4) (N := 9) hx hb hts hin4 hown hK hP 11 rfl rfl 6 (by decide) lk191 (fun _ h9 => h9) rfl dX5_count_105 ?_
        refine wM hQ ?_
        exact rtI ((f_nn, f_dd, f_mo, ff, o), (nI ((gF bk b 0 0 (bl + 1) Hm []).length), nI (dpt b (gF bk b 0 0 (bl + 1) Hm [])), nI wh, ffy, oy)) hx hb hr hlocks hP hS (⟨(by show _ = _; unfold cntV; rw [cif_neg (by decide), cif_neg (by decide), cif_neg (by decide), cif_pos rfl, ← hg2]), ht1, tc_same hup⟩) dX5_count_108
      · refine lv_tableIn (tgt := 109) hx hb dX5_count_11 (by decide) (by decide) rfl (by decide) ?_
        refine lv_aload_n hx hb dX5_count_109 rfl (lv_at hl 0 rfl) ?_
        refine va_get (D := X.1) (ci := 5) (v := .int (nI bl)) (C := RX5) (T := TX5) (N := 12) hx hb hts hin5 hown hK hP 0 rfl rfl 0 (by decide) lk16 (fun _ h9 => h9) rfl dX5_count_110 ?_
        refine lv_aload_n hx hb dX5_count_113 rfl (lv_at hl 0 rfl) ?_
        refine va_get (D := X.1) (ci := 5) (v := .ref t) (C := RX5) (T := TX5) (N := 12) hx hb hts hin5 hown hK hP 0 rfl rfl 5 (by decide) lk44 (fun _ h9 => h9) rfl dX5_count_114 ?_
        refine ckVr (As := []) (rest := [.int (nI bl)]) 0 [8, 2, 3, 4, 9, 10] (c_X4_upToDate l X t p pk pv fa oa bk b (bl + 1) w f_nn f_dd f_mo pkf pvf ff o P h1 (by omega) hb1 hbk hbk2 (insd_rg hi1) ht1.1) ⟨hx, hb, hml, hown, hts⟩ (cwV 0 hts gX5_count_X4_upToDate rfl rfl rfl (by decide +kernel) ⟨(by show b + 4 + 1 + 1 ≤ b + 6 + 1; omega), (by show 8 + (2 + 11) + 100 * (b + 4 + 1) ≤ 100 * (b + 6 + 1); omega)⟩) hK hN hP hD hS (by decide) rfl (ci := 4) rfl rfl (fun _ => rfl) rfl hl.1 rfl (Nat.le_of_ble_eq_true rfl) dX5_count_117 ⟨Nat.zero_le _, Nat.zero_le _⟩ (fun u_5 H locs hup hP hD hS => ?_)
        obtain ⟨ffx, ox⟩ := u_5
        have hP : va_P X.1 vwCl [(a, .inr (5, [.int (nI bl), .int (nI bk), .int (nI sp), .ref d, .ref p, .ref t, .ref t2, .ref ch, .ref rs, .int (nI 1), .int f_ct, .int (nI cp)])), (d, .inr (1, [.ref h, .ref lk, .ref lv, .int (nI se)])), (p, .inr (2, [.ref pk, .ref pv, .int (nI P.length), .int (nI w)])), (pk, .inl (X.2.1, 512, .inl pkf)), (pv, .inl (X.2.1, 512, .inl pvf)), (h, .inr (2, [.ref hk, .ref hv, .int (nI Hm.length), .int (nI wh)])), (hk, .inl (X.2.1, 512, .inl hkf)), (hv, .inl (X.2.1, 512, .inl hvf)), (t, .inr (4, [.ref p, .int (nI bk), .int (nI b), .int (nI (bl + 1)), .ref fa, .ref oa, .int (nI ((gF bk b 0 0 (bl + 1) P []).length)), .int (nI (dpt b (gF bk b 0 0 (bl + 1) P []))), .int (nI w)])), (fa, .inl (X.2.1, 6 * (bl + 1), .inl ffx)), (oa, .inl (X.2.1, 512, .inl ox)), (t2, .inr (4, [.ref h, .int (nI bk), .int (nI b), .int (nI (bl + 1)), .ref fa2, .ref oa2, .int e_nn, .int e_dd, .int e_mo])), (fa2, .inl (X.2.1, 6 * (bl + 1), .inl ffb)), (oa2, .inl (X.2.1, 512, .inl ob)), (ch, .inr (0, [.ref ck, .ref cv, .int (nI nc)]))] H := hP
        have hD : va_D A_ [(a, .inr (5, [.int (nI bl), .int (nI bk), .int (nI sp), .ref d, .ref p, .ref t, .ref t2, .ref ch, .ref rs, .int (nI 1), .int f_ct, .int (nI cp)])), (d, .inr (1, [.ref h, .ref lk, .ref lv, .int (nI se)])), (p, .inr (2, [.ref pk, .ref pv, .int (nI P.length), .int (nI w)])), (pk, .inl (X.2.1, 512, .inl pkf)), (pv, .inl (X.2.1, 512, .inl pvf)), (h, .inr (2, [.ref hk, .ref hv, .int (nI Hm.length), .int (nI wh)])), (hk, .inl (X.2.1, 512, .inl hkf)), (hv, .inl (X.2.1, 512, .inl hvf)), (t, .inr (4, [.ref p, .int (nI bk), .int (nI b), .int (nI (bl + 1)), .ref fa, .ref oa, .int (nI ((gF bk b 0 0 (bl + 1) P []).length)), .int (nI (dpt b (gF bk b 0 0 (bl + 1) P []))), .int (nI w)])), (fa, .inl (X.2.1, 6 * (bl + 1), .inl ffx)), (oa, .inl (X.2.1, 512, .inl ox)), (t2, .inr (4, [.ref h, .int (nI bk), .int (nI b), .int (nI (bl + 1)), .ref fa2, .ref oa2, .int e_nn, .int e_dd, .int e_mo])), (fa2, .inl (X.2.1, 6 * (bl + 1), .inl ffb)), (oa2, .inl (X.2.1, 512, .inl ob)), (ch, .inr (0, [.ref ck, .ref cv, .int (nI nc)]))] := hD
        try dsimp only at hup
        refine va_get (D := X.1) (ci := 4) (v := .int (nI ((gF bk b 0 0 (bl + 1) P []).length))) (C := RX4) (T := TX4) (N := 9) hx hb hts hin4 hown hK hP 8 rfl rfl 6 (by decide) lk191 (fun _ h9 => h9) rfl dX5_count_120 ?_
        refine lv_isub hx hb dX5_count_123 ?_
        refine lv_topi (fun x_7 ex_7 => ?_)
        obtain rfl : x_7 = nI (bl - ((gF bk b 0 0 (bl + 1) P []).length)) := by
          rw [ex_7]
          exact pk_sub (by omega)
        refine wM hQ ?_
        exact rtI ((nI ((gF bk b 0 0 (bl + 1) P []).length), nI (dpt b (gF bk b 0 0 (bl + 1) P [])), nI w, ffx, ox), (e_nn, e_dd, e_mo, ffb, ob)) hx hb hr hlocks hP hS (⟨(by show _ = _; unfold cntV; rw [cif_neg (by decide), cif_neg (by decide), cif_neg (by decide), cif_neg (by decide), cif_pos rfl, ← hg1]), tc_same hup, ht2⟩) dX5_count_124
      · refine lv_tableIn (tgt := 125) hx hb dX5_count_11 (by decide) (by decide) rfl (by decide) ?_
        refine lv_aload_n hx hb dX5_count_125 rfl (lv_at hl 0 rfl) ?_
        refine va_get (D := X.1) (ci := 5) (v := .ref ch) (C := RX5) (T := TX5) (N := 12) hx hb hts hin5 hown hK hP 0 rfl rfl 7 (by decide) lk54 (fun _ h9 => h9) rfl dX5_count_126 ?_
        refine va_get (D := X.1) (ci := 0) (v := .int (nI nc)) (C := RX0) (T := TX0) (N := 3) hx hb hts hin0 hown hK hP 14 rfl rfl 2 (by decide) lk162 (fun _ h9 => h9) rfl dX5_count_129 ?_
        refine wM hQ ?_
        exact rtI ((f_nn, f_dd, f_mo, ff, o), (e_nn, e_dd, e_mo, ffb, ob)) hx hb hr hlocks hP hS (⟨(by show _ = _; unfold cntV; rw [cif_neg (by decide), cif_neg (by decide), cif_neg (by decide), cif_neg (by decide), cif_neg (by decide), cif_pos rfl]), ht1, ht2⟩) dX5_count_132
      · refine lv_tableIn (tgt := 133) hx hb dX5_count_11 (by decide) (by decide) rfl (by decide) ?_
        refine lv_aload_n hx hb dX5_count_133 rfl (lv_at hl 0 rfl) ?_
        refine va_get (D := X.1) (ci := 5) (v := .ref t) (C := RX5) (T := TX5) (N := 12) hx hb hts hin5 hown hK hP 0 rfl rfl 5 (by decide) lk44 (fun _ h9 => h9) rfl dX5_count_134 ?_
        refine ckVr (As := []) (rest := []) 0 [8, 2, 3, 4, 9, 10] (c_X4_upToDate l X t p pk pv fa oa bk b (bl + 1) w f_nn f_dd f_mo pkf pvf ff o P h1 (by omega) hb1 hbk hbk2 (insd_rg hi1) ht1.1) ⟨hx, hb, hml, hown, hts⟩ (cwV 0 hts gX5_count_X4_upToDate rfl rfl rfl (by decide +kernel) ⟨(by show b + 4 + 1 + 1 ≤ b + 6 + 1; omega), (by show 8 + (2 + 11) + 100 * (b + 4 + 1) ≤ 100 * (b + 6 + 1); omega)⟩) hK hN hP hD hS (by decide) rfl (ci := 4) rfl rfl (fun _ => rfl) rfl hl.1 rfl (Nat.le_of_ble_eq_true rfl) dX5_count_137 ⟨Nat.zero_le _, Nat.zero_le _⟩ (fun u_8 H locs hup hP hD hS => ?_)
        obtain ⟨ffx, ox⟩ := u_8
        have hP : va_P X.1 vwCl [(a, .inr (5, [.int (nI bl), .int (nI bk), .int (nI sp), .ref d, .ref p, .ref t, .ref t2, .ref ch, .ref rs, .int (nI 1), .int f_ct, .int (nI cp)])), (d, .inr (1, [.ref h, .ref lk, .ref lv, .int (nI se)])), (p, .inr (2, [.ref pk, .ref pv, .int (nI P.length), .int (nI w)])), (pk, .inl (X.2.1, 512, .inl pkf)), (pv, .inl (X.2.1, 512, .inl pvf)), (h, .inr (2, [.ref hk, .ref hv, .int (nI Hm.length), .int (nI wh)])), (hk, .inl (X.2.1, 512, .inl hkf)), (hv, .inl (X.2.1, 512, .inl hvf)), (t, .inr (4, [.ref p, .int (nI bk), .int (nI b), .int (nI (bl + 1)), .ref fa, .ref oa, .int (nI ((gF bk b 0 0 (bl + 1) P []).length)), .int (nI (dpt b (gF bk b 0 0 (bl + 1) P []))), .int (nI w)])), (fa, .inl (X.2.1, 6 * (bl + 1), .inl ffx)), (oa, .inl (X.2.1, 512, .inl ox)), (t2, .inr (4, [.ref h, .int (nI bk), .int (nI b), .int (nI (bl + 1)), .ref fa2, .ref oa2, .int e_nn, .int e_dd, .int e_mo])), (fa2, .inl (X.2.1, 6 * (bl + 1), .inl ffb)), (oa2, .inl (X.2.1, 512, .inl ob)), (ch, .inr (0, [.ref ck, .ref cv, .int (nI nc)]))] H := hP
        have hD : va_D A_ [(a, .inr (5, [.int (nI bl), .int (nI bk), .int (nI sp), .ref d, .ref p, .ref t, .ref t2, .ref ch, .ref rs, .int (nI 1), .int f_ct, .int (nI cp)])), (d, .inr (1, [.ref h, .ref lk, .ref lv, .int (nI se)])), (p, .inr (2, [.ref pk, .ref pv, .int (nI P.length), .int (nI w)])), (pk, .inl (X.2.1, 512, .inl pkf)), (pv, .inl (X.2.1, 512, .inl pvf)), (h, .inr (2, [.ref hk, .ref hv, .int (nI Hm.length), .int (nI wh)])), (hk, .inl (X.2.1, 512, .inl hkf)), (hv, .inl (X.2.1, 512, .inl hvf)), (t, .inr (4, [.ref p, .int (nI bk), .int (nI b), .int (nI (bl + 1)), .ref fa, .ref oa, .int (nI ((gF bk b 0 0 (bl + 1) P []).length)), .int (nI (dpt b (gF bk b 0 0 (bl + 1) P []))), .int (nI w)])), (fa, .inl (X.2.1, 6 * (bl + 1), .inl ffx)), (oa, .inl (X.2.1, 512, .inl ox)), (t2, .inr (4, [.ref h, .int (nI bk), .int (nI b), .int (nI (bl + 1)), .ref fa2, .ref oa2, .int e_nn, .int e_dd, .int e_mo])), (fa2, .inl (X.2.1, 6 * (bl + 1), .inl ffb)), (oa2, .inl (X.2.1, 512, .inl ob)), (ch, .inr (0, [.ref ck, .ref cv, .int (nI nc)]))] := hD
        try dsimp only at hup
        refine va_get (D := X.1) (ci := 4) (v := .int (nI (dpt b (gF bk b 0 0 (bl + 1) P [])))) (C := RX4) (T := TX4) (N := 9) hx hb hts hin4 hown hK hP 8 rfl rfl 7 (by decide) lk194 (fun _ h9 => h9) rfl dX5_count_140 ?_
        refine wM hQ ?_
        exact rtI ((nI ((gF bk b 0 0 (bl + 1) P []).length), nI (dpt b (gF bk b 0 0 (bl + 1) P [])), nI w, ffx, ox), (e_nn, e_dd, e_mo, ffb, ob)) hx hb hr hlocks hP hS (⟨(by show _ = _; unfold cntV; rw [cif_neg (by decide), cif_neg (by decide), cif_neg (by decide), cif_neg (by decide), cif_neg (by decide), cif_neg (by decide), cif_pos rfl, ← hg1]), tc_same hup, ht2⟩) dX5_count_143
      · refine lv_tableIn (tgt := 144) hx hb dX5_count_11 (by decide) (by decide) rfl (by decide) ?_
        refine lv_aload_n hx hb dX5_count_144 rfl (lv_at hl 0 rfl) ?_
        refine va_get (D := X.1) (ci := 5) (v := .int f_ct) (C := RX5) (T := TX5) (N := 12) hx hb hts hin5 hown hK hP 0 rfl rfl 10 (by decide) lk69 (fun _ h9 => h9) rfl dX5_count_145 ?_
        refine wM hQ ?_
        exact rtI ((f_nn, f_dd, f_mo, ff, o), (e_nn, e_dd, e_mo, ffb, ob)) hx hb hr hlocks hP hS (⟨(by show _ = _; unfold cntV; rw [cif_neg (by decide), cif_neg (by decide), cif_neg (by decide), cif_neg (by decide), cif_neg (by decide), cif_neg (by decide), cif_neg (by decide), cif_pos rfl]), ht1, ht2⟩) dX5_count_148
      · refine lv_tableIn (tgt := 149) hx hb dX5_count_11 (by decide) (by decide) rfl (by decide) ?_
        refine lv_aload_n hx hb dX5_count_149 rfl (lv_at hl 0 rfl) ?_
        refine va_get (D := X.1) (ci := 5) (v := .int (nI bl)) (C := RX5) (T := TX5) (N := 12) hx hb hts hin5 hown hK hP 0 rfl rfl 0 (by decide) lk16 (fun _ h9 => h9) rfl dX5_count_150 ?_
        refine wM hQ ?_
        exact rtI ((f_nn, f_dd, f_mo, ff, o), (e_nn, e_dd, e_mo, ffb, ob)) hx hb hr hlocks hP hS (⟨(by show _ = _; unfold cntV; rw [cif_neg (by decide), cif_neg (by decide), cif_neg (by decide), cif_neg (by decide), cif_neg (by decide), cif_neg (by decide), cif_neg (by decide), cif_neg (by decide), cif_pos rfl]), ht1, ht2⟩) dX5_count_153
      · refine lv_tableIn (tgt := 154) hx hb dX5_count_11 (by decide) (by decide) rfl (by decide) ?_
        refine lv_aload_n hx hb dX5_count_154 rfl (lv_at hl 0 rfl) ?_
        refine va_get (D := X.1) (ci := 5) (v := .int (nI bk)) (C := RX5) (T := TX5) (N := 12) hx hb hts hin5 hown hK hP 0 rfl rfl 1 (by decide) lk20 (fun _ h9 => h9) rfl dX5_count_155 ?_
        refine wM hQ ?_
        exact rtI ((f_nn, f_dd, f_mo, ff, o), (e_nn, e_dd, e_mo, ffb, ob)) hx hb hr hlocks hP hS (⟨(by show _ = _; unfold cntV; rw [cif_neg (by decide), cif_neg (by decide), cif_neg (by decide), cif_neg (by decide), cif_neg (by decide), cif_neg (by decide), cif_neg (by decide), cif_neg (by decide), cif_neg (by decide), cif_pos rfl]), ht1, ht2⟩) dX5_count_158
      · refine lv_tableIn (tgt := 159) hx hb dX5_count_11 (by decide) (by decide) rfl (by decide) ?_
        refine lv_aload_n hx hb dX5_count_159 rfl (lv_at hl 0 rfl) ?_
        refine va_get (D := X.1) (ci := 5) (v := .int (nI sp)) (C := RX5) (T := TX5) (N := 12) hx hb hts hin5 hown hK hP 0 rfl rfl 2 (by decide) lk23 (fun _ h9 => h9) rfl dX5_count_160 ?_
        refine wM hQ ?_
        exact rtI ((f_nn, f_dd, f_mo, ff, o), (e_nn, e_dd, e_mo, ffb, ob)) hx hb hr hlocks hP hS (⟨(by show _ = _; unfold cntV; rw [cif_neg (by decide), cif_neg (by decide), cif_neg (by decide), cif_neg (by decide), cif_neg (by decide), cif_neg (by decide), cif_neg (by decide), cif_neg (by decide), cif_neg (by decide), cif_neg (by decide), cif_pos rfl]), ht1, ht2⟩) dX5_count_163
  · exact absurd c_4 (by decide)
set_option maxHeartbeats 4000000 in
set_option maxRecDepth 100000 in
theorem c_X5_differs (l : Launch) (X : kX) (a d p t t2 ch rs sp bl bk cp : Nat) (f_ct : Int32) (h lk lv se pk pv w hk hv wh : Nat) (rk_ rv rd : Nat) (pkf pvf hkf hvf rkf rvf : Nat → Int32) (P Hm : PL) (R : RSL) (h1 : ptOk pkf pvf P) (h2 : ptOk hkf hvf Hm) (h3 : rsOk rkf rvf R) : CWi l X yX5_differs wsX5_differs 2 [.ref a] [(a, .inr (5, [.int (nI bl), .int (nI bk), .int (nI sp), .ref d, .ref p, .ref t, .ref t2, .ref ch, .ref rs, .int (nI 1), .int f_ct, .int (nI cp)])), (d, .inr (1, [.ref h, .ref lk, .ref lv, .int (nI se)])), (p, .inr (2, [.ref pk, .ref pv, .int (nI P.length), .int (nI w)])), (pk, .inl (X.2.1, 512, .inl pkf)), (pv, .inl (X.2.1, 512, .inl pvf)), (h, .inr (2, [.ref hk, .ref hv, .int (nI Hm.length), .int (nI wh)])), (hk, .inl (X.2.1, 512, .inl hkf)), (hv, .inl (X.2.1, 512, .inl hvf)), (rs, .inr (3, [.ref rk_, .ref rv, .ref rd, .int (nI R.length)])), (rk_, .inl (X.2.1, 150, .inl rkf)), (rv, .inl (X.2.1, 150, .inl rvf))] (S := (Nat → Int32) × (Nat → Int32) × RSL) (fun r u => rsOk u.1 u.2.1 u.2.2 ∧ (r, u.2.2) = (nI (difA P Hm ([], 0)).2, (difA P Hm ([], 0)).1)) (fun ⟨rk2, rv2, R2⟩ => [(a, .inr (5, [.int (nI bl), .int (nI bk), .int (nI sp), .ref d, .ref p, .ref t, .ref t2, .ref ch, .ref rs, .int (nI 1), .int f_ct, .int (nI cp)])), (d, .inr (1, [.ref h, .ref lk, .ref lv, .int (nI se)])), (p, .inr (2, [.ref pk, .ref pv, .int (nI P.length), .int (nI w)])), (pk, .inl (X.2.1, 512, .inl pkf)), (pv, .inl (X.2.1, 512, .inl pvf)), (h, .inr (2, [.ref hk, .ref hv, .int (nI Hm.length), .int (nI wh)])), (hk, .inl (X.2.1, 512, .inl hkf)), (hv, .inl (X.2.1, 512, .inl hvf)), (rs, .inr (3, [.ref rk_, .ref rv, .ref rd, .int (nI R2.length)])), (rk_, .inl (X.2.1, 150, .inl rk2)), (rv, .inl (X.2.1, 150, .inl rv2))]) := by
  refine Met.ofW (cc := cX5_differs) (maxL := 10) (ret := some (.int)) (by decide) rfl ?_
  intro pz ez sz mz args below meth cz s₁ Bz hml hv
  obtain ⟨rfl, hP, hK, hD0, hN⟩ := hv
  have hx := Bz.exec
  have hb := Bz.bytes
  have hr := Bz.returns
  have hts := atoms_spec (ws := wsX5_differs) Bz.pre
  have hown : sz.vm.findClass RX5 = some mz.cls := findClass_of_methodNamed Bz.named
  have hlocks := Bz.notSynchronized
  have hD := inW.self hD0
  have hS : va_S (inW [(a, .inr (5, [.int (nI bl), .int (nI bk), .int (nI sp), .ref d, .ref p, .ref t, .ref t2, .ref ch, .ref rs, .int (nI 1), .int f_ct, .int (nI cp)])), (d, .inr (1, [.ref h, .ref lk, .ref lv, .int (nI se)])), (p, .inr (2, [.ref pk, .ref pv, .int (nI P.length), .int (nI w)])), (pk, .inl (X.2.1, 512, .inl pkf)), (pv, .inl (X.2.1, 512, .inl pvf)), (h, .inr (2, [.ref hk, .ref hv, .int (nI Hm.length), .int (nI wh)])), (hk, .inl (X.2.1, 512, .inl hkf)), (hv, .inl (X.2.1, 512, .inl hvf)), (rs, .inr (3, [.ref rk_, .ref rv, .ref rd, .int (nI R.length)])), (rk_, .inl (X.2.1, 150, .inl rkf)), (rv, .inl (X.2.1, 150, .inl rvf))]) sz.heap sz.heap [] := va_S.rf
  have hl := lv_entry ([.ref a]) (n := 10) (Nat.le_of_ble_eq_true rfl)
  rw [lg_entry_eq]
  generalize (lg_sl ([.ref a]) ++ List.replicate (10 - (lg_sl ([.ref a])).length) Slot.unset).toArray = ls at hl ⊢
  have hl : lv_has ls 10 [(0, .ref a)] := hl
  have lk31 := hts (.fieldLink RX5 31 "PointStore" "disk" "LPointStore$Disk;") (by decide +kernel)
  have lk35 := hts (.fieldLink RX5 35 "PointStore" "pending" "LPointStore$Points;") (by decide +kernel)
  have lk61 := hts (.fieldLink RX5 61 "PointStore" "results" "LPointStore$Results;") (by decide +kernel)
  have lk65 := hts (.fieldLink RX5 65 "PointStore" "powered" "Z") (by decide +kernel)
  have lk112 := hts (.fieldLink RX5 112 "PointStore$Points" "total" "I") (by decide +kernel)
  have lk123 := hts (.fieldLink RX5 123 "PointStore$Points" "values" "[I") (by decide +kernel)
  have lk140 := hts (.fieldLink RX5 140 "PointStore$Disk" "home" "LPointStore$Points;") (by decide +kernel)
  have hin1 : ∀ w ∈ u_ws RX1 TX1 4, w ∈ wsX5_differs := by decide +kernel
  have hin2 : ∀ w ∈ u_ws RX2 TX2 4, w ∈ wsX5_differs := by decide +kernel
  have hin5 : ∀ w ∈ u_ws RX5 TX5 12, w ∈ wsX5_differs := by decide +kernel
  refine wQ (fun Q hQ => ?_)
  generalize hAe : inW [(a, .inr (5, [.int (nI bl), .int (nI bk), .int (nI sp), .ref d, .ref p, .ref t, .ref t2, .ref ch, .ref rs, .int (nI 1), .int f_ct, .int (nI cp)])), (d, .inr (1, [.ref h, .ref lk, .ref lv, .int (nI se)])), (p, .inr (2, [.ref pk, .ref pv, .int (nI P.length), .int (nI w)])), (pk, .inl (X.2.1, 512, .inl pkf)), (pv, .inl (X.2.1, 512, .inl pvf)), (h, .inr (2, [.ref hk, .ref hv, .int (nI Hm.length), .int (nI wh)])), (hk, .inl (X.2.1, 512, .inl hkf)), (hv, .inl (X.2.1, 512, .inl hvf)), (rs, .inr (3, [.ref rk_, .ref rv, .ref rd, .int (nI R.length)])), (rk_, .inl (X.2.1, 150, .inl rkf)), (rv, .inl (X.2.1, 150, .inl rvf))] = A_ at hD hS hQ
  have hP1 := h1.1
  have hP2 := h2.1
  have hR := h3.1
  refine lv_aload_n hx hb dX5_differs_0 rfl (lv_at hl 0 rfl) ?_
  refine va_get (D := X.1) (ci := 5) (v := .int (nI 1)) (C := RX5) (T := TX5) (N := 12) hx hb hts hin5 hown hK hP 0 rfl rfl 9 (by decide) lk65 (fun _ h9 => h9) rfl dX5_differs_1 ?_
  refine lv_if_ne (tgt := 10) hx hb dX5_differs_4 (by decide) (fun c_4 => ?_) (fun c_4 => ?_)
  · skip
    refine lv_aload_n hx hb dX5_differs_10 rfl (lv_at hl 0 rfl) ?_
    refine va_get (D := X.1) (ci := 5) (v := .ref d) (C := RX5) (T := TX5) (N := 12) hx hb hts hin5 hown hK hP 0 rfl rfl 3 (by decide) lk31 (fun _ h9 => h9) rfl dX5_differs_11 ?_
    refine va_get (D := X.1) (ci := 1) (v := .ref h) (C := RX1) (T := TX1) (N := 4) hx hb hts hin1 hown hK hP 1 rfl rfl 0 (by decide) lk140 (fun _ h9 => h9) rfl dX5_differs_14 ?_
    refine lv_astore_n (lv' := [(1, .ref h), (0, .ref a)]) hx hb dX5_differs_17 rfl hl (by decide) rfl (fun ls hl => ?_)
    refine lv_aload_n hx hb dX5_differs_18 rfl (lv_at hl 1 rfl) ?_
    refine va_get (D := X.1) (ci := 5) (v := .ref rs) (C := RX5) (T := TX5) (N := 12) hx hb hts hin5 hown hK hP 0 rfl rfl 8 (by decide) lk61 (fun _ h9 => h9) rfl dX5_differs_19 ?_
    refine ckVv (As := []) (rest := []) 0 [8] (c_X3_clear l X rs rk_ rv rd (nI R.length)) ⟨hx, hb, hml, hown, hts⟩ (cwV 0 hts gX5_differs_X3_clear rfl rfl rfl (by decide +kernel) ⟨Nat.le_of_ble_eq_true rfl, Nat.le_of_ble_eq_true rfl⟩) hK hN hP hD hS (by decide) rfl (ci := 3) rfl rfl (fun _ => rfl) rfl hl.1 rfl (Nat.le_of_ble_eq_true rfl) dX5_differs_22 ⟨Nat.zero_le _, Nat.zero_le _⟩ (fun u_1 H locs hc_22 hP hD hS => ?_)
    have hP : va_P X.1 vwCl [(a, .inr (5, [.int (nI bl), .int (nI bk), .int (nI sp), .ref d, .ref p, .ref t, .ref t2, .ref ch, .ref rs, .int (nI 1), .int f_ct, .int (nI cp)])), (d, .inr (1, [.ref h, .ref lk, .ref lv, .int (nI se)])), (p, .inr (2, [.ref pk, .ref pv, .int (nI P.length), .int (nI w)])), (pk, .inl (X.2.1, 512, .inl pkf)), (pv, .inl (X.2.1, 512, .inl pvf)), (h, .inr (2, [.ref hk, .ref hv, .int (nI Hm.length), .int (nI wh)])), (hk, .inl (X.2.1, 512, .inl hkf)), (hv, .inl (X.2.1, 512, .inl hvf)), (rs, .inr (3, [.ref rk_, .ref rv, .ref rd, .int (nI 0)])), (rk_, .inl (X.2.1, 150, .inl rkf)), (rv, .inl (X.2.1, 150, .inl rvf))] H := hP
    have hD : va_D A_ [(a, .inr (5, [.int (nI bl), .int (nI bk), .int (nI sp), .ref d, .ref p, .ref t, .ref t2, .ref ch, .ref rs, .int (nI 1), .int f_ct, .int (nI cp)])), (d, .inr (1, [.ref h, .ref lk, .ref lv, .int (nI se)])), (p, .inr (2, [.ref pk, .ref pv, .int (nI P.length), .int (nI w)])), (pk, .inl (X.2.1, 512, .inl pkf)), (pv, .inl (X.2.1, 512, .inl pvf)), (h, .inr (2, [.ref hk, .ref hv, .int (nI Hm.length), .int (nI wh)])), (hk, .inl (X.2.1, 512, .inl hkf)), (hv, .inl (X.2.1, 512, .inl hvf)), (rs, .inr (3, [.ref rk_, .ref rv, .ref rd, .int (nI 0)])), (rk_, .inl (X.2.1, 150, .inl rkf)), (rv, .inl (X.2.1, 150, .inl rvf))] := hD
    refine lv_iconst (v := nI 0) hx hb dX5_differs_25 (by decide) ?_
    refine lv_istore_n (lv' := [(2, .int (nI 0)), (1, .ref h), (0, .ref a)]) hx hb dX5_differs_26 rfl hl (by decide) rfl (fun ls hl => ?_)
    refine lv_iconst (v := nI 0) hx hb dX5_differs_27 (by decide) ?_
    refine lv_istore_n (lv' := [(3, .int (nI 0)), (2, .int (nI 0)), (1, .ref h), (0, .ref a)]) hx hb dX5_differs_28 rfl hl (by decide) rfl (fun ls hl => ?_)
    refine lv_iconst (v := nI 0) hx hb dX5_differs_29 (by decide) ?_
    refine lv_istore (lv' := [(4, .int (nI 0)), (3, .int (nI 0)), (2, .int (nI 0)), (1, .ref h), (0, .ref a)]) hx hb dX5_differs_30 hl (by decide) rfl (fun ls hl => ?_)
    refine lv_aload_n hx hb dX5_differs_32 rfl (lv_at hl 4 rfl) ?_
    refine va_get (D := X.1) (ci := 5) (v := .ref p) (C := RX5) (T := TX5) (N := 12) hx hb hts hin5 hown hK hP 0 rfl rfl 4 (by decide) lk35 (fun _ h9 => h9) rfl dX5_differs_33 ?_
    refine va_get (D := X.1) (ci := 2) (v := .int (nI P.length)) (C := RX2) (T := TX2) (N := 4) hx hb hts hin2 hown hK hP 2 rfl rfl 2 (by decide) lk112 (fun _ h9 => h9) rfl dX5_differs_36 ?_
    refine lv_aload_n hx hb dX5_differs_39 rfl (lv_at hl 3 rfl) ?_
    refine va_get (D := X.1) (ci := 2) (v := .int (nI Hm.length)) (C := RX2) (T := TX2) (N := 4) hx hb hts hin2 hown hK hP 5 rfl rfl 2 (by decide) lk112 (fun _ h9 => h9) rfl dX5_differs_40 ?_
    refine lv_iadd hx hb dX5_differs_43 ?_
    refine lv_topi (fun x_3 ex_3 => ?_)
    obtain rfl : x_3 = nI (P.length + Hm.length) := by
      rw [ex_3]
      exact nI_add _ _
    refine lv_istore (lv' := [(5, .int (nI (P.length + Hm.length))), (4, .int (nI 0)), (3, .int (nI 0)), (2, .int (nI 0)), (1, .ref h), (0, .ref a)]) hx hb dX5_differs_44 hl (by decide) rfl (fun ls hl => ?_)
    refine lv_iconst (v := nI 0) hx hb dX5_differs_46 (by decide) ?_
    refine lv_istore (lv' := [(6, .int (nI 0)), (5, .int (nI (P.length + Hm.length))), (4, .int (nI 0)), (3, .int (nI 0)), (2, .int (nI 0)), (1, .ref h), (0, .ref a)]) hx hb dX5_differs_47 hl (by decide) rfl (fun ls hl => ?_)
    have loop_49 : ∀ (fu : Nat) (i : Nat) (j : Nat) (pp : Nat) (acc : RSL × Nat) (rk1 : Nat → Int32) (rv1 : Nat → Int32), (i ≤ P.length) → (j ≤ Hm.length) → (pp ≤ i + j) → (difA (P.drop i) (Hm.drop j) acc = difA P Hm ([], 0)) → (rsOk rk1 rv1 acc.1) → (P.length - i) + (Hm.length - j) < fu → ∀ (H : Heap) (locs : List Loc), va_P X.1 vwCl [(a, .inr (5, [.int (nI bl), .int (nI bk), .int (nI sp), .ref d, .ref p, .ref t, .ref t2, .ref ch, .ref rs, .int (nI 1), .int f_ct, .int (nI cp)])), (d, .inr (1, [.ref h, .ref lk, .ref lv, .int (nI se)])), (p, .inr (2, [.ref pk, .ref pv, .int (nI P.length), .int (nI w)])), (pk, .inl (X.2.1, 512, .inl pkf)), (pv, .inl (X.2.1, 512, .inl pvf)), (h, .inr (2, [.ref hk, .ref hv, .int (nI Hm.length), .int (nI wh)])), (hk, .inl (X.2.1, 512, .inl hkf)), (hv, .inl (X.2.1, 512, .inl hvf)), (rs, .inr (3, [.ref rk_, .ref rv, .ref rd, .int (nI acc.1.length)])), (rk_, .inl (X.2.1, 150, .inl rk1)), (rv, .inl (X.2.1, 150, .inl rv1))] H → va_D A_ [(a, .inr (5, [.int (nI bl), .int (nI bk), .int (nI sp), .ref d, .ref p, .ref t, .ref t2, .ref ch, .ref rs, .int (nI 1), .int f_ct, .int (nI cp)])), (d, .inr (1, [.ref h, .ref lk, .ref lv, .int (nI se)])), (p, .inr (2, [.ref pk, .ref pv, .int (nI P.length), .int (nI w)])), (pk, .inl (X.2.1, 512, .inl pkf)), (pv, .inl (X.2.1, 512, .inl pvf)), (h, .inr (2, [.ref hk, .ref hv, .int (nI Hm.length), .int (nI wh)])), (hk, .inl (X.2.1, 512, .inl hkf)), (hv, .inl (X.2.1, 512, .inl hvf)), (rs, .inr (3, [.ref rk_, .ref rv, .ref rd, .int (nI acc.1.length)])), (rk_, .inl (X.2.1, 150, .inl rk1)), (rv, .inl (X.2.1, 150, .inl rv1))] → va_S A_ sz.heap H locs → ∀ (ls : Array Slot), lv_has ls 10 [(0, .ref a), (1, .ref h), (2, .int (nI acc.2)), (3, .int (nI i)), (4, .int (nI j)), (5, .int (nI (P.length + Hm.length))), (6, .int (nI pp))] → W pz l ez (headSpec wsX5_differs (rmk 2)).room sz mz ([.ref a].toArray) below meth cz H locs 0 0 Q (F0 mz 49 ls []) := by
      intro fu
      induction fu with
      | zero => intro i j pp acc rk1 rv1 hi0 hj0 hp0 h4 hr1 hfu; exact absurd hfu (Nat.not_lt_zero _)
      | succ fu ih49 =>
        intro i j pp acc rk1 rv1 hi0 hj0 hp0 h4 hr1 hfu H locs hP hD hS ls hl
        refine lv_iload hx hb dX5_differs_49 (lv_at hl 6 rfl) ?_
        refine lv_iload hx hb dX5_differs_51 (lv_at hl 5 rfl) ?_
        refine lv_icmp_ge (tgt := 168) hx hb dX5_differs_53 (by decide) (fun c_53 => ?_) (fun c_53 => ?_)
        · replace c_53 : (P.length + Hm.length) ≤ pp := (nI_leI (by omega) (by omega)).mp c_53
          refine lv_iload_n hx hb dX5_differs_168 rfl (lv_at hl 2 rfl) ?_
          refine wM hQ ?_
          exact rtI (rk1, rv1, acc.1) hx hb hr hlocks hP hS (⟨hr1, by rw [← h4, difA_end (by omega) (by omega)]⟩) dX5_differs_169
        · replace c_53 : ¬ (P.length + Hm.length) ≤ pp := fun h9 => c_53 ((nI_leI (by omega) (by omega)).mpr h9)
          rcases d_cases (P := P) (C := Hm) i j with ⟨hi, hj⟩ | ⟨hi, hj⟩ | ⟨hi, hj, hlt⟩ | ⟨hi, hj, hlt⟩ | ⟨hi, hj, hlt⟩ | ⟨hi, hj⟩
          · skip
            have hb1 := h1.kb hi
            have hb3 := h1.vb hi
            refine lv_aload_n hx hb dX5_differs_56 rfl (lv_at hl 0 rfl) ?_
            refine va_get (D := X.1) (ci := 5) (v := .ref p) (C := RX5) (T := TX5) (N := 12) hx hb hts hin5 hown hK hP 0 rfl rfl 4 (by decide) lk35 (fun _ h9 => h9) rfl dX5_differs_57 ?_
            refine lv_iload_n hx hb dX5_differs_60 rfl (lv_at hl 3 rfl) ?_
            refine ckVRi (As := [.int (nI i)]) (rest := []) 0 [2, 3] (c_X2_keyAt l X p pk pv P.length w i pkf h1.1 (by omega)) ⟨hx, hb, hml, hown, hts⟩ (cwV 1 hts gX5_differs_X2_keyAt rfl rfl rfl (by decide +kernel) ⟨Nat.le_of_ble_eq_true rfl, Nat.le_of_ble_eq_true rfl⟩) hK hN hP hD (by decide) rfl (ci := 2) rfl rfl rfl hl.1 rfl (Nat.le_of_ble_eq_true rfl) dX5_differs_61 ⟨Nat.zero_le _, Nat.zero_le _⟩ (fun r_4 hc_61 => ?_)
            rw [if_pos hi, h1.k hi] at hc_61
            subst hc_61
            refine lv_aload_n hx hb dX5_differs_64 rfl (lv_at hl 1 rfl) ?_
            refine lv_iload hx hb dX5_differs_65 (lv_at hl 4 rfl) ?_
            refine ckVRi (As := [.int (nI j)]) (rest := [.int (nI (pK P i))]) 0 [5, 6] (c_X2_keyAt l X h hk hv Hm.length wh j hkf h2.1 (by omega)) ⟨hx, hb, hml, hown, hts⟩ (cwV 1 hts gX5_differs_X2_keyAt rfl rfl rfl (by decide +kernel) ⟨Nat.le_of_ble_eq_true rfl, Nat.le_of_ble_eq_true rfl⟩) hK hN hP hD (by decide) rfl (ci := 2) rfl rfl rfl hl.1 rfl (Nat.le_of_ble_eq_true rfl) dX5_differs_67 ⟨Nat.zero_le _, Nat.zero_le _⟩ (fun r_5 hc_67 => ?_)
            rw [if_neg (by omega)] at hc_67
            subst hc_67
            refine va_mmin hx hb (hml.trans hl.1.symm) hown (hts (.methodLink RX5 146 Lib.Math.min.name) (by decide +kernel)) (hts (.static Lib.Math.min.name) (by decide +kernel)) (hts (.initialized "java/lang/Math") (by decide +kernel)) (hts (.code Lib.Math.min.name Lib.Math.min.code 2 (some .int)) (by decide +kernel)) (Nat.le_of_ble_eq_true rfl) (Nat.le_of_ble_eq_true rfl) (Nat.zero_le _) (Nat.zero_le _) dX5_differs_70 ?_
            refine lv_topi (fun x_6 ex_6 => ?_)
            obtain rfl : x_6 = nI (pK P i) := by
              rw [ex_6]
              rw [mmin_nI (by omega) (by omega)]
              first | rfl | (congr 1; omega)
            refine lv_istore (lv' := [(7, .int (nI (pK P i))), (0, .ref a), (1, .ref h), (2, .int (nI acc.2)), (3, .int (nI i)), (4, .int (nI j)), (5, .int (nI (P.length + Hm.length))), (6, .int (nI pp))]) hx hb dX5_differs_73 hl (by decide) rfl (fun ls hl => ?_)
            refine lv_iload hx hb dX5_differs_75 (lv_at hl 0 rfl) ?_
            refine lv_ldc (v := 1073741824) hx hb hown (hts (.constant RX5 151 (1073741824)) (by decide +kernel)) dX5_differs_77 ?_
            refine lv_topi (fun x_7 ex_7 => ?_)
            obtain rfl : x_7 = nI 1073741824 := by
              rw [ex_7]
              rfl
            refine lv_icmp_ne (tgt := 85) hx hb dX5_differs_79 (by decide) (fun c_79 => ?_) (fun c_79 => ?_)
            · replace c_79 : ¬ (pK P i) = 1073741824 := fun h9 => c_79 ((nI_eq (by omega) (by omega)).mpr h9)
              refine lv_iconst (v := (-1)) hx hb dX5_differs_85 (by decide) ?_
              refine lv_istore (lv' := [(8, .int (-1)), (7, .int (nI (pK P i))), (0, .ref a), (1, .ref h), (2, .int (nI acc.2)), (3, .int (nI i)), (4, .int (nI j)), (5, .int (nI (P.length + Hm.length))), (6, .int (nI pp))]) hx hb dX5_differs_86 hl (by decide) rfl (fun ls hl => ?_)
              refine lv_iconst (v := (-1)) hx hb dX5_differs_88 (by decide) ?_
              refine lv_istore (lv' := [(9, .int (-1)), (8, .int (-1)), (7, .int (nI (pK P i))), (0, .ref a), (1, .ref h), (2, .int (nI acc.2)), (3, .int (nI i)), (4, .int (nI j)), (5, .int (nI (P.length + Hm.length))), (6, .int (nI pp))]) hx hb dX5_differs_89 hl (by decide) rfl (fun ls hl => ?_)
              refine lv_aload_n hx hb dX5_differs_91 rfl (lv_at hl 3 rfl) ?_
              refine va_get (D := X.1) (ci := 5) (v := .ref p) (C := RX5) (T := TX5) (N := 12) hx hb hts hin5 hown hK hP 0 rfl rfl 4 (by decide) lk35 (fun _ h9 => h9) rfl dX5_differs_92 ?_
              refine lv_iload_n hx hb dX5_differs_95 rfl (lv_at hl 6 rfl) ?_
              refine ckVRi (As := [.int (nI i)]) (rest := []) 0 [2, 3] (c_X2_keyAt l X p pk pv P.length w i pkf h1.1 (by omega)) ⟨hx, hb, hml, hown, hts⟩ (cwV 1 hts gX5_differs_X2_keyAt rfl rfl rfl (by decide +kernel) ⟨Nat.le_of_ble_eq_true rfl, Nat.le_of_ble_eq_true rfl⟩) hK hN hP hD (by decide) rfl (ci := 2) rfl rfl rfl hl.1 rfl (Nat.le_of_ble_eq_true rfl) dX5_differs_96 ⟨Nat.zero_le _, Nat.zero_le _⟩ (fun r_8 hc_96 => ?_)
              rw [if_pos hi, h1.k hi] at hc_96
              subst hc_96
              refine lv_iload hx hb dX5_differs_99 (lv_at hl 2 rfl) ?_
              refine lv_icmp_ne (tgt := 118) hx hb dX5_differs_101 (by decide) (fun c_101 => ?_) (fun c_101 => ?_)
              · replace c_101 : ¬ (pK P i) = (pK P i) := fun h9 => c_101 ((nI_eq (by omega) (by omega)).mpr h9)
                omega
              · replace c_101 : (pK P i) = (pK P i) := (nI_eq (by omega) (by omega)).mp c_101
                refine lv_aload_n hx hb dX5_differs_104 rfl (lv_at hl 3 rfl) ?_
                refine va_get (D := X.1) (ci := 5) (v := .ref p) (C := RX5) (T := TX5) (N := 12) hx hb hts hin5 hown hK hP 0 rfl rfl 4 (by decide) lk35 (fun _ h9 => h9) rfl dX5_differs_105 ?_
                refine va_get (D := X.1) (ci := 2) (v := .ref pv) (C := RX2) (T := TX2) (N := 4) hx hb hts hin2 hown hK hP 2 rfl rfl 1 (by decide) lk123 (fun _ h9 => h9) rfl dX5_differs_108 ?_
                refine lv_iload_n hx hb dX5_differs_111 rfl (lv_at hl 6 rfl) ?_
                have hi_9 : vp_in (nI i) 512 := vp_in_nI (by omega) (by omega)
                refine va_iald hx hb hK hP 4 0 rfl rfl hi_9 dX5_differs_112 ?_
                refine lv_topi (fun x_10 ex_10 => ?_)
                obtain rfl : x_10 = pvf i := by
                  rw [ex_10]
                  rw [nI_clamp (by omega)]
                refine lv_topi (fun x_11 ex_11 => ?_)
                obtain rfl : x_11 = nI (pV P i) := by
                  rw [ex_11]
                  exact h1.v hi
                refine lv_istore (lv' := [(8, .int (nI (pV P i))), (9, .int (-1)), (7, .int (nI (pK P i))), (0, .ref a), (1, .ref h), (2, .int (nI acc.2)), (3, .int (nI i)), (4, .int (nI j)), (5, .int (nI (P.length + Hm.length))), (6, .int (nI pp))]) hx hb dX5_differs_113 hl (by decide) rfl (fun ls hl => ?_)
                refine lv_iinc (v := nI (i + 1)) (lv' := [(3, .int (nI (i + 1))), (8, .int (nI (pV P i))), (9, .int (-1)), (7, .int (nI (pK P i))), (0, .ref a), (1, .ref h), (2, .int (nI acc.2)), (4, .int (nI j)), (5, .int (nI (P.length + Hm.length))), (6, .int (nI pp))]) hx hb dX5_differs_115 hl (k := 6) rfl (by rw [show Int32.ofInt 1 = nI 1 from by decide]; exact nI_add _ _) (by decide) rfl (fun ls hl => ?_)
                refine lv_aload_n hx hb dX5_differs_118 rfl (lv_at hl 5 rfl) ?_
                refine lv_iload hx hb dX5_differs_119 (lv_at hl 7 rfl) ?_
                refine ckVRi (As := [.int (nI j)]) (rest := []) 0 [5, 6] (c_X2_keyAt l X h hk hv Hm.length wh j hkf h2.1 (by omega)) ⟨hx, hb, hml, hown, hts⟩ (cwV 1 hts gX5_differs_X2_keyAt rfl rfl rfl (by decide +kernel) ⟨Nat.le_of_ble_eq_true rfl, Nat.le_of_ble_eq_true rfl⟩) hK hN hP hD (by decide) rfl (ci := 2) rfl rfl rfl hl.1 rfl (Nat.le_of_ble_eq_true rfl) dX5_differs_121 ⟨Nat.zero_le _, Nat.zero_le _⟩ (fun r_12 hc_121 => ?_)
                rw [if_neg (by omega)] at hc_121
                subst hc_121
                refine lv_iload hx hb dX5_differs_124 (lv_at hl 3 rfl) ?_
                refine lv_icmp_ne (tgt := 141) hx hb dX5_differs_126 (by decide) (fun c_126 => ?_) (fun c_126 => ?_)
                · replace c_126 : ¬ 1073741824 = (pK P i) := fun h9 => c_126 ((nI_eq (by omega) (by omega)).mpr h9)
                  refine lv_iload hx hb dX5_differs_141 (lv_at hl 1 rfl) ?_
                  refine lv_iload hx hb dX5_differs_143 (lv_at hl 2 rfl) ?_
                  refine lv_icmp_eq (tgt := 162) hx hb dX5_differs_145 (by decide) (fun c_145 => ?_) (fun c_145 => ?_)
                  · skip
                    exact absurd c_145 (nI_m1 (by omega))
                  · skip
                    refine lv_aload_n hx hb dX5_differs_148 rfl (lv_at hl 4 rfl) ?_
                    refine va_get (D := X.1) (ci := 5) (v := .ref rs) (C := RX5) (T := TX5) (N := 12) hx hb hts hin5 hown hK hP 0 rfl rfl 8 (by decide) lk61 (fun _ h9 => h9) rfl dX5_differs_149 ?_
                    refine lv_iload hx hb dX5_differs_152 (lv_at hl 3 rfl) ?_
                    refine lv_iload hx hb dX5_differs_154 (lv_at hl 1 rfl) ?_
                    refine ckVv (As := [.int (nI (pK P i)), .int (nI (pV P i))]) (rest := []) 0 [8, 9, 10] (c_X3_add l X rs rk_ rv rd (pK P i) (nI (pV P i)) rk1 rv1 acc.1 hr1 (by omega)) ⟨hx, hb, hml, hown, hts⟩ (cwV 2 hts gX5_differs_X3_add rfl rfl rfl (by decide +kernel) ⟨Nat.le_of_ble_eq_true rfl, Nat.le_of_ble_eq_true rfl⟩) hK hN hP hD hS (by decide) rfl (ci := 3) rfl rfl (fun _ => rfl) rfl hl.1 rfl (Nat.le_of_ble_eq_true rfl) dX5_differs_156 ⟨Nat.zero_le _, Nat.zero_le _⟩ (fun u_13 H locs hra hP hD hS => ?_)
                    obtain ⟨rk2, rv2⟩ := u_13
                    have hP : va_P X.1 vwCl [(a, .inr (5, [.int (nI bl), .int (nI bk), .int (nI sp), .ref d, .ref p, .ref t, .ref t2, .ref ch, .ref rs, .int (nI 1), .int f_ct, .int (nI cp)])), (d, .inr (1, [.ref h, .ref lk, .ref lv, .int (nI se)])), (p, .inr (2, [.ref pk, .ref pv, .int (nI P.length), .int (nI w)])), (pk, .inl (X.2.1, 512, .inl pkf)), (pv, .inl (X.2.1, 512, .inl pvf)), (h, .inr (2, [.ref hk, .ref hv, .int (nI Hm.length), .int (nI wh)])), (hk, .inl (X.2.1, 512, .inl hkf)), (hv, .inl (X.2.1, 512, .inl hvf)), (rs, .inr (3, [.ref rk_, .ref rv, .ref rd, .int (nI ((rsAdd acc.1 (pK P i) (nI (pV P i))).length))])), (rk_, .inl (X.2.1, 150, .inl rk2)), (rv, .inl (X.2.1, 150, .inl rv2))] H := hP
                    have hD : va_D A_ [(a, .inr (5, [.int (nI bl), .int (nI bk), .int (nI sp), .ref d, .ref p, .ref t, .ref t2, .ref ch, .ref rs, .int (nI 1), .int f_ct, .int (nI cp)])), (d, .inr (1, [.ref h, .ref lk, .ref lv, .int (nI se)])), (p, .inr (2, [.ref pk, .ref pv, .int (nI P.length), .int (nI w)])), (pk, .inl (X.2.1, 512, .inl pkf)), (pv, .inl (X.2.1, 512, .inl pvf)), (h, .inr (2, [.ref hk, .ref hv, .int (nI Hm.length), .int (nI wh)])), (hk, .inl (X.2.1, 512, .inl hkf)), (hv, .inl (X.2.1, 512, .inl hvf)), (rs, .inr (3, [.ref rk_, .ref rv, .ref rd, .int (nI ((rsAdd acc.1 (pK P i) (nI (pV P i))).length))])), (rk_, .inl (X.2.1, 150, .inl rk2)), (rv, .inl (X.2.1, 150, .inl rv2))] := hD
                    try dsimp only at hra
                    refine lv_iinc (v := nI (acc.2 + 1)) (lv' := [(2, .int (nI (acc.2 + 1))), (3, .int (nI (i + 1))), (8, .int (nI (pV P i))), (9, .int (-1)), (7, .int (nI (pK P i))), (0, .ref a), (1, .ref h), (4, .int (nI j)), (5, .int (nI (P.length + Hm.length))), (6, .int (nI pp))]) hx hb dX5_differs_159 hl (k := 6) rfl (by rw [show Int32.ofInt 1 = nI 1 from by decide]; exact nI_add _ _) (by decide) rfl (fun ls hl => ?_)
                    refine lv_iinc (v := nI (pp + 1)) (lv' := [(6, .int (nI (pp + 1))), (2, .int (nI (acc.2 + 1))), (3, .int (nI (i + 1))), (8, .int (nI (pV P i))), (9, .int (-1)), (7, .int (nI (pK P i))), (0, .ref a), (1, .ref h), (4, .int (nI j)), (5, .int (nI (P.length + Hm.length)))]) hx hb dX5_differs_162 hl (k := 9) rfl (by rw [show Int32.ofInt 1 = nI 1 from by decide]; exact nI_add _ _) (by decide) rfl (fun ls hl => ?_)
                    refine lv_goto (tgt := 49) hx hb dX5_differs_165 (by decide) ?_
                    exact ih49 (i + 1) j (pp + 1) (dAdd acc (pK P i) (nI (pV P i))) rk2 rv2 (by omega) (by omega) (by omega) (by rw [← h4, difA_p hi (List.drop_eq_nil_of_le hj)]) (by exact hra) (by omega) _ _ hP hD hS ls (lv_sub hl [6, 7, 1, 2, 8, 9, 0] rfl)
                · replace c_126 : 1073741824 = (pK P i) := (nI_eq (by omega) (by omega)).mp c_126
                  omega
            · replace c_79 : (pK P i) = 1073741824 := (nI_eq (by omega) (by omega)).mp c_79
              omega
          · skip
            have hb2 := h2.kb hj
            have hb4 := h2.vb hj
            refine lv_aload_n hx hb dX5_differs_56 rfl (lv_at hl 0 rfl) ?_
            refine va_get (D := X.1) (ci := 5) (v := .ref p) (C := RX5) (T := TX5) (N := 12) hx hb hts hin5 hown hK hP 0 rfl rfl 4 (by decide) lk35 (fun _ h9 => h9) rfl dX5_differs_57 ?_
            refine lv_iload_n hx hb dX5_differs_60 rfl (lv_at hl 3 rfl) ?_
            refine ckVRi (As := [.int (nI i)]) (rest := []) 0 [2, 3] (c_X2_keyAt l X p pk pv P.length w i pkf h1.1 (by omega)) ⟨hx, hb, hml, hown, hts⟩ (cwV 1 hts gX5_differs_X2_keyAt rfl rfl rfl (by decide +kernel) ⟨Nat.le_of_ble_eq_true rfl, Nat.le_of_ble_eq_true rfl⟩) hK hN hP hD (by decide) rfl (ci := 2) rfl rfl rfl hl.1 rfl (Nat.le_of_ble_eq_true rfl) dX5_differs_61 ⟨Nat.zero_le _, Nat.zero_le _⟩ (fun r_15 hc_61 => ?_)
            rw [if_neg (by omega)] at hc_61
            subst hc_61
            refine lv_aload_n hx hb dX5_differs_64 rfl (lv_at hl 1 rfl) ?_
            refine lv_iload hx hb dX5_differs_65 (lv_at hl 4 rfl) ?_
            refine ckVRi (As := [.int (nI j)]) (rest := [.int (nI 1073741824)]) 0 [5, 6] (c_X2_keyAt l X h hk hv Hm.length wh j hkf h2.1 (by omega)) ⟨hx, hb, hml, hown, hts⟩ (cwV 1 hts gX5_differs_X2_keyAt rfl rfl rfl (by decide +kernel) ⟨Nat.le_of_ble_eq_true rfl, Nat.le_of_ble_eq_true rfl⟩) hK hN hP hD (by decide) rfl (ci := 2) rfl rfl rfl hl.1 rfl (Nat.le_of_ble_eq_true rfl) dX5_differs_67 ⟨Nat.zero_le _, Nat.zero_le _⟩ (fun r_16 hc_67 => ?_)
            rw [if_pos hj, h2.k hj] at hc_67
            subst hc_67
            refine va_mmin hx hb (hml.trans hl.1.symm) hown (hts (.methodLink RX5 146 Lib.Math.min.name) (by decide +kernel)) (hts (.static Lib.Math.min.name) (by decide +kernel)) (hts (.initialized "java/lang/Math") (by decide +kernel)) (hts (.code Lib.Math.min.name Lib.Math.min.code 2 (some .int)) (by decide +kernel)) (Nat.le_of_ble_eq_true rfl) (Nat.le_of_ble_eq_true rfl) (Nat.zero_le _) (Nat.zero_le _) dX5_differs_70 ?_
            refine lv_topi (fun x_17 ex_17 => ?_)
            obtain rfl : x_17 = nI (pK Hm j) := by
              rw [ex_17]
              rw [mmin_nI (by omega) (by omega)]
              first | rfl | (congr 1; omega)
            refine lv_istore (lv' := [(7, .int (nI (pK Hm j))), (0, .ref a), (1, .ref h), (2, .int (nI acc.2)), (3, .int (nI i)), (4, .int (nI j)), (5, .int (nI (P.length + Hm.length))), (6, .int (nI pp))]) hx hb dX5_differs_73 hl (by decide) rfl (fun ls hl => ?_)
            refine lv_iload hx hb dX5_differs_75 (lv_at hl 0 rfl) ?_
            refine lv_ldc (v := 1073741824) hx hb hown (hts (.constant RX5 151 (1073741824)) (by decide +kernel)) dX5_differs_77 ?_
            refine lv_topi (fun x_18 ex_18 => ?_)
            obtain rfl : x_18 = nI 1073741824 := by
              rw [ex_18]
              rfl
            refine lv_icmp_ne (tgt := 85) hx hb dX5_differs_79 (by decide) (fun c_79 => ?_) (fun c_79 => ?_)
            · replace c_79 : ¬ (pK Hm j) = 1073741824 := fun h9 => c_79 ((nI_eq (by omega) (by omega)).mpr h9)
              refine lv_iconst (v := (-1)) hx hb dX5_differs_85 (by decide) ?_
              refine lv_istore (lv' := [(8, .int (-1)), (7, .int (nI (pK Hm j))), (0, .ref a), (1, .ref h), (2, .int (nI acc.2)), (3, .int (nI i)), (4, .int (nI j)), (5, .int (nI (P.length + Hm.length))), (6, .int (nI pp))]) hx hb dX5_differs_86 hl (by decide) rfl (fun ls hl => ?_)
              refine lv_iconst (v := (-1)) hx hb dX5_differs_88 (by decide) ?_
              refine lv_istore (lv' := [(9, .int (-1)), (8, .int (-1)), (7, .int (nI (pK Hm j))), (0, .ref a), (1, .ref h), (2, .int (nI acc.2)), (3, .int (nI i)), (4, .int (nI j)), (5, .int (nI (P.length + Hm.length))), (6, .int (nI pp))]) hx hb dX5_differs_89 hl (by decide) rfl (fun ls hl => ?_)
              refine lv_aload_n hx hb dX5_differs_91 rfl (lv_at hl 3 rfl) ?_
              refine va_get (D := X.1) (ci := 5) (v := .ref p) (C := RX5) (T := TX5) (N := 12) hx hb hts hin5 hown hK hP 0 rfl rfl 4 (by decide) lk35 (fun _ h9 => h9) rfl dX5_differs_92 ?_
              refine lv_iload_n hx hb dX5_differs_95 rfl (lv_at hl 6 rfl) ?_
              refine ckVRi (As := [.int (nI i)]) (rest := []) 0 [2, 3] (c_X2_keyAt l X p pk pv P.length w i pkf h1.1 (by omega)) ⟨hx, hb, hml, hown, hts⟩ (cwV 1 hts gX5_differs_X2_keyAt rfl rfl rfl (by decide +kernel) ⟨Nat.le_of_ble_eq_true rfl, Nat.le_of_ble_eq_true rfl⟩) hK hN hP hD (by decide) rfl (ci := 2) rfl rfl rfl hl.1 rfl (Nat.le_of_ble_eq_true rfl) dX5_differs_96 ⟨Nat.zero_le _, Nat.zero_le _⟩ (fun r_19 hc_96 => ?_)
              rw [if_neg (by omega)] at hc_96
              subst hc_96
              refine lv_iload hx hb dX5_differs_99 (lv_at hl 2 rfl) ?_
              refine lv_icmp_ne (tgt := 118) hx hb dX5_differs_101 (by decide) (fun c_101 => ?_) (fun c_101 => ?_)
              · replace c_101 : ¬ 1073741824 = (pK Hm j) := fun h9 => c_101 ((nI_eq (by omega) (by omega)).mpr h9)
                refine lv_aload_n hx hb dX5_differs_118 rfl (lv_at hl 4 rfl) ?_
                refine lv_iload hx hb dX5_differs_119 (lv_at hl 7 rfl) ?_
                refine ckVRi (As := [.int (nI j)]) (rest := []) 0 [5, 6] (c_X2_keyAt l X h hk hv Hm.length wh j hkf h2.1 (by omega)) ⟨hx, hb, hml, hown, hts⟩ (cwV 1 hts gX5_differs_X2_keyAt rfl rfl rfl (by decide +kernel) ⟨Nat.le_of_ble_eq_true rfl, Nat.le_of_ble_eq_true rfl⟩) hK hN hP hD (by decide) rfl (ci := 2) rfl rfl rfl hl.1 rfl (Nat.le_of_ble_eq_true rfl) dX5_differs_121 ⟨Nat.zero_le _, Nat.zero_le _⟩ (fun r_20 hc_121 => ?_)
                rw [if_pos hj, h2.k hj] at hc_121
                subst hc_121
                refine lv_iload hx hb dX5_differs_124 (lv_at hl 2 rfl) ?_
                refine lv_icmp_ne (tgt := 141) hx hb dX5_differs_126 (by decide) (fun c_126 => ?_) (fun c_126 => ?_)
                · replace c_126 : ¬ (pK Hm j) = (pK Hm j) := fun h9 => c_126 ((nI_eq (by omega) (by omega)).mpr h9)
                  omega
                · replace c_126 : (pK Hm j) = (pK Hm j) := (nI_eq (by omega) (by omega)).mp c_126
                  refine lv_aload_n hx hb dX5_differs_129 rfl (lv_at hl 4 rfl) ?_
                  refine va_get (D := X.1) (ci := 2) (v := .ref hv) (C := RX2) (T := TX2) (N := 4) hx hb hts hin2 hown hK hP 5 rfl rfl 1 (by decide) lk123 (fun _ h9 => h9) rfl dX5_differs_130 ?_
                  refine lv_iload hx hb dX5_differs_133 (lv_at hl 7 rfl) ?_
                  have hi_21 : vp_in (nI j) 512 := vp_in_nI (by omega) (by omega)
                  refine va_iald hx hb hK hP 7 0 rfl rfl hi_21 dX5_differs_135 ?_
                  refine lv_topi (fun x_22 ex_22 => ?_)
                  obtain rfl : x_22 = hvf j := by
                    rw [ex_22]
                    rw [nI_clamp (by omega)]
                  refine lv_topi (fun x_23 ex_23 => ?_)
                  obtain rfl : x_23 = nI (pV Hm j) := by
                    rw [ex_23]
                    exact h2.v hj
                  refine lv_istore (lv' := [(9, .int (nI (pV Hm j))), (8, .int (-1)), (7, .int (nI (pK Hm j))), (0, .ref a), (1, .ref h), (2, .int (nI acc.2)), (3, .int (nI i)), (4, .int (nI j)), (5, .int (nI (P.length + Hm.length))), (6, .int (nI pp))]) hx hb dX5_differs_136 hl (by decide) rfl (fun ls hl => ?_)
                  refine lv_iinc (v := nI (j + 1)) (lv' := [(4, .int (nI (j + 1))), (9, .int (nI (pV Hm j))), (8, .int (-1)), (7, .int (nI (pK Hm j))), (0, .ref a), (1, .ref h), (2, .int (nI acc.2)), (3, .int (nI i)), (5, .int (nI (P.length + Hm.length))), (6, .int (nI pp))]) hx hb dX5_differs_138 hl (k := 7) rfl (by rw [show Int32.ofInt 1 = nI 1 from by decide]; exact nI_add _ _) (by decide) rfl (fun ls hl => ?_)
                  refine lv_iload hx hb dX5_differs_141 (lv_at hl 2 rfl) ?_
                  refine lv_iload hx hb dX5_differs_143 (lv_at hl 1 rfl) ?_
                  refine lv_icmp_eq (tgt := 162) hx hb dX5_differs_145 (by decide) (fun c_145 => ?_) (fun c_145 => ?_)
                  · skip
                    exact absurd c_145.symm (nI_m1 (by omega))
                  · skip
                    refine lv_aload_n hx hb dX5_differs_148 rfl (lv_at hl 4 rfl) ?_
                    refine va_get (D := X.1) (ci := 5) (v := .ref rs) (C := RX5) (T := TX5) (N := 12) hx hb hts hin5 hown hK hP 0 rfl rfl 8 (by decide) lk61 (fun _ h9 => h9) rfl dX5_differs_149 ?_
                    refine lv_iload hx hb dX5_differs_152 (lv_at hl 3 rfl) ?_
                    refine lv_iload hx hb dX5_differs_154 (lv_at hl 2 rfl) ?_
                    refine ckVv (As := [.int (nI (pK Hm j)), .int (-1)]) (rest := []) 0 [8, 9, 10] (c_X3_add l X rs rk_ rv rd (pK Hm j) (-1) rk1 rv1 acc.1 hr1 (by omega)) ⟨hx, hb, hml, hown, hts⟩ (cwV 2 hts gX5_differs_X3_add rfl rfl rfl (by decide +kernel) ⟨Nat.le_of_ble_eq_true rfl, Nat.le_of_ble_eq_true rfl⟩) hK hN hP hD hS (by decide) rfl (ci := 3) rfl rfl (fun _ => rfl) rfl hl.1 rfl (Nat.le_of_ble_eq_true rfl) dX5_differs_156 ⟨Nat.zero_le _, Nat.zero_le _⟩ (fun u_24 H locs hra hP hD hS => ?_)
                    obtain ⟨rk2, rv2⟩ := u_24
                    have hP : va_P X.1 vwCl [(a, .inr (5, [.int (nI bl), .int (nI bk), .int (nI sp), .ref d, .ref p, .ref t, .ref t2, .ref ch, .ref rs, .int (nI 1), .int f_ct, .int (nI cp)])), (d, .inr (1, [.ref h, .ref lk, .ref lv, .int (nI se)])), (p, .inr (2, [.ref pk, .ref pv, .int (nI P.length), .int (nI w)])), (pk, .inl (X.2.1, 512, .inl pkf)), (pv, .inl (X.2.1, 512, .inl pvf)), (h, .inr (2, [.ref hk, .ref hv, .int (nI Hm.length), .int (nI wh)])), (hk, .inl (X.2.1, 512, .inl hkf)), (hv, .inl (X.2.1, 512, .inl hvf)), (rs, .inr (3, [.ref rk_, .ref rv, .ref rd, .int (nI ((rsAdd acc.1 (pK Hm j) (-1)).length))])), (rk_, .inl (X.2.1, 150, .inl rk2)), (rv, .inl (X.2.1, 150, .inl rv2))] H := hP
                    have hD : va_D A_ [(a, .inr (5, [.int (nI bl), .int (nI bk), .int (nI sp), .ref d, .ref p, .ref t, .ref t2, .ref ch, .ref rs, .int (nI 1), .int f_ct, .int (nI cp)])), (d, .inr (1, [.ref h, .ref lk, .ref lv, .int (nI se)])), (p, .inr (2, [.ref pk, .ref pv, .int (nI P.length), .int (nI w)])), (pk, .inl (X.2.1, 512, .inl pkf)), (pv, .inl (X.2.1, 512, .inl pvf)), (h, .inr (2, [.ref hk, .ref hv, .int (nI Hm.length), .int (nI wh)])), (hk, .inl (X.2.1, 512, .inl hkf)), (hv, .inl (X.2.1, 512, .inl hvf)), (rs, .inr (3, [.ref rk_, .ref rv, .ref rd, .int (nI ((rsAdd acc.1 (pK Hm j) (-1)).length))])), (rk_, .inl (X.2.1, 150, .inl rk2)), (rv, .inl (X.2.1, 150, .inl rv2))] := hD
                    try dsimp only at hra
                    refine lv_iinc (v := nI (acc.2 + 1)) (lv' := [(2, .int (nI (acc.2 + 1))), (4, .int (nI (j + 1))), (9, .int (nI (pV Hm j))), (8, .int (-1)), (7, .int (nI (pK Hm j))), (0, .ref a), (1, .ref h), (3, .int (nI i)), (5, .int (nI (P.length + Hm.length))), (6, .int (nI pp))]) hx hb dX5_differs_159 hl (k := 6) rfl (by rw [show Int32.ofInt 1 = nI 1 from by decide]; exact nI_add _ _) (by decide) rfl (fun ls hl => ?_)
                    refine lv_iinc (v := nI (pp + 1)) (lv' := [(6, .int (nI (pp + 1))), (2, .int (nI (acc.2 + 1))), (4, .int (nI (j + 1))), (9, .int (nI (pV Hm j))), (8, .int (-1)), (7, .int (nI (pK Hm j))), (0, .ref a), (1, .ref h), (3, .int (nI i)), (5, .int (nI (P.length + Hm.length)))]) hx hb dX5_differs_162 hl (k := 9) rfl (by rw [show Int32.ofInt 1 = nI 1 from by decide]; exact nI_add _ _) (by decide) rfl (fun ls hl => ?_)
                    refine lv_goto (tgt := 49) hx hb dX5_differs_165 (by decide) ?_
                    exact ih49 i (j + 1) (pp + 1) (dAdd acc (pK Hm j) (-1)) rk2 rv2 (by omega) (by omega) (by omega) (by rw [← h4, difA_c hj (List.drop_eq_nil_of_le hi)]) (by exact hra) (by omega) _ _ hP hD hS ls (lv_sub hl [6, 7, 1, 8, 2, 9, 0] rfl)
              · replace c_101 : 1073741824 = (pK Hm j) := (nI_eq (by omega) (by omega)).mp c_101
                omega
            · replace c_79 : (pK Hm j) = 1073741824 := (nI_eq (by omega) (by omega)).mp c_79
              omega
          · skip
            have hb1 := h1.kb hi
            have hb2 := h2.kb hj
            have hb3 := h1.vb hi
            have hb4 := h2.vb hj
            refine lv_aload_n hx hb dX5_differs_56 rfl (lv_at hl 0 rfl) ?_
            refine va_get (D := X.1) (ci := 5) (v := .ref p) (C := RX5) (T := TX5) (N := 12) hx hb hts hin5 hown hK hP 0 rfl rfl 4 (by decide) lk35 (fun _ h9 => h9) rfl dX5_differs_57 ?_
            refine lv_iload_n hx hb dX5_differs_60 rfl (lv_at hl 3 rfl) ?_
            refine ckVRi (As := [.int (nI i)]) (rest := []) 0 [2, 3] (c_X2_keyAt l X p pk pv P.length w i pkf h1.1 (by omega)) ⟨hx, hb, hml, hown, hts⟩ (cwV 1 hts gX5_differs_X2_keyAt rfl rfl rfl (by decide +kernel) ⟨Nat.le_of_ble_eq_true rfl, Nat.le_of_ble_eq_true rfl⟩) hK hN hP hD (by decide) rfl (ci := 2) rfl rfl rfl hl.1 rfl (Nat.le_of_ble_eq_true rfl) dX5_differs_61 ⟨Nat.zero_le _, Nat.zero_le _⟩ (fun r_26 hc_61 => ?_)
            rw [if_pos hi, h1.k hi] at hc_61
            subst hc_61
            refine lv_aload_n hx hb dX5_differs_64 rfl (lv_at hl 1 rfl) ?_
            refine lv_iload hx hb dX5_differs_65 (lv_at hl 4 rfl) ?_
            refine ckVRi (As := [.int (nI j)]) (rest := [.int (nI (pK P i))]) 0 [5, 6] (c_X2_keyAt l X h hk hv Hm.length wh j hkf h2.1 (by omega)) ⟨hx, hb, hml, hown, hts⟩ (cwV 1 hts gX5_differs_X2_keyAt rfl rfl rfl (by decide +kernel) ⟨Nat.le_of_ble_eq_true rfl, Nat.le_of_ble_eq_true rfl⟩) hK hN hP hD (by decide) rfl (ci := 2) rfl rfl rfl hl.1 rfl (Nat.le_of_ble_eq_true rfl) dX5_differs_67 ⟨Nat.zero_le _, Nat.zero_le _⟩ (fun r_27 hc_67 => ?_)
            rw [if_pos hj, h2.k hj] at hc_67
            subst hc_67
            refine va_mmin hx hb (hml.trans hl.1.symm) hown (hts (.methodLink RX5 146 Lib.Math.min.name) (by decide +kernel)) (hts (.static Lib.Math.min.name) (by decide +kernel)) (hts (.initialized "java/lang/Math") (by decide +kernel)) (hts (.code Lib.Math.min.name Lib.Math.min.code 2 (some .int)) (by decide +kernel)) (Nat.le_of_ble_eq_true rfl) (Nat.le_of_ble_eq_true rfl) (Nat.zero_le _) (Nat.zero_le _) dX5_differs_70 ?_
            refine lv_topi (fun x_28 ex_28 => ?_)
            obtain rfl : x_28 = nI (pK P i) := by
              rw [ex_28]
              rw [mmin_nI (by omega) (by omega)]
              first | rfl | (congr 1; omega)
            refine lv_istore (lv' := [(7, .int (nI (pK P i))), (0, .ref a), (1, .ref h), (2, .int (nI acc.2)), (3, .int (nI i)), (4, .int (nI j)), (5, .int (nI (P.length + Hm.length))), (6, .int (nI pp))]) hx hb dX5_differs_73 hl (by decide) rfl (fun ls hl => ?_)
            refine lv_iload hx hb dX5_differs_75 (lv_at hl 0 rfl) ?_
            refine lv_ldc (v := 1073741824) hx hb hown (hts (.constant RX5 151 (1073741824)) (by decide +kernel)) dX5_differs_77 ?_
            refine lv_topi (fun x_29 ex_29 => ?_)
            obtain rfl : x_29 = nI 1073741824 := by
              rw [ex_29]
              rfl
            refine lv_icmp_ne (tgt := 85) hx hb dX5_differs_79 (by decide) (fun c_79 => ?_) (fun c_79 => ?_)
            · replace c_79 : ¬ (pK P i) = 1073741824 := fun h9 => c_79 ((nI_eq (by omega) (by omega)).mpr h9)
              refine lv_iconst (v := (-1)) hx hb dX5_differs_85 (by decide) ?_
              refine lv_istore (lv' := [(8, .int (-1)), (7, .int (nI (pK P i))), (0, .ref a), (1, .ref h), (2, .int (nI acc.2)), (3, .int (nI i)), (4, .int (nI j)), (5, .int (nI (P.length + Hm.length))), (6, .int (nI pp))]) hx hb dX5_differs_86 hl (by decide) rfl (fun ls hl => ?_)
              refine lv_iconst (v := (-1)) hx hb dX5_differs_88 (by decide) ?_
              refine lv_istore (lv' := [(9, .int (-1)), (8, .int (-1)), (7, .int (nI (pK P i))), (0, .ref a), (1, .ref h), (2, .int (nI acc.2)), (3, .int (nI i)), (4, .int (nI j)), (5, .int (nI (P.length + Hm.length))), (6, .int (nI pp))]) hx hb dX5_differs_89 hl (by decide) rfl (fun ls hl => ?_)
              refine lv_aload_n hx hb dX5_differs_91 rfl (lv_at hl 3 rfl) ?_
              refine va_get (D := X.1) (ci := 5) (v := .ref p) (C := RX5) (T := TX5) (N := 12) hx hb hts hin5 hown hK hP 0 rfl rfl 4 (by decide) lk35 (fun _ h9 => h9) rfl dX5_differs_92 ?_
              refine lv_iload_n hx hb dX5_differs_95 rfl (lv_at hl 6 rfl) ?_
              refine ckVRi (As := [.int (nI i)]) (rest := []) 0 [2, 3] (c_X2_keyAt l X p pk pv P.length w i pkf h1.1 (by omega)) ⟨hx, hb, hml, hown, hts⟩ (cwV 1 hts gX5_differs_X2_keyAt rfl rfl rfl (by decide +kernel) ⟨Nat.le_of_ble_eq_true rfl, Nat.le_of_ble_eq_true rfl⟩) hK hN hP hD (by decide) rfl (ci := 2) rfl rfl rfl hl.1 rfl (Nat.le_of_ble_eq_true rfl) dX5_differs_96 ⟨Nat.zero_le _, Nat.zero_le _⟩ (fun r_30 hc_96 => ?_)
              rw [if_pos hi, h1.k hi] at hc_96
              subst hc_96
              refine lv_iload hx hb dX5_differs_99 (lv_at hl 2 rfl) ?_
              refine lv_icmp_ne (tgt := 118) hx hb dX5_differs_101 (by decide) (fun c_101 => ?_) (fun c_101 => ?_)
              · replace c_101 : ¬ (pK P i) = (pK P i) := fun h9 => c_101 ((nI_eq (by omega) (by omega)).mpr h9)
                omega
              · replace c_101 : (pK P i) = (pK P i) := (nI_eq (by omega) (by omega)).mp c_101
                refine lv_aload_n hx hb dX5_differs_104 rfl (lv_at hl 3 rfl) ?_
                refine va_get (D := X.1) (ci := 5) (v := .ref p) (C := RX5) (T := TX5) (N := 12) hx hb hts hin5 hown hK hP 0 rfl rfl 4 (by decide) lk35 (fun _ h9 => h9) rfl dX5_differs_105 ?_
                refine va_get (D := X.1) (ci := 2) (v := .ref pv) (C := RX2) (T := TX2) (N := 4) hx hb hts hin2 hown hK hP 2 rfl rfl 1 (by decide) lk123 (fun _ h9 => h9) rfl dX5_differs_108 ?_
                refine lv_iload_n hx hb dX5_differs_111 rfl (lv_at hl 6 rfl) ?_
                have hi_31 : vp_in (nI i) 512 := vp_in_nI (by omega) (by omega)
                refine va_iald hx hb hK hP 4 0 rfl rfl hi_31 dX5_differs_112 ?_
                refine lv_topi (fun x_32 ex_32 => ?_)
                obtain rfl : x_32 = pvf i := by
                  rw [ex_32]
                  rw [nI_clamp (by omega)]
                refine lv_topi (fun x_33 ex_33 => ?_)
                obtain rfl : x_33 = nI (pV P i) := by
                  rw [ex_33]
                  exact h1.v hi
                refine lv_istore (lv' := [(8, .int (nI (pV P i))), (9, .int (-1)), (7, .int (nI (pK P i))), (0, .ref a), (1, .ref h), (2, .int (nI acc.2)), (3, .int (nI i)), (4, .int (nI j)), (5, .int (nI (P.length + Hm.length))), (6, .int (nI pp))]) hx hb dX5_differs_113 hl (by decide) rfl (fun ls hl => ?_)
                refine lv_iinc (v := nI (i + 1)) (lv' := [(3, .int (nI (i + 1))), (8, .int (nI (pV P i))), (9, .int (-1)), (7, .int (nI (pK P i))), (0, .ref a), (1, .ref h), (2, .int (nI acc.2)), (4, .int (nI j)), (5, .int (nI (P.length + Hm.length))), (6, .int (nI pp))]) hx hb dX5_differs_115 hl (k := 6) rfl (by rw [show Int32.ofInt 1 = nI 1 from by decide]; exact nI_add _ _) (by decide) rfl (fun ls hl => ?_)
                refine lv_aload_n hx hb dX5_differs_118 rfl (lv_at hl 5 rfl) ?_
                refine lv_iload hx hb dX5_differs_119 (lv_at hl 7 rfl) ?_
                refine ckVRi (As := [.int (nI j)]) (rest := []) 0 [5, 6] (c_X2_keyAt l X h hk hv Hm.length wh j hkf h2.1 (by omega)) ⟨hx, hb, hml, hown, hts⟩ (cwV 1 hts gX5_differs_X2_keyAt rfl rfl rfl (by decide +kernel) ⟨Nat.le_of_ble_eq_true rfl, Nat.le_of_ble_eq_true rfl⟩) hK hN hP hD (by decide) rfl (ci := 2) rfl rfl rfl hl.1 rfl (Nat.le_of_ble_eq_true rfl) dX5_differs_121 ⟨Nat.zero_le _, Nat.zero_le _⟩ (fun r_34 hc_121 => ?_)
                rw [if_pos hj, h2.k hj] at hc_121
                subst hc_121
                refine lv_iload hx hb dX5_differs_124 (lv_at hl 3 rfl) ?_
                refine lv_icmp_ne (tgt := 141) hx hb dX5_differs_126 (by decide) (fun c_126 => ?_) (fun c_126 => ?_)
                · replace c_126 : ¬ (pK Hm j) = (pK P i) := fun h9 => c_126 ((nI_eq (by omega) (by omega)).mpr h9)
                  refine lv_iload hx hb dX5_differs_141 (lv_at hl 1 rfl) ?_
                  refine lv_iload hx hb dX5_differs_143 (lv_at hl 2 rfl) ?_
                  refine lv_icmp_eq (tgt := 162) hx hb dX5_differs_145 (by decide) (fun c_145 => ?_) (fun c_145 => ?_)
                  · skip
                    exact absurd c_145 (nI_m1 (by omega))
                  · skip
                    refine lv_aload_n hx hb dX5_differs_148 rfl (lv_at hl 4 rfl) ?_
                    refine va_get (D := X.1) (ci := 5) (v := .ref rs) (C := RX5) (T := TX5) (N := 12) hx hb hts hin5 hown hK hP 0 rfl rfl 8 (by decide) lk61 (fun _ h9 => h9) rfl dX5_differs_149 ?_
                    refine lv_iload hx hb dX5_differs_152 (lv_at hl 3 rfl) ?_
                    refine lv_iload hx hb dX5_differs_154 (lv_at hl 1 rfl) ?_
                    refine ckVv (As := [.int (nI (pK P i)), .int (nI (pV P i))]) (rest := []) 0 [8, 9, 10] (c_X3_add l X rs rk_ rv rd (pK P i) (nI (pV P i)) rk1 rv1 acc.1 hr1 (by omega)) ⟨hx, hb, hml, hown, hts⟩ (cwV 2 hts gX5_differs_X3_add rfl rfl rfl (by decide +kernel) ⟨Nat.le_of_ble_eq_true rfl, Nat.le_of_ble_eq_true rfl⟩) hK hN hP hD hS (by decide) rfl (ci := 3) rfl rfl (fun _ => rfl) rfl hl.1 rfl (Nat.le_of_ble_eq_true rfl) dX5_differs_156 ⟨Nat.zero_le _, Nat.zero_le _⟩ (fun u_35 H locs hra hP hD hS => ?_)
                    obtain ⟨rk2, rv2⟩ := u_35
                    have hP : va_P X.1 vwCl [(a, .inr (5, [.int (nI bl), .int (nI bk), .int (nI sp), .ref d, .ref p, .ref t, .ref t2, .ref ch, .ref rs, .int (nI 1), .int f_ct, .int (nI cp)])), (d, .inr (1, [.ref h, .ref lk, .ref lv, .int (nI se)])), (p, .inr (2, [.ref pk, .ref pv, .int (nI P.length), .int (nI w)])), (pk, .inl (X.2.1, 512, .inl pkf)), (pv, .inl (X.2.1, 512, .inl pvf)), (h, .inr (2, [.ref hk, .ref hv, .int (nI Hm.length), .int (nI wh)])), (hk, .inl (X.2.1, 512, .inl hkf)), (hv, .inl (X.2.1, 512, .inl hvf)), (rs, .inr (3, [.ref rk_, .ref rv, .ref rd, .int (nI ((rsAdd acc.1 (pK P i) (nI (pV P i))).length))])), (rk_, .inl (X.2.1, 150, .inl rk2)), (rv, .inl (X.2.1, 150, .inl rv2))] H := hP
                    have hD : va_D A_ [(a, .inr (5, [.int (nI bl), .int (nI bk), .int (nI sp), .ref d, .ref p, .ref t, .ref t2, .ref ch, .ref rs, .int (nI 1), .int f_ct, .int (nI cp)])), (d, .inr (1, [.ref h, .ref lk, .ref lv, .int (nI se)])), (p, .inr (2, [.ref pk, .ref pv, .int (nI P.length), .int (nI w)])), (pk, .inl (X.2.1, 512, .inl pkf)), (pv, .inl (X.2.1, 512, .inl pvf)), (h, .inr (2, [.ref hk, .ref hv, .int (nI Hm.length), .int (nI wh)])), (hk, .inl (X.2.1, 512, .inl hkf)), (hv, .inl (X.2.1, 512, .inl hvf)), (rs, .inr (3, [.ref rk_, .ref rv, .ref rd, .int (nI ((rsAdd acc.1 (pK P i) (nI (pV P i))).length))])), (rk_, .inl (X.2.1, 150, .inl rk2)), (rv, .inl (X.2.1, 150, .inl rv2))] := hD
                    try dsimp only at hra
                    refine lv_iinc (v := nI (acc.2 + 1)) (lv' := [(2, .int (nI (acc.2 + 1))), (3, .int (nI (i + 1))), (8, .int (nI (pV P i))), (9, .int (-1)), (7, .int (nI (pK P i))), (0, .ref a), (1, .ref h), (4, .int (nI j)), (5, .int (nI (P.length + Hm.length))), (6, .int (nI pp))]) hx hb dX5_differs_159 hl (k := 6) rfl (by rw [show Int32.ofInt 1 = nI 1 from by decide]; exact nI_add _ _) (by decide) rfl (fun ls hl => ?_)
                    refine lv_iinc (v := nI (pp + 1)) (lv' := [(6, .int (nI (pp + 1))), (2, .int (nI (acc.2 + 1))), (3, .int (nI (i + 1))), (8, .int (nI (pV P i))), (9, .int (-1)), (7, .int (nI (pK P i))), (0, .ref a), (1, .ref h), (4, .int (nI j)), (5, .int (nI (P.length + Hm.length)))]) hx hb dX5_differs_162 hl (k := 9) rfl (by rw [show Int32.ofInt 1 = nI 1 from by decide]; exact nI_add _ _) (by decide) rfl (fun ls hl => ?_)
                    refine lv_goto (tgt := 49) hx hb dX5_differs_165 (by decide) ?_
                    exact ih49 (i + 1) j (pp + 1) (dAdd acc (pK P i) (nI (pV P i))) rk2 rv2 (by omega) (by omega) (by omega) (by rw [← h4, difA_lt hi hj hlt]) (by exact hra) (by omega) _ _ hP hD hS ls (lv_sub hl [6, 7, 1, 2, 8, 9, 0] rfl)
                · replace c_126 : (pK Hm j) = (pK P i) := (nI_eq (by omega) (by omega)).mp c_126
                  omega
            · replace c_79 : (pK P i) = 1073741824 := (nI_eq (by omega) (by omega)).mp c_79
              omega
          · skip
            have hb1 := h1.kb hi
            have hb2 := h2.kb hj
            have hb3 := h1.vb hi
            have hb4 := h2.vb hj
            refine lv_aload_n hx hb dX5_differs_56 rfl (lv_at hl 0 rfl) ?_
            refine va_get (D := X.1) (ci := 5) (v := .ref p) (C := RX5) (T := TX5) (N := 12) hx hb hts hin5 hown hK hP 0 rfl rfl 4 (by decide) lk35 (fun _ h9 => h9) rfl dX5_differs_57 ?_
            refine lv_iload_n hx hb dX5_differs_60 rfl (lv_at hl 3 rfl) ?_
            refine ckVRi (As := [.int (nI i)]) (rest := []) 0 [2, 3] (c_X2_keyAt l X p pk pv P.length w i pkf h1.1 (by omega)) ⟨hx, hb, hml, hown, hts⟩ (cwV 1 hts gX5_differs_X2_keyAt rfl rfl rfl (by decide +kernel) ⟨Nat.le_of_ble_eq_true rfl, Nat.le_of_ble_eq_true rfl⟩) hK hN hP hD (by decide) rfl (ci := 2) rfl rfl rfl hl.1 rfl (Nat.le_of_ble_eq_true rfl) dX5_differs_61 ⟨Nat.zero_le _, Nat.zero_le _⟩ (fun r_37 hc_61 => ?_)
            rw [if_pos hi, h1.k hi] at hc_61
            subst hc_61
            refine lv_aload_n hx hb dX5_differs_64 rfl (lv_at hl 1 rfl) ?_
            refine lv_iload hx hb dX5_differs_65 (lv_at hl 4 rfl) ?_
            refine ckVRi (As := [.int (nI j)]) (rest := [.int (nI (pK P i))]) 0 [5, 6] (c_X2_keyAt l X h hk hv Hm.length wh j hkf h2.1 (by omega)) ⟨hx, hb, hml, hown, hts⟩ (cwV 1 hts gX5_differs_X2_keyAt rfl rfl rfl (by decide +kernel) ⟨Nat.le_of_ble_eq_true rfl, Nat.le_of_ble_eq_true rfl⟩) hK hN hP hD (by decide) rfl (ci := 2) rfl rfl rfl hl.1 rfl (Nat.le_of_ble_eq_true rfl) dX5_differs_67 ⟨Nat.zero_le _, Nat.zero_le _⟩ (fun r_38 hc_67 => ?_)
            rw [if_pos hj, h2.k hj] at hc_67
            subst hc_67
            refine va_mmin hx hb (hml.trans hl.1.symm) hown (hts (.methodLink RX5 146 Lib.Math.min.name) (by decide +kernel)) (hts (.static Lib.Math.min.name) (by decide +kernel)) (hts (.initialized "java/lang/Math") (by decide +kernel)) (hts (.code Lib.Math.min.name Lib.Math.min.code 2 (some .int)) (by decide +kernel)) (Nat.le_of_ble_eq_true rfl) (Nat.le_of_ble_eq_true rfl) (Nat.zero_le _) (Nat.zero_le _) dX5_differs_70 ?_
            refine lv_topi (fun x_39 ex_39 => ?_)
            obtain rfl : x_39 = nI (pK Hm j) := by
              rw [ex_39]
              rw [mmin_nI (by omega) (by omega)]
              first | rfl | (congr 1; omega)
            refine lv_istore (lv' := [(7, .int (nI (pK Hm j))), (0, .ref a), (1, .ref h), (2, .int (nI acc.2)), (3, .int (nI i)), (4, .int (nI j)), (5, .int (nI (P.length + Hm.length))), (6, .int (nI pp))]) hx hb dX5_differs_73 hl (by decide) rfl (fun ls hl => ?_)
            refine lv_iload hx hb dX5_differs_75 (lv_at hl 0 rfl) ?_
            refine lv_ldc (v := 1073741824) hx hb hown (hts (.constant RX5 151 (1073741824)) (by decide +kernel)) dX5_differs_77 ?_
            refine lv_topi (fun x_40 ex_40 => ?_)
            obtain rfl : x_40 = nI 1073741824 := by
              rw [ex_40]
              rfl
            refine lv_icmp_ne (tgt := 85) hx hb dX5_differs_79 (by decide) (fun c_79 => ?_) (fun c_79 => ?_)
            · replace c_79 : ¬ (pK Hm j) = 1073741824 := fun h9 => c_79 ((nI_eq (by omega) (by omega)).mpr h9)
              refine lv_iconst (v := (-1)) hx hb dX5_differs_85 (by decide) ?_
              refine lv_istore (lv' := [(8, .int (-1)), (7, .int (nI (pK Hm j))), (0, .ref a), (1, .ref h), (2, .int (nI acc.2)), (3, .int (nI i)), (4, .int (nI j)), (5, .int (nI (P.length + Hm.length))), (6, .int (nI pp))]) hx hb dX5_differs_86 hl (by decide) rfl (fun ls hl => ?_)
              refine lv_iconst (v := (-1)) hx hb dX5_differs_88 (by decide) ?_
              refine lv_istore (lv' := [(9, .int (-1)), (8, .int (-1)), (7, .int (nI (pK Hm j))), (0, .ref a), (1, .ref h), (2, .int (nI acc.2)), (3, .int (nI i)), (4, .int (nI j)), (5, .int (nI (P.length + Hm.length))), (6, .int (nI pp))]) hx hb dX5_differs_89 hl (by decide) rfl (fun ls hl => ?_)
              refine lv_aload_n hx hb dX5_differs_91 rfl (lv_at hl 3 rfl) ?_
              refine va_get (D := X.1) (ci := 5) (v := .ref p) (C := RX5) (T := TX5) (N := 12) hx hb hts hin5 hown hK hP 0 rfl rfl 4 (by decide) lk35 (fun _ h9 => h9) rfl dX5_differs_92 ?_
              refine lv_iload_n hx hb dX5_differs_95 rfl (lv_at hl 6 rfl) ?_
              refine ckVRi (As := [.int (nI i)]) (rest := []) 0 [2, 3] (c_X2_keyAt l X p pk pv P.length w i pkf h1.1 (by omega)) ⟨hx, hb, hml, hown, hts⟩ (cwV 1 hts gX5_differs_X2_keyAt rfl rfl rfl (by decide +kernel) ⟨Nat.le_of_ble_eq_true rfl, Nat.le_of_ble_eq_true rfl⟩) hK hN hP hD (by decide) rfl (ci := 2) rfl rfl rfl hl.1 rfl (Nat.le_of_ble_eq_true rfl) dX5_differs_96 ⟨Nat.zero_le _, Nat.zero_le _⟩ (fun r_41 hc_96 => ?_)
              rw [if_pos hi, h1.k hi] at hc_96
              subst hc_96
              refine lv_iload hx hb dX5_differs_99 (lv_at hl 2 rfl) ?_
              refine lv_icmp_ne (tgt := 118) hx hb dX5_differs_101 (by decide) (fun c_101 => ?_) (fun c_101 => ?_)
              · replace c_101 : ¬ (pK P i) = (pK Hm j) := fun h9 => c_101 ((nI_eq (by omega) (by omega)).mpr h9)
                refine lv_aload_n hx hb dX5_differs_118 rfl (lv_at hl 4 rfl) ?_
                refine lv_iload hx hb dX5_differs_119 (lv_at hl 7 rfl) ?_
                refine ckVRi (As := [.int (nI j)]) (rest := []) 0 [5, 6] (c_X2_keyAt l X h hk hv Hm.length wh j hkf h2.1 (by omega)) ⟨hx, hb, hml, hown, hts⟩ (cwV 1 hts gX5_differs_X2_keyAt rfl rfl rfl (by decide +kernel) ⟨Nat.le_of_ble_eq_true rfl, Nat.le_of_ble_eq_true rfl⟩) hK hN hP hD (by decide) rfl (ci := 2) rfl rfl rfl hl.1 rfl (Nat.le_of_ble_eq_true rfl) dX5_differs_121 ⟨Nat.zero_le _, Nat.zero_le _⟩ (fun r_42 hc_121 => ?_)
                rw [if_pos hj, h2.k hj] at hc_121
                subst hc_121
                refine lv_iload hx hb dX5_differs_124 (lv_at hl 2 rfl) ?_
                refine lv_icmp_ne (tgt := 141) hx hb dX5_differs_126 (by decide) (fun c_126 => ?_) (fun c_126 => ?_)
                · replace c_126 : ¬ (pK Hm j) = (pK Hm j) := fun h9 => c_126 ((nI_eq (by omega) (by omega)).mpr h9)
                  omega
                · replace c_126 : (pK Hm j) = (pK Hm j) := (nI_eq (by omega) (by omega)).mp c_126
                  refine lv_aload_n hx hb dX5_differs_129 rfl (lv_at hl 4 rfl) ?_
                  refine va_get (D := X.1) (ci := 2) (v := .ref hv) (C := RX2) (T := TX2) (N := 4) hx hb hts hin2 hown hK hP 5 rfl rfl 1 (by decide) lk123 (fun _ h9 => h9) rfl dX5_differs_130 ?_
                  refine lv_iload hx hb dX5_differs_133 (lv_at hl 7 rfl) ?_
                  have hi_43 : vp_in (nI j) 512 := vp_in_nI (by omega) (by omega)
                  refine va_iald hx hb hK hP 7 0 rfl rfl hi_43 dX5_differs_135 ?_
                  refine lv_topi (fun x_44 ex_44 => ?_)
                  obtain rfl : x_44 = hvf j := by
                    rw [ex_44]
                    rw [nI_clamp (by omega)]
                  refine lv_topi (fun x_45 ex_45 => ?_)
                  obtain rfl : x_45 = nI (pV Hm j) := by
                    rw [ex_45]
                    exact h2.v hj
                  refine lv_istore (lv' := [(9, .int (nI (pV Hm j))), (8, .int (-1)), (7, .int (nI (pK Hm j))), (0, .ref a), (1, .ref h), (2, .int (nI acc.2)), (3, .int (nI i)), (4, .int (nI j)), (5, .int (nI (P.length + Hm.length))), (6, .int (nI pp))]) hx hb dX5_differs_136 hl (by decide) rfl (fun ls hl => ?_)
                  refine lv_iinc (v := nI (j + 1)) (lv' := [(4, .int (nI (j + 1))), (9, .int (nI (pV Hm j))), (8, .int (-1)), (7, .int (nI (pK Hm j))), (0, .ref a), (1, .ref h), (2, .int (nI acc.2)), (3, .int (nI i)), (5, .int (nI (P.length + Hm.length))), (6, .int (nI pp))]) hx hb dX5_differs_138 hl (k := 7) rfl (by rw [show Int32.ofInt 1 = nI 1 from by decide]; exact nI_add _ _) (by decide) rfl (fun ls hl => ?_)
                  refine lv_iload hx hb dX5_differs_141 (lv_at hl 2 rfl) ?_
                  refine lv_iload hx hb dX5_differs_143 (lv_at hl 1 rfl) ?_
                  refine lv_icmp_eq (tgt := 162) hx hb dX5_differs_145 (by decide) (fun c_145 => ?_) (fun c_145 => ?_)
                  · skip
                    exact absurd c_145.symm (nI_m1 (by omega))
                  · skip
                    refine lv_aload_n hx hb dX5_differs_148 rfl (lv_at hl 4 rfl) ?_
                    refine va_get (D := X.1) (ci := 5) (v := .ref rs) (C := RX5) (T := TX5) (N := 12) hx hb hts hin5 hown hK hP 0 rfl rfl 8 (by decide) lk61 (fun _ h9 => h9) rfl dX5_differs_149 ?_
                    refine lv_iload hx hb dX5_differs_152 (lv_at hl 3 rfl) ?_
                    refine lv_iload hx hb dX5_differs_154 (lv_at hl 2 rfl) ?_
                    refine ckVv (As := [.int (nI (pK Hm j)), .int (-1)]) (rest := []) 0 [8, 9, 10] (c_X3_add l X rs rk_ rv rd (pK Hm j) (-1) rk1 rv1 acc.1 hr1 (by omega)) ⟨hx, hb, hml, hown, hts⟩ (cwV 2 hts gX5_differs_X3_add rfl rfl rfl (by decide +kernel) ⟨Nat.le_of_ble_eq_true rfl, Nat.le_of_ble_eq_true rfl⟩) hK hN hP hD hS (by decide) rfl (ci := 3) rfl rfl (fun _ => rfl) rfl hl.1 rfl (Nat.le_of_ble_eq_true rfl) dX5_differs_156 ⟨Nat.zero_le _, Nat.zero_le _⟩ (fun u_46 H locs hra hP hD hS => ?_)
                    obtain ⟨rk2, rv2⟩ := u_46
                    have hP : va_P X.1 vwCl [(a, .inr (5, [.int (nI bl), .int (nI bk), .int (nI sp), .ref d, .ref p, .ref t, .ref t2, .ref ch, .ref rs, .int (nI 1), .int f_ct, .int (nI cp)])), (d, .inr (1, [.ref h, .ref lk, .ref lv, .int (nI se)])), (p, .inr (2, [.ref pk, .ref pv, .int (nI P.length), .int (nI w)])), (pk, .inl (X.2.1, 512, .inl pkf)), (pv, .inl (X.2.1, 512, .inl pvf)), (h, .inr (2, [.ref hk, .ref hv, .int (nI Hm.length), .int (nI wh)])), (hk, .inl (X.2.1, 512, .inl hkf)), (hv, .inl (X.2.1, 512, .inl hvf)), (rs, .inr (3, [.ref rk_, .ref rv, .ref rd, .int (nI ((rsAdd acc.1 (pK Hm j) (-1)).length))])), (rk_, .inl (X.2.1, 150, .inl rk2)), (rv, .inl (X.2.1, 150, .inl rv2))] H := hP
                    have hD : va_D A_ [(a, .inr (5, [.int (nI bl), .int (nI bk), .int (nI sp), .ref d, .ref p, .ref t, .ref t2, .ref ch, .ref rs, .int (nI 1), .int f_ct, .int (nI cp)])), (d, .inr (1, [.ref h, .ref lk, .ref lv, .int (nI se)])), (p, .inr (2, [.ref pk, .ref pv, .int (nI P.length), .int (nI w)])), (pk, .inl (X.2.1, 512, .inl pkf)), (pv, .inl (X.2.1, 512, .inl pvf)), (h, .inr (2, [.ref hk, .ref hv, .int (nI Hm.length), .int (nI wh)])), (hk, .inl (X.2.1, 512, .inl hkf)), (hv, .inl (X.2.1, 512, .inl hvf)), (rs, .inr (3, [.ref rk_, .ref rv, .ref rd, .int (nI ((rsAdd acc.1 (pK Hm j) (-1)).length))])), (rk_, .inl (X.2.1, 150, .inl rk2)), (rv, .inl (X.2.1, 150, .inl rv2))] := hD
                    try dsimp only at hra
                    refine lv_iinc (v := nI (acc.2 + 1)) (lv' := [(2, .int (nI (acc.2 + 1))), (4, .int (nI (j + 1))), (9, .int (nI (pV Hm j))), (8, .int (-1)), (7, .int (nI (pK Hm j))), (0, .ref a), (1, .ref h), (3, .int (nI i)), (5, .int (nI (P.length + Hm.length))), (6, .int (nI pp))]) hx hb dX5_differs_159 hl (k := 6) rfl (by rw [show Int32.ofInt 1 = nI 1 from by decide]; exact nI_add _ _) (by decide) rfl (fun ls hl => ?_)
                    refine lv_iinc (v := nI (pp + 1)) (lv' := [(6, .int (nI (pp + 1))), (2, .int (nI (acc.2 + 1))), (4, .int (nI (j + 1))), (9, .int (nI (pV Hm j))), (8, .int (-1)), (7, .int (nI (pK Hm j))), (0, .ref a), (1, .ref h), (3, .int (nI i)), (5, .int (nI (P.length + Hm.length)))]) hx hb dX5_differs_162 hl (k := 9) rfl (by rw [show Int32.ofInt 1 = nI 1 from by decide]; exact nI_add _ _) (by decide) rfl (fun ls hl => ?_)
                    refine lv_goto (tgt := 49) hx hb dX5_differs_165 (by decide) ?_
                    exact ih49 i (j + 1) (pp + 1) (dAdd acc (pK Hm j) (-1)) rk2 rv2 (by omega) (by omega) (by omega) (by rw [← h4, difA_gt hi hj hlt]) (by exact hra) (by omega) _ _ hP hD hS ls (lv_sub hl [6, 7, 1, 8, 2, 9, 0] rfl)
              · replace c_101 : (pK P i) = (pK Hm j) := (nI_eq (by omega) (by omega)).mp c_101
                omega
            · replace c_79 : (pK Hm j) = 1073741824 := (nI_eq (by omega) (by omega)).mp c_79
              omega
          · skip
            have hb1 := h1.kb hi
            have hb2 := h2.kb hj
            have hb3 := h1.vb hi
            have hb4 := h2.vb hj
            refine lv_aload_n hx hb dX5_differs_56 rfl (lv_at hl 0 rfl) ?_
            refine va_get (D := X.1) (ci := 5) (v := .ref p) (C := RX5) (T := TX5) (N := 12) hx hb hts hin5 hown hK hP 0 rfl rfl 4 (by decide) lk35 (fun _ h9 => h9) rfl dX5_differs_57 ?_
            refine lv_iload_n hx hb dX5_differs_60 rfl (lv_at hl 3 rfl) ?_
            refine ckVRi (As := [.int (nI i)]) (rest := []) 0 [2, 3] (c_X2_keyAt l X p pk pv P.length w i pkf h1.1 (by omega)) ⟨hx, hb, hml, hown, hts⟩ (cwV 1 hts gX5_differs_X2_keyAt rfl rfl rfl (by decide +kernel) ⟨Nat.le_of_ble_eq_true rfl, Nat.le_of_ble_eq_true rfl⟩) hK hN hP hD (by decide) rfl (ci := 2) rfl rfl rfl hl.1 rfl (Nat.le_of_ble_eq_true rfl) dX5_differs_61 ⟨Nat.zero_le _, Nat.zero_le _⟩ (fun r_48 hc_61 => ?_)
            rw [if_pos hi, h1.k hi] at hc_61
            subst hc_61
            refine lv_aload_n hx hb dX5_differs_64 rfl (lv_at hl 1 rfl) ?_
            refine lv_iload hx hb dX5_differs_65 (lv_at hl 4 rfl) ?_
            refine ckVRi (As := [.int (nI j)]) (rest := [.int (nI (pK P i))]) 0 [5, 6] (c_X2_keyAt l X h hk hv Hm.length wh j hkf h2.1 (by omega)) ⟨hx, hb, hml, hown, hts⟩ (cwV 1 hts gX5_differs_X2_keyAt rfl rfl rfl (by decide +kernel) ⟨Nat.le_of_ble_eq_true rfl, Nat.le_of_ble_eq_true rfl⟩) hK hN hP hD (by decide) rfl (ci := 2) rfl rfl rfl hl.1 rfl (Nat.le_of_ble_eq_true rfl) dX5_differs_67 ⟨Nat.zero_le _, Nat.zero_le _⟩ (fun r_49 hc_67 => ?_)
            rw [if_pos hj, h2.k hj] at hc_67
            subst hc_67
            refine va_mmin hx hb (hml.trans hl.1.symm) hown (hts (.methodLink RX5 146 Lib.Math.min.name) (by decide +kernel)) (hts (.static Lib.Math.min.name) (by decide +kernel)) (hts (.initialized "java/lang/Math") (by decide +kernel)) (hts (.code Lib.Math.min.name Lib.Math.min.code 2 (some .int)) (by decide +kernel)) (Nat.le_of_ble_eq_true rfl) (Nat.le_of_ble_eq_true rfl) (Nat.zero_le _) (Nat.zero_le _) dX5_differs_70 ?_
            refine lv_topi (fun x_50 ex_50 => ?_)
            obtain rfl : x_50 = nI (pK P i) := by
              rw [ex_50]
              rw [mmin_nI (by omega) (by omega)]
              first | rfl | (congr 1; omega)
            refine lv_istore (lv' := [(7, .int (nI (pK P i))), (0, .ref a), (1, .ref h), (2, .int (nI acc.2)), (3, .int (nI i)), (4, .int (nI j)), (5, .int (nI (P.length + Hm.length))), (6, .int (nI pp))]) hx hb dX5_differs_73 hl (by decide) rfl (fun ls hl => ?_)
            refine lv_iload hx hb dX5_differs_75 (lv_at hl 0 rfl) ?_
            refine lv_ldc (v := 1073741824) hx hb hown (hts (.constant RX5 151 (1073741824)) (by decide +kernel)) dX5_differs_77 ?_
            refine lv_topi (fun x_51 ex_51 => ?_)
            obtain rfl : x_51 = nI 1073741824 := by
              rw [ex_51]
              rfl
            refine lv_icmp_ne (tgt := 85) hx hb dX5_differs_79 (by decide) (fun c_79 => ?_) (fun c_79 => ?_)
            · replace c_79 : ¬ (pK P i) = 1073741824 := fun h9 => c_79 ((nI_eq (by omega) (by omega)).mpr h9)
              refine lv_iconst (v := (-1)) hx hb dX5_differs_85 (by decide) ?_
              refine lv_istore (lv' := [(8, .int (-1)), (7, .int (nI (pK P i))), (0, .ref a), (1, .ref h), (2, .int (nI acc.2)), (3, .int (nI i)), (4, .int (nI j)), (5, .int (nI (P.length + Hm.length))), (6, .int (nI pp))]) hx hb dX5_differs_86 hl (by decide) rfl (fun ls hl => ?_)
              refine lv_iconst (v := (-1)) hx hb dX5_differs_88 (by decide) ?_
              refine lv_istore (lv' := [(9, .int (-1)), (8, .int (-1)), (7, .int (nI (pK P i))), (0, .ref a), (1, .ref h), (2, .int (nI acc.2)), (3, .int (nI i)), (4, .int (nI j)), (5, .int (nI (P.length + Hm.length))), (6, .int (nI pp))]) hx hb dX5_differs_89 hl (by decide) rfl (fun ls hl => ?_)
              refine lv_aload_n hx hb dX5_differs_91 rfl (lv_at hl 3 rfl) ?_
              refine va_get (D := X.1) (ci := 5) (v := .ref p) (C := RX5) (T := TX5) (N := 12) hx hb hts hin5 hown hK hP 0 rfl rfl 4 (by decide) lk35 (fun _ h9 => h9) rfl dX5_differs_92 ?_
              refine lv_iload_n hx hb dX5_differs_95 rfl (lv_at hl 6 rfl) ?_
              refine ckVRi (As := [.int (nI i)]) (rest := []) 0 [2, 3] (c_X2_keyAt l X p pk pv P.length w i pkf h1.1 (by omega)) ⟨hx, hb, hml, hown, hts⟩ (cwV 1 hts gX5_differs_X2_keyAt rfl rfl rfl (by decide +kernel) ⟨Nat.le_of_ble_eq_true rfl, Nat.le_of_ble_eq_true rfl⟩) hK hN hP hD (by decide) rfl (ci := 2) rfl rfl rfl hl.1 rfl (Nat.le_of_ble_eq_true rfl) dX5_differs_96 ⟨Nat.zero_le _, Nat.zero_le _⟩ (fun r_52 hc_96 => ?_)
              rw [if_pos hi, h1.k hi] at hc_96
              subst hc_96
              refine lv_iload hx hb dX5_differs_99 (lv_at hl 2 rfl) ?_
              refine lv_icmp_ne (tgt := 118) hx hb dX5_differs_101 (by decide) (fun c_101 => ?_) (fun c_101 => ?_)
              · replace c_101 : ¬ (pK P i) = (pK P i) := fun h9 => c_101 ((nI_eq (by omega) (by omega)).mpr h9)
                omega
              · replace c_101 : (pK P i) = (pK P i) := (nI_eq (by omega) (by omega)).mp c_101
                refine lv_aload_n hx hb dX5_differs_104 rfl (lv_at hl 3 rfl) ?_
                refine va_get (D := X.1) (ci := 5) (v := .ref p) (C := RX5) (T := TX5) (N := 12) hx hb hts hin5 hown hK hP 0 rfl rfl 4 (by decide) lk35 (fun _ h9 => h9) rfl dX5_differs_105 ?_
                refine va_get (D := X.1) (ci := 2) (v := .ref pv) (C := RX2) (T := TX2) (N := 4) hx hb hts hin2 hown hK hP 2 rfl rfl 1 (by decide) lk123 (fun _ h9 => h9) rfl dX5_differs_108 ?_
                refine lv_iload_n hx hb dX5_differs_111 rfl (lv_at hl 6 rfl) ?_
                have hi_53 : vp_in (nI i) 512 := vp_in_nI (by omega) (by omega)
                refine va_iald hx hb hK hP 4 0 rfl rfl hi_53 dX5_differs_112 ?_
                refine lv_topi (fun x_54 ex_54 => ?_)
                obtain rfl : x_54 = pvf i := by
                  rw [ex_54]
                  rw [nI_clamp (by omega)]
                refine lv_topi (fun x_55 ex_55 => ?_)
                obtain rfl : x_55 = nI (pV P i) := by
                  rw [ex_55]
                  exact h1.v hi
                refine lv_istore (lv' := [(8, .int (nI (pV P i))), (9, .int (-1)), (7, .int (nI (pK P i))), (0, .ref a), (1, .ref h), (2, .int (nI acc.2)), (3, .int (nI i)), (4, .int (nI j)), (5, .int (nI (P.length + Hm.length))), (6, .int (nI pp))]) hx hb dX5_differs_113 hl (by decide) rfl (fun ls hl => ?_)
                refine lv_iinc (v := nI (i + 1)) (lv' := [(3, .int (nI (i + 1))), (8, .int (nI (pV P i))), (9, .int (-1)), (7, .int (nI (pK P i))), (0, .ref a), (1, .ref h), (2, .int (nI acc.2)), (4, .int (nI j)), (5, .int (nI (P.length + Hm.length))), (6, .int (nI pp))]) hx hb dX5_differs_115 hl (k := 6) rfl (by rw [show Int32.ofInt 1 = nI 1 from by decide]; exact nI_add _ _) (by decide) rfl (fun ls hl => ?_)
                refine lv_aload_n hx hb dX5_differs_118 rfl (lv_at hl 5 rfl) ?_
                refine lv_iload hx hb dX5_differs_119 (lv_at hl 7 rfl) ?_
                refine ckVRi (As := [.int (nI j)]) (rest := []) 0 [5, 6] (c_X2_keyAt l X h hk hv Hm.length wh j hkf h2.1 (by omega)) ⟨hx, hb, hml, hown, hts⟩ (cwV 1 hts gX5_differs_X2_keyAt rfl rfl rfl (by decide +kernel) ⟨Nat.le_of_ble_eq_true rfl, Nat.le_of_ble_eq_true rfl⟩) hK hN hP hD (by decide) rfl (ci := 2) rfl rfl rfl hl.1 rfl (Nat.le_of_ble_eq_true rfl) dX5_differs_121 ⟨Nat.zero_le _, Nat.zero_le _⟩ (fun r_56 hc_121 => ?_)
                rw [if_pos hj, h2.k hj] at hc_121
                subst hc_121
                refine lv_iload hx hb dX5_differs_124 (lv_at hl 3 rfl) ?_
                refine lv_icmp_ne (tgt := 141) hx hb dX5_differs_126 (by decide) (fun c_126 => ?_) (fun c_126 => ?_)
                · replace c_126 : ¬ (pK Hm j) = (pK P i) := fun h9 => c_126 ((nI_eq (by omega) (by omega)).mpr h9)
                  omega
                · replace c_126 : (pK Hm j) = (pK P i) := (nI_eq (by omega) (by omega)).mp c_126
                  refine lv_aload_n hx hb dX5_differs_129 rfl (lv_at hl 5 rfl) ?_
                  refine va_get (D := X.1) (ci := 2) (v := .ref hv) (C := RX2) (T := TX2) (N := 4) hx hb hts hin2 hown hK hP 5 rfl rfl 1 (by decide) lk123 (fun _ h9 => h9) rfl dX5_differs_130 ?_
                  refine lv_iload hx hb dX5_differs_133 (lv_at hl 7 rfl) ?_
                  have hi_57 : vp_in (nI j) 512 := vp_in_nI (by omega) (by omega)
                  refine va_iald hx hb hK hP 7 0 rfl rfl hi_57 dX5_differs_135 ?_
                  refine lv_topi (fun x_58 ex_58 => ?_)
                  obtain rfl : x_58 = hvf j := by
                    rw [ex_58]
                    rw [nI_clamp (by omega)]
                  refine lv_topi (fun x_59 ex_59 => ?_)
                  obtain rfl : x_59 = nI (pV Hm j) := by
                    rw [ex_59]
                    exact h2.v hj
                  refine lv_istore (lv' := [(9, .int (nI (pV Hm j))), (3, .int (nI (i + 1))), (8, .int (nI (pV P i))), (7, .int (nI (pK P i))), (0, .ref a), (1, .ref h), (2, .int (nI acc.2)), (4, .int (nI j)), (5, .int (nI (P.length + Hm.length))), (6, .int (nI pp))]) hx hb dX5_differs_136 hl (by decide) rfl (fun ls hl => ?_)
                  refine lv_iinc (v := nI (j + 1)) (lv' := [(4, .int (nI (j + 1))), (9, .int (nI (pV Hm j))), (3, .int (nI (i + 1))), (8, .int (nI (pV P i))), (7, .int (nI (pK P i))), (0, .ref a), (1, .ref h), (2, .int (nI acc.2)), (5, .int (nI (P.length + Hm.length))), (6, .int (nI pp))]) hx hb dX5_differs_138 hl (k := 7) rfl (by rw [show Int32.ofInt 1 = nI 1 from by decide]; exact nI_add _ _) (by decide) rfl (fun ls hl => ?_)
                  refine lv_iload hx hb dX5_differs_141 (lv_at hl 3 rfl) ?_
                  refine lv_iload hx hb dX5_differs_143 (lv_at hl 1 rfl) ?_
                  refine lv_icmp_eq (tgt := 162) hx hb dX5_differs_145 (by decide) (fun c_145 => ?_) (fun c_145 => ?_)
                  · replace c_145 : (pV P i) = (pV Hm j) := (nI_eq (by omega) (by omega)).mp c_145
                    refine lv_iinc (v := nI (pp + 1)) (lv' := [(6, .int (nI (pp + 1))), (4, .int (nI (j + 1))), (9, .int (nI (pV Hm j))), (3, .int (nI (i + 1))), (8, .int (nI (pV P i))), (7, .int (nI (pK P i))), (0, .ref a), (1, .ref h), (2, .int (nI acc.2)), (5, .int (nI (P.length + Hm.length)))]) hx hb dX5_differs_162 hl (k := 9) rfl (by rw [show Int32.ofInt 1 = nI 1 from by decide]; exact nI_add _ _) (by decide) rfl (fun ls hl => ?_)
                    refine lv_goto (tgt := 49) hx hb dX5_differs_165 (by decide) ?_
                    exact ih49 (i + 1) (j + 1) (pp + 1) acc rk1 rv1 (by omega) (by omega) (by omega) (by rw [← h4, difA_eq hi hj hlt, if_pos c_145]) (by exact hr1) (by omega) _ _ hP hD hS ls (lv_sub hl [6, 7, 8, 3, 1, 9, 0] rfl)
                  · replace c_145 : ¬ (pV P i) = (pV Hm j) := fun h9 => c_145 ((nI_eq (by omega) (by omega)).mpr h9)
                    refine lv_aload_n hx hb dX5_differs_148 rfl (lv_at hl 5 rfl) ?_
                    refine va_get (D := X.1) (ci := 5) (v := .ref rs) (C := RX5) (T := TX5) (N := 12) hx hb hts hin5 hown hK hP 0 rfl rfl 8 (by decide) lk61 (fun _ h9 => h9) rfl dX5_differs_149 ?_
                    refine lv_iload hx hb dX5_differs_152 (lv_at hl 4 rfl) ?_
                    refine lv_iload hx hb dX5_differs_154 (lv_at hl 3 rfl) ?_
                    refine ckVv (As := [.int (nI (pK P i)), .int (nI (pV P i))]) (rest := []) 0 [8, 9, 10] (c_X3_add l X rs rk_ rv rd (pK P i) (nI (pV P i)) rk1 rv1 acc.1 hr1 (by omega)) ⟨hx, hb, hml, hown, hts⟩ (cwV 2 hts gX5_differs_X3_add rfl rfl rfl (by decide +kernel) ⟨Nat.le_of_ble_eq_true rfl, Nat.le_of_ble_eq_true rfl⟩) hK hN hP hD hS (by decide) rfl (ci := 3) rfl rfl (fun _ => rfl) rfl hl.1 rfl (Nat.le_of_ble_eq_true rfl) dX5_differs_156 ⟨Nat.zero_le _, Nat.zero_le _⟩ (fun u_60 H locs hra hP hD hS => ?_)
                    obtain ⟨rk2, rv2⟩ := u_60
                    have hP : va_P X.1 vwCl [(a, .inr (5, [.int (nI bl), .int (nI bk), .int (nI sp), .ref d, .ref p, .ref t, .ref t2, .ref ch, .ref rs, .int (nI 1), .int f_ct, .int (nI cp)])), (d, .inr (1, [.ref h, .ref lk, .ref lv, .int (nI se)])), (p, .inr (2, [.ref pk, .ref pv, .int (nI P.length), .int (nI w)])), (pk, .inl (X.2.1, 512, .inl pkf)), (pv, .inl (X.2.1, 512, .inl pvf)), (h, .inr (2, [.ref hk, .ref hv, .int (nI Hm.length), .int (nI wh)])), (hk, .inl (X.2.1, 512, .inl hkf)), (hv, .inl (X.2.1, 512, .inl hvf)), (rs, .inr (3, [.ref rk_, .ref rv, .ref rd, .int (nI ((rsAdd acc.1 (pK P i) (nI (pV P i))).length))])), (rk_, .inl (X.2.1, 150, .inl rk2)), (rv, .inl (X.2.1, 150, .inl rv2))] H := hP
                    have hD : va_D A_ [(a, .inr (5, [.int (nI bl), .int (nI bk), .int (nI sp), .ref d, .ref p, .ref t, .ref t2, .ref ch, .ref rs, .int (nI 1), .int f_ct, .int (nI cp)])), (d, .inr (1, [.ref h, .ref lk, .ref lv, .int (nI se)])), (p, .inr (2, [.ref pk, .ref pv, .int (nI P.length), .int (nI w)])), (pk, .inl (X.2.1, 512, .inl pkf)), (pv, .inl (X.2.1, 512, .inl pvf)), (h, .inr (2, [.ref hk, .ref hv, .int (nI Hm.length), .int (nI wh)])), (hk, .inl (X.2.1, 512, .inl hkf)), (hv, .inl (X.2.1, 512, .inl hvf)), (rs, .inr (3, [.ref rk_, .ref rv, .ref rd, .int (nI ((rsAdd acc.1 (pK P i) (nI (pV P i))).length))])), (rk_, .inl (X.2.1, 150, .inl rk2)), (rv, .inl (X.2.1, 150, .inl rv2))] := hD
                    try dsimp only at hra
                    refine lv_iinc (v := nI (acc.2 + 1)) (lv' := [(2, .int (nI (acc.2 + 1))), (4, .int (nI (j + 1))), (9, .int (nI (pV Hm j))), (3, .int (nI (i + 1))), (8, .int (nI (pV P i))), (7, .int (nI (pK P i))), (0, .ref a), (1, .ref h), (5, .int (nI (P.length + Hm.length))), (6, .int (nI pp))]) hx hb dX5_differs_159 hl (k := 7) rfl (by rw [show Int32.ofInt 1 = nI 1 from by decide]; exact nI_add _ _) (by decide) rfl (fun ls hl => ?_)
                    refine lv_iinc (v := nI (pp + 1)) (lv' := [(6, .int (nI (pp + 1))), (2, .int (nI (acc.2 + 1))), (4, .int (nI (j + 1))), (9, .int (nI (pV Hm j))), (3, .int (nI (i + 1))), (8, .int (nI (pV P i))), (7, .int (nI (pK P i))), (0, .ref a), (1, .ref h), (5, .int (nI (P.length + Hm.length)))]) hx hb dX5_differs_162 hl (k := 9) rfl (by rw [show Int32.ofInt 1 = nI 1 from by decide]; exact nI_add _ _) (by decide) rfl (fun ls hl => ?_)
                    refine lv_goto (tgt := 49) hx hb dX5_differs_165 (by decide) ?_
                    exact ih49 (i + 1) (j + 1) (pp + 1) (dAdd acc (pK P i) (nI (pV P i))) rk2 rv2 (by omega) (by omega) (by omega) (by rw [← h4, difA_eq hi hj hlt, if_neg c_145]) (by exact hra) (by omega) _ _ hP hD hS ls (lv_sub hl [7, 8, 1, 4, 2, 9, 0] rfl)
            · replace c_79 : (pK P i) = 1073741824 := (nI_eq (by omega) (by omega)).mp c_79
              omega
          · skip
            skip
            refine lv_aload_n hx hb dX5_differs_56 rfl (lv_at hl 0 rfl) ?_
            refine va_get (D := X.1) (ci := 5) (v := .ref p) (C := RX5) (T := TX5) (N := 12) hx hb hts hin5 hown hK hP 0 rfl rfl 4 (by decide) lk35 (fun _ h9 => h9) rfl dX5_differs_57 ?_
            refine lv_iload_n hx hb dX5_differs_60 rfl (lv_at hl 3 rfl) ?_
            refine ckVRi (As := [.int (nI i)]) (rest := []) 0 [2, 3] (c_X2_keyAt l X p pk pv P.length w i pkf h1.1 (by omega)) ⟨hx, hb, hml, hown, hts⟩ (cwV 1 hts gX5_differs_X2_keyAt rfl rfl rfl (by decide +kernel) ⟨Nat.le_of_ble_eq_true rfl, Nat.le_of_ble_eq_true rfl⟩) hK hN hP hD (by decide) rfl (ci := 2) rfl rfl rfl hl.1 rfl (Nat.le_of_ble_eq_true rfl) dX5_differs_61 ⟨Nat.zero_le _, Nat.zero_le _⟩ (fun r_62 hc_61 => ?_)
            rw [if_neg (by omega)] at hc_61
            subst hc_61
            refine lv_aload_n hx hb dX5_differs_64 rfl (lv_at hl 1 rfl) ?_
            refine lv_iload hx hb dX5_differs_65 (lv_at hl 4 rfl) ?_
            refine ckVRi (As := [.int (nI j)]) (rest := [.int (nI 1073741824)]) 0 [5, 6] (c_X2_keyAt l X h hk hv Hm.length wh j hkf h2.1 (by omega)) ⟨hx, hb, hml, hown, hts⟩ (cwV 1 hts gX5_differs_X2_keyAt rfl rfl rfl (by decide +kernel) ⟨Nat.le_of_ble_eq_true rfl, Nat.le_of_ble_eq_true rfl⟩) hK hN hP hD (by decide) rfl (ci := 2) rfl rfl rfl hl.1 rfl (Nat.le_of_ble_eq_true rfl) dX5_differs_67 ⟨Nat.zero_le _, Nat.zero_le _⟩ (fun r_63 hc_67 => ?_)
            rw [if_neg (by omega)] at hc_67
            subst hc_67
            refine va_mmin hx hb (hml.trans hl.1.symm) hown (hts (.methodLink RX5 146 Lib.Math.min.name) (by decide +kernel)) (hts (.static Lib.Math.min.name) (by decide +kernel)) (hts (.initialized "java/lang/Math") (by decide +kernel)) (hts (.code Lib.Math.min.name Lib.Math.min.code 2 (some .int)) (by decide +kernel)) (Nat.le_of_ble_eq_true rfl) (Nat.le_of_ble_eq_true rfl) (Nat.zero_le _) (Nat.zero_le _) dX5_differs_70 ?_
            refine lv_topi (fun x_64 ex_64 => ?_)
            obtain rfl : x_64 = nI 1073741824 := by
              rw [ex_64]
              rw [mmin_nI (by omega) (by omega)]
              first | rfl | (congr 1; omega)
            refine lv_istore (lv' := [(7, .int (nI 1073741824)), (0, .ref a), (1, .ref h), (2, .int (nI acc.2)), (3, .int (nI i)), (4, .int (nI j)), (5, .int (nI (P.length + Hm.length))), (6, .int (nI pp))]) hx hb dX5_differs_73 hl (by decide) rfl (fun ls hl => ?_)
            refine lv_iload hx hb dX5_differs_75 (lv_at hl 0 rfl) ?_
            refine lv_ldc (v := 1073741824) hx hb hown (hts (.constant RX5 151 (1073741824)) (by decide +kernel)) dX5_differs_77 ?_
            refine lv_topi (fun x_65 ex_65 => ?_)
            obtain rfl : x_65 = nI 1073741824 := by
              rw [ex_65]
              rfl
            refine lv_icmp_ne (tgt := 85) hx hb dX5_differs_79 (by decide) (fun c_79 => ?_) (fun c_79 => ?_)
            · exact absurd c_79 (by decide)
            · skip
              refine lv_goto (tgt := 168) hx hb dX5_differs_82 (by decide) ?_
              refine lv_iload_n hx hb dX5_differs_168 rfl (lv_at hl 3 rfl) ?_
              refine wM hQ ?_
              exact rtI (rk1, rv1, acc.1) hx hb hr hlocks hP hS (⟨hr1, by rw [← h4, difA_end (by omega) (by omega)]⟩) dX5_differs_169
    exact loop_49 _ 0 0 0 (([] : RSL), 0) rkf rvf (by omega) (by omega) (by omega) (by rfl) (by exact rs_nil) (Nat.lt_succ_self _) _ _ hP hD hS ls (lv_sub hl [6, 5, 4, 3, 2, 1, 0] rfl)
  · exact absurd c_4 (by decide)
