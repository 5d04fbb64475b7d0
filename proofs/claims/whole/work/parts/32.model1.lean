/-! PointStoreModel: searches, codes: contracts, laid by program (wip/gen/spec_m1.py) -/
set_option maxHeartbeats 4000000 in
set_option maxRecDepth 100000 in
theorem c_X6_isInside (l : Launch) (X : kX) (m bl bk b sp mn xr yr vr cr wr nc wl wc rx ry rv fr : Nat) (f_of f_ar f_wt f_lv f_fi f_en f_rs : Int32) (f_cd : Int64) (x y : Int32) : CRi l X yX6_isInside wsX6_isInside 0 [.ref m, .int x, .int y] [(m, .inr (6, [.int (nI bl), .int (nI bk), .int (nI b), .int (nI sp), .ref mn, .ref xr, .ref yr, .ref vr, .ref cr, .ref wr, .int (nI nc), .int f_of, .int f_ar, .ref wl, .ref wc, .int f_wt, .int f_lv, .int f_fi, .int f_en, .long f_cd, .ref rx, .ref ry, .ref rv, .ref fr, .int f_rs]))] (fun r => (onp x y sp ∧ r = nI 1) ∨ (¬ onp x y sp ∧ r = nI 0)) := by
  refine Met.ofW (cc := cX6_isInside) (maxL := 3) (ret := some (.boolean)) (by decide) rfl ?_
  intro pz ez sz mz args below meth cz s₁ Bz hml hv
  obtain ⟨rfl, hP, hK, hD0, hN⟩ := hv
  have hx := Bz.exec
  have hb := Bz.bytes
  have hr := Bz.returns
  have hts := atoms_spec (ws := wsX6_isInside) Bz.pre
  have hown : sz.vm.findClass RX6 = some mz.cls := findClass_of_methodNamed Bz.named
  have hlocks := Bz.notSynchronized
  have hD := inW.self hD0
  have hS : va_S (inW [(m, .inr (6, [.int (nI bl), .int (nI bk), .int (nI b), .int (nI sp), .ref mn, .ref xr, .ref yr, .ref vr, .ref cr, .ref wr, .int (nI nc), .int f_of, .int f_ar, .ref wl, .ref wc, .int f_wt, .int f_lv, .int f_fi, .int f_en, .long f_cd, .ref rx, .ref ry, .ref rv, .ref fr, .int f_rs]))]) sz.heap sz.heap [] := va_S.rf
  have hl := lv_entry ([.ref m, .int x, .int y]) (n := 3) (Nat.le_of_ble_eq_true rfl)
  rw [lg_entry_eq]
  generalize (lg_sl ([.ref m, .int x, .int y]) ++ List.replicate (3 - (lg_sl ([.ref m, .int x, .int y])).length) Slot.unset).toArray = ls at hl ⊢
  have hl : lv_has ls 3 [(0, .ref m), (1, .int x), (2, .int y)] := hl
  have lk60 := hts (.fieldLink RX6 60 "PointStoreModel" "span" "I") (by decide +kernel)
  have hin6 : ∀ w ∈ u_ws RX6 TX6 25, w ∈ wsX6_isInside := by decide +kernel
  refine wQ (fun Q hQ => ?_)
  generalize hAe : inW [(m, .inr (6, [.int (nI bl), .int (nI bk), .int (nI b), .int (nI sp), .ref mn, .ref xr, .ref yr, .ref vr, .ref cr, .ref wr, .int (nI nc), .int f_of, .int f_ar, .ref wl, .ref wc, .int f_wt, .int f_lv, .int f_fi, .int f_en, .long f_cd, .ref rx, .ref ry, .ref rv, .ref fr, .int f_rs]))] = A_ at hD hS
  refine lv_iload_n hx hb dX6_isInside_0 rfl (lv_at hl 1 rfl) ?_
  refine lv_if_lt (tgt := 28) hx hb dX6_isInside_1 (by decide) (fun c_1 => ?_) (fun c_1 => ?_)
  · skip
    refine lv_iconst (v := nI 0) hx hb dX6_isInside_28 (by decide) ?_
    refine wM hQ ?_
    exact rtRZ hx hb hr hlocks (by decide) (Or.inr ⟨fun z => by first | exact z.1 c_1 | exact z.2.1 c_9 | exact z.2.2.1 c_13 | exact z.2.2.2 c_21, rfl⟩) dX6_isInside_29
  · skip
    refine lv_iload_n hx hb dX6_isInside_4 rfl (lv_at hl 1 rfl) ?_
    refine lv_aload_n hx hb dX6_isInside_5 rfl (lv_at hl 0 rfl) ?_
    refine va_get (D := X.1) (ci := 6) (v := .int (nI sp)) (C := RX6) (T := TX6) (N := 25) hx hb hts hin6 hown hK hP 0 rfl rfl 3 (by decide) lk60 (fun _ h9 => h9) rfl dX6_isInside_6 ?_
    refine lv_icmp_ge (tgt := 28) hx hb dX6_isInside_9 (by decide) (fun c_9 => ?_) (fun c_9 => ?_)
    · skip
      refine lv_iconst (v := nI 0) hx hb dX6_isInside_28 (by decide) ?_
      refine wM hQ ?_
      exact rtRZ hx hb hr hlocks (by decide) (Or.inr ⟨fun z => by first | exact z.1 c_1 | exact z.2.1 c_9 | exact z.2.2.1 c_13 | exact z.2.2.2 c_21, rfl⟩) dX6_isInside_29
    · skip
      refine lv_iload_n hx hb dX6_isInside_12 rfl (lv_at hl 2 rfl) ?_
      refine lv_if_lt (tgt := 28) hx hb dX6_isInside_13 (by decide) (fun c_13 => ?_) (fun c_13 => ?_)
      · skip
        refine lv_iconst (v := nI 0) hx hb dX6_isInside_28 (by decide) ?_
        refine wM hQ ?_
        exact rtRZ hx hb hr hlocks (by decide) (Or.inr ⟨fun z => by first | exact z.1 c_1 | exact z.2.1 c_9 | exact z.2.2.1 c_13 | exact z.2.2.2 c_21, rfl⟩) dX6_isInside_29
      · skip
        refine lv_iload_n hx hb dX6_isInside_16 rfl (lv_at hl 2 rfl) ?_
        refine lv_aload_n hx hb dX6_isInside_17 rfl (lv_at hl 0 rfl) ?_
        refine va_get (D := X.1) (ci := 6) (v := .int (nI sp)) (C := RX6) (T := TX6) (N := 25) hx hb hts hin6 hown hK hP 0 rfl rfl 3 (by decide) lk60 (fun _ h9 => h9) rfl dX6_isInside_18 ?_
        refine lv_icmp_ge (tgt := 28) hx hb dX6_isInside_21 (by decide) (fun c_21 => ?_) (fun c_21 => ?_)
        · skip
          refine lv_iconst (v := nI 0) hx hb dX6_isInside_28 (by decide) ?_
          refine wM hQ ?_
          exact rtRZ hx hb hr hlocks (by decide) (Or.inr ⟨fun z => by first | exact z.1 c_1 | exact z.2.1 c_9 | exact z.2.2.1 c_13 | exact z.2.2.2 c_21, rfl⟩) dX6_isInside_29
        · skip
          refine lv_iconst (v := nI 1) hx hb dX6_isInside_24 (by decide) ?_
          refine lv_goto (tgt := 29) hx hb dX6_isInside_25 (by decide) ?_
          refine wM hQ ?_
          exact rtRZ hx hb hr hlocks (by decide) (Or.inl ⟨⟨c_1, c_9, c_13, c_21⟩, rfl⟩) dX6_isInside_29
set_option maxHeartbeats 4000000 in
set_option maxRecDepth 100000 in
theorem c_X6_isState (l : Launch) (X : kX) (x : Int32) : CRi l X yX6_isState wsX6_isState 0 [.int x] [] (fun r => ((x = 0 ∨ x = nI 1) ∧ r = nI 1) ∨ (¬ (x = 0 ∨ x = nI 1) ∧ r = nI 0)) := by
  refine Met.ofW (cc := cX6_isState) (maxL := 1) (ret := some (.boolean)) (by decide) rfl ?_
  intro pz ez sz mz args below meth cz s₁ Bz hml hv
  obtain ⟨rfl, hP, hK, hD0, hN⟩ := hv
  have hx := Bz.exec
  have hb := Bz.bytes
  have hr := Bz.returns
  have hts := atoms_spec (ws := wsX6_isState) Bz.pre
  have hown : sz.vm.findClass RX6 = some mz.cls := findClass_of_methodNamed Bz.named
  have hlocks := Bz.notSynchronized
  have hD := inW.self hD0
  have hS : va_S (inW []) sz.heap sz.heap [] := va_S.rf
  have hl := lv_entry ([.int x]) (n := 1) (Nat.le_of_ble_eq_true rfl)
  rw [lg_entry_eq]
  generalize (lg_sl ([.int x]) ++ List.replicate (1 - (lg_sl ([.int x])).length) Slot.unset).toArray = ls at hl ⊢
  have hl : lv_has ls 1 [(0, .int x)] := hl
  refine wQ (fun Q hQ => ?_)
  generalize hAe : inW [] = A_ at hD hS
  refine lv_iload_n hx hb dX6_isState_0 rfl (lv_at hl 0 rfl) ?_
  refine lv_if_eq (tgt := 9) hx hb dX6_isState_1 (by decide) (fun c_1 => ?_) (fun c_1 => ?_)
  · skip
    refine lv_iconst (v := nI 1) hx hb dX6_isState_9 (by decide) ?_
    refine lv_goto (tgt := 14) hx hb dX6_isState_10 (by decide) ?_
    refine wM hQ ?_
    exact rtRZ hx hb hr hlocks (by decide) (Or.inl ⟨by first | exact Or.inl c_1 | exact Or.inr c_6, rfl⟩) dX6_isState_14
  · skip
    refine lv_iload_n hx hb dX6_isState_4 rfl (lv_at hl 0 rfl) ?_
    refine lv_iconst (v := nI 1) hx hb dX6_isState_5 (by decide) ?_
    refine lv_icmp_ne (tgt := 13) hx hb dX6_isState_6 (by decide) (fun c_6 => ?_) (fun c_6 => ?_)
    · skip
      refine lv_iconst (v := nI 0) hx hb dX6_isState_13 (by decide) ?_
      refine wM hQ ?_
      exact rtRZ hx hb hr hlocks (by decide) (Or.inr ⟨fun z => z.elim c_1 c_6, rfl⟩) dX6_isState_14
    · skip
      refine lv_iconst (v := nI 1) hx hb dX6_isState_9 (by decide) ?_
      refine lv_goto (tgt := 14) hx hb dX6_isState_10 (by decide) ?_
      refine wM hQ ?_
      exact rtRZ hx hb hr hlocks (by decide) (Or.inl ⟨by first | exact Or.inl c_1 | exact Or.inr c_6, rfl⟩) dX6_isState_14
set_option maxHeartbeats 4000000 in
set_option maxRecDepth 100000 in
theorem c_X6_placeOf (l : Launch) (X : kX) (m bl bk b sp mn xr yr vr cr wr nc wl wc rx ry rv fr : Nat) (f_of f_ar f_wt f_lv f_fi f_en f_rs : Int32) (f_cd : Int64) (s : Nat) (x y : Int32) (mf xf yf : Nat → Int32) (L : PL) (hs : s ≤ 1) (hm : mf s = nI L.length) (hX : mX xf yf s L) (hL : lOk L) : CRi l X yX6_placeOf wsX6_placeOf 0 [.ref m, .int (nI s), .int x, .int y] [(m, .inr (6, [.int (nI bl), .int (nI bk), .int (nI b), .int (nI sp), .ref mn, .ref xr, .ref yr, .ref vr, .ref cr, .ref wr, .int (nI nc), .int f_of, .int f_ar, .ref wl, .ref wc, .int f_wt, .int f_lv, .int f_fi, .int f_en, .long f_cd, .ref rx, .ref ry, .ref rv, .ref fr, .int f_rs])), (mn, .inl (X.2.1, 2, .inl mf)), (xr, .inl (X.2.1, 6600, .inl xf)), (yr, .inl (X.2.1, 6600, .inl yf))] (fun r => ∃ k, r = nI k ∧ plAt L x y k) := by
  refine Met.ofW (cc := cX6_placeOf) (maxL := 8) (ret := some (.int)) (by decide) rfl ?_
  intro pz ez sz mz args below meth cz s₁ Bz hml hv
  obtain ⟨rfl, hP, hK, hD0, hN⟩ := hv
  have hx := Bz.exec
  have hb := Bz.bytes
  have hr := Bz.returns
  have hts := atoms_spec (ws := wsX6_placeOf) Bz.pre
  have hown : sz.vm.findClass RX6 = some mz.cls := findClass_of_methodNamed Bz.named
  have hlocks := Bz.notSynchronized
  have hD := inW.self hD0
  have hS : va_S (inW [(m, .inr (6, [.int (nI bl), .int (nI bk), .int (nI b), .int (nI sp), .ref mn, .ref xr, .ref yr, .ref vr, .ref cr, .ref wr, .int (nI nc), .int f_of, .int f_ar, .ref wl, .ref wc, .int f_wt, .int f_lv, .int f_fi, .int f_en, .long f_cd, .ref rx, .ref ry, .ref rv, .ref fr, .int f_rs])), (mn, .inl (X.2.1, 2, .inl mf)), (xr, .inl (X.2.1, 6600, .inl xf)), (yr, .inl (X.2.1, 6600, .inl yf))]) sz.heap sz.heap [] := va_S.rf
  have hl := lv_entry ([.ref m, .int (nI s), .int x, .int y]) (n := 8) (Nat.le_of_ble_eq_true rfl)
  rw [lg_entry_eq]
  generalize (lg_sl ([.ref m, .int (nI s), .int x, .int y]) ++ List.replicate (8 - (lg_sl ([.ref m, .int (nI s), .int x, .int y])).length) Slot.unset).toArray = ls at hl ⊢
  have hl : lv_has ls 8 [(0, .ref m), (1, .int (nI s)), (2, .int x), (3, .int y)] := hl
  have lk7 := hts (.fieldLink RX6 7 "PointStoreModel" "many" "[I") (by decide +kernel)
  have lk13 := hts (.fieldLink RX6 13 "PointStoreModel" "xs" "[I") (by decide +kernel)
  have lk16 := hts (.fieldLink RX6 16 "PointStoreModel" "ys" "[I") (by decide +kernel)
  have hin6 : ∀ w ∈ u_ws RX6 TX6 25, w ∈ wsX6_placeOf := by decide +kernel
  refine wQ (fun Q hQ => ?_)
  generalize hAe : inW [(m, .inr (6, [.int (nI bl), .int (nI bk), .int (nI b), .int (nI sp), .ref mn, .ref xr, .ref yr, .ref vr, .ref cr, .ref wr, .int (nI nc), .int f_of, .int f_ar, .ref wl, .ref wc, .int f_wt, .int f_lv, .int f_fi, .int f_en, .long f_cd, .ref rx, .ref ry, .ref rv, .ref fr, .int f_rs])), (mn, .inl (X.2.1, 2, .inl mf)), (xr, .inl (X.2.1, 6600, .inl xf)), (yr, .inl (X.2.1, 6600, .inl yf))] = A_ at hD hS
  have hlL := hL.1
  refine lv_iconst (v := nI 0) hx hb dX6_placeOf_0 (by decide) ?_
  refine lv_istore (lv' := [(4, .int (nI 0)), (0, .ref m), (1, .int (nI s)), (2, .int x), (3, .int y)]) hx hb dX6_placeOf_1 hl (by decide) rfl (fun ls hl => ?_)
  refine lv_aload_n hx hb dX6_placeOf_3 rfl (lv_at hl 1 rfl) ?_
  refine va_get (D := X.1) (ci := 6) (v := .ref mn) (C := RX6) (T := TX6) (N := 25) hx hb hts hin6 hown hK hP 0 rfl rfl 4 (by decide) lk7 (fun _ h9 => h9) rfl dX6_placeOf_4 ?_
  refine lv_iload_n hx hb dX6_placeOf_7 rfl (lv_at hl 2 rfl) ?_
  have hi_1 : vp_in (nI s) 2 := vp_in_nI (by omega) (by omega)
  refine va_iald hx hb hK hP 1 0 rfl rfl hi_1 dX6_placeOf_8 ?_
  refine lv_topi (fun x_2 ex_2 => ?_)
  obtain rfl : x_2 = mf s := by
    rw [ex_2]
    rw [nI_clamp (by omega)]
  refine lv_topi (fun x_3 ex_3 => ?_)
  obtain rfl : x_3 = nI L.length := by
    rw [ex_3]
    exact hm
  refine lv_istore (lv' := [(5, .int (nI L.length)), (4, .int (nI 0)), (0, .ref m), (1, .int (nI s)), (2, .int x), (3, .int y)]) hx hb dX6_placeOf_9 hl (by decide) rfl (fun ls hl => ?_)
  have loop_11 : ∀ (fu : Nat) (lo : Nat) (hi : Nat), (lo ≤ hi) → (hi ≤ L.length) → (∀ i, i < lo → lexl x y (pK L i)) → (∀ i, hi ≤ i → i < L.length → ¬ lexl x y (pK L i)) → hi - lo < fu → ∀ (ls : Array Slot), lv_has ls 8 [(0, .ref m), (1, .int (nI s)), (2, .int x), (3, .int y), (4, .int (nI lo)), (5, .int (nI hi))] → W pz l ez (headSpec wsX6_placeOf (rmk 0)).room sz mz ([.ref m, .int (nI s), .int x, .int y].toArray) below meth cz sz.heap [] 0 0 Q (F0 mz 11 ls []) := by
    intro fu
    induction fu with
    | zero => intro lo hi h1 h1b h2 h3 hfu; exact absurd hfu (Nat.not_lt_zero _)
    | succ fu ih11 =>
      intro lo hi h1 h1b h2 h3 hfu ls hl
      refine lv_iload hx hb dX6_placeOf_11 (lv_at hl 4 rfl) ?_
      refine lv_iload hx hb dX6_placeOf_13 (lv_at hl 5 rfl) ?_
      refine lv_icmp_ge (tgt := 86) hx hb dX6_placeOf_15 (by decide) (fun c_15 => ?_) (fun c_15 => ?_)
      · replace c_15 : hi ≤ lo := (nI_leI (by omega) (by omega)).mp c_15
        refine lv_iload hx hb dX6_placeOf_86 (lv_at hl 4 rfl) ?_
        refine wM hQ ?_
        exact rtRI hx hb hr hlocks (⟨lo, rfl, by omega, h2, fun i h8 h9 => h3 i (by omega) h9⟩) dX6_placeOf_88
      · replace c_15 : ¬ hi ≤ lo := fun h9 => c_15 ((nI_leI (by omega) (by omega)).mpr h9)
        refine lv_iload hx hb dX6_placeOf_18 (lv_at hl 4 rfl) ?_
        refine lv_iload hx hb dX6_placeOf_20 (lv_at hl 5 rfl) ?_
        refine lv_iadd hx hb dX6_placeOf_22 ?_
        refine lv_topi (fun x_4 ex_4 => ?_)
        obtain rfl : x_4 = nI (lo + hi) := by
          rw [ex_4]
          exact nI_add _ _
        refine lv_iconst (v := nI 1) hx hb dX6_placeOf_23 (by decide) ?_
        refine lv_ishr hx hb dX6_placeOf_24 ?_
        refine lv_topi (fun x_5 ex_5 => ?_)
        obtain rfl : x_5 = nI ((lo + hi) / 2) := by
          rw [ex_5]
          exact pk_shrN (by omega) _ 1 (by decide)
        refine lv_istore (lv' := [(6, .int (nI ((lo + hi) / 2))), (0, .ref m), (1, .int (nI s)), (2, .int x), (3, .int y), (4, .int (nI lo)), (5, .int (nI hi))]) hx hb dX6_placeOf_25 hl (by decide) rfl (fun ls hl => ?_)
        refine lv_sipush (v := nI 3300) hx hb dX6_placeOf_27 (by decide) ?_
        refine lv_iload_n hx hb dX6_placeOf_30 rfl (lv_at hl 2 rfl) ?_
        refine lv_imul hx hb dX6_placeOf_31 ?_
        refine lv_topi (fun x_6 ex_6 => ?_)
        obtain rfl : x_6 = nI (3300 * s) := by
          rw [ex_6]
          exact pk_mul _ _
        refine lv_iload hx hb dX6_placeOf_32 (lv_at hl 0 rfl) ?_
        refine lv_iadd hx hb dX6_placeOf_34 ?_
        refine lv_topi (fun x_7 ex_7 => ?_)
        obtain rfl : x_7 = nI ((3300 * s) + ((lo + hi) / 2)) := by
          rw [ex_7]
          exact nI_add _ _
        refine lv_istore (lv' := [(7, .int (nI ((3300 * s) + ((lo + hi) / 2)))), (6, .int (nI ((lo + hi) / 2))), (0, .ref m), (1, .int (nI s)), (2, .int x), (3, .int y), (4, .int (nI lo)), (5, .int (nI hi))]) hx hb dX6_placeOf_35 hl (by decide) rfl (fun ls hl => ?_)
        refine lv_aload_n hx hb dX6_placeOf_37 rfl (lv_at hl 2 rfl) ?_
        refine va_get (D := X.1) (ci := 6) (v := .ref xr) (C := RX6) (T := TX6) (N := 25) hx hb hts hin6 hown hK hP 0 rfl rfl 5 (by decide) lk13 (fun _ h9 => h9) rfl dX6_placeOf_38 ?_
        refine lv_iload hx hb dX6_placeOf_41 (lv_at hl 0 rfl) ?_
        have hi_8 : vp_in (nI ((3300 * s) + ((lo + hi) / 2))) 6600 := vp_in_nI (by omega) (by omega)
        refine va_iald hx hb hK hP 2 0 rfl rfl hi_8 dX6_placeOf_43 ?_
        refine lv_topi (fun x_9 ex_9 => ?_)
        obtain rfl : x_9 = xf ((3300 * s) + ((lo + hi) / 2)) := by
          rw [ex_9]
          rw [nI_clamp (by omega)]
        refine lv_topi (fun x_10 ex_10 => ?_)
        obtain rfl : x_10 = nI (pK L ((lo + hi) / 2) / 32768) := by
          rw [ex_10]
          exact (hX _ (by omega)).1
        refine lv_iload_n hx hb dX6_placeOf_44 rfl (lv_at hl 4 rfl) ?_
        refine lv_icmp_lt (tgt := 70) hx hb dX6_placeOf_45 (by decide) (fun c_45 => ?_) (fun c_45 => ?_)
        · skip
          have hlx : lexl x y (pK L ((lo + hi) / 2)) := Or.inl c_45
          refine lv_iload hx hb dX6_placeOf_70 (lv_at hl 1 rfl) ?_
          refine lv_iconst (v := nI 1) hx hb dX6_placeOf_72 (by decide) ?_
          refine lv_iadd hx hb dX6_placeOf_73 ?_
          refine lv_topi (fun x_11 ex_11 => ?_)
          obtain rfl : x_11 = nI (((lo + hi) / 2) + 1) := by
            rw [ex_11]
            exact nI_add _ _
          refine lv_istore (lv' := [(4, .int (nI (((lo + hi) / 2) + 1))), (7, .int (nI ((3300 * s) + ((lo + hi) / 2)))), (6, .int (nI ((lo + hi) / 2))), (0, .ref m), (1, .int (nI s)), (2, .int x), (3, .int y), (5, .int (nI hi))]) hx hb dX6_placeOf_74 hl (by decide) rfl (fun ls hl => ?_)
          refine lv_goto (tgt := 83) hx hb dX6_placeOf_76 (by decide) ?_
          refine lv_goto (tgt := 11) hx hb dX6_placeOf_83 (by decide) ?_
          exact ih11 ((lo + hi) / 2 + 1) hi (by omega) (by omega) (by exact pl_lo hL (by omega) hlx) (by exact h3) (by omega) ls (lv_sub hl [3, 4, 5, 6, 0, 7] rfl)
        · skip
          refine lv_aload_n hx hb dX6_placeOf_48 rfl (lv_at hl 2 rfl) ?_
          refine va_get (D := X.1) (ci := 6) (v := .ref xr) (C := RX6) (T := TX6) (N := 25) hx hb hts hin6 hown hK hP 0 rfl rfl 5 (by decide) lk13 (fun _ h9 => h9) rfl dX6_placeOf_49 ?_
          refine lv_iload hx hb dX6_placeOf_52 (lv_at hl 0 rfl) ?_
          have hi_12 : vp_in (nI ((3300 * s) + ((lo + hi) / 2))) 6600 := vp_in_nI (by omega) (by omega)
          refine va_iald hx hb hK hP 2 0 rfl rfl hi_12 dX6_placeOf_54 ?_
          refine lv_topi (fun x_13 ex_13 => ?_)
          obtain rfl : x_13 = xf ((3300 * s) + ((lo + hi) / 2)) := by
            rw [ex_13]
            rw [nI_clamp (by omega)]
          refine lv_topi (fun x_14 ex_14 => ?_)
          obtain rfl : x_14 = nI (pK L ((lo + hi) / 2) / 32768) := by
            rw [ex_14]
            exact (hX _ (by omega)).1
          refine lv_iload_n hx hb dX6_placeOf_55 rfl (lv_at hl 4 rfl) ?_
          refine lv_icmp_ne (tgt := 79) hx hb dX6_placeOf_56 (by decide) (fun c_56 => ?_) (fun c_56 => ?_)
          · skip
            have hlx : ¬ lexl x y (pK L ((lo + hi) / 2)) := fun z => z.elim c_45 (fun w => c_56 w.1)
            refine lv_iload hx hb dX6_placeOf_79 (lv_at hl 1 rfl) ?_
            refine lv_istore (lv' := [(5, .int (nI ((lo + hi) / 2))), (7, .int (nI ((3300 * s) + ((lo + hi) / 2)))), (6, .int (nI ((lo + hi) / 2))), (0, .ref m), (1, .int (nI s)), (2, .int x), (3, .int y), (4, .int (nI lo))]) hx hb dX6_placeOf_81 hl (by decide) rfl (fun ls hl => ?_)
            refine lv_goto (tgt := 11) hx hb dX6_placeOf_83 (by decide) ?_
            exact ih11 lo ((lo + hi) / 2) (by omega) (by omega) (by exact h2) (by exact pl_hi hL hlx) (by omega) ls (lv_sub hl [3, 4, 5, 6, 7, 0] rfl)
          · skip
            refine lv_aload_n hx hb dX6_placeOf_59 rfl (lv_at hl 2 rfl) ?_
            refine va_get (D := X.1) (ci := 6) (v := .ref yr) (C := RX6) (T := TX6) (N := 25) hx hb hts hin6 hown hK hP 0 rfl rfl 6 (by decide) lk16 (fun _ h9 => h9) rfl dX6_placeOf_60 ?_
            refine lv_iload hx hb dX6_placeOf_63 (lv_at hl 0 rfl) ?_
            have hi_15 : vp_in (nI ((3300 * s) + ((lo + hi) / 2))) 6600 := vp_in_nI (by omega) (by omega)
            refine va_iald hx hb hK hP 3 0 rfl rfl hi_15 dX6_placeOf_65 ?_
            refine lv_topi (fun x_16 ex_16 => ?_)
            obtain rfl : x_16 = yf ((3300 * s) + ((lo + hi) / 2)) := by
              rw [ex_16]
              rw [nI_clamp (by omega)]
            refine lv_topi (fun x_17 ex_17 => ?_)
            obtain rfl : x_17 = nI (pK L ((lo + hi) / 2) % 32768) := by
              rw [ex_17]
              exact (hX _ (by omega)).2
            refine lv_iload_n hx hb dX6_placeOf_66 rfl (lv_at hl 5 rfl) ?_
            refine lv_icmp_ge (tgt := 79) hx hb dX6_placeOf_67 (by decide) (fun c_67 => ?_) (fun c_67 => ?_)
            · skip
              have hlx : ¬ lexl x y (pK L ((lo + hi) / 2)) := fun z => z.elim c_45 (fun w => le_nlt c_67 w.2)
              refine lv_iload hx hb dX6_placeOf_79 (lv_at hl 1 rfl) ?_
              refine lv_istore (lv' := [(5, .int (nI ((lo + hi) / 2))), (7, .int (nI ((3300 * s) + ((lo + hi) / 2)))), (6, .int (nI ((lo + hi) / 2))), (0, .ref m), (1, .int (nI s)), (2, .int x), (3, .int y), (4, .int (nI lo))]) hx hb dX6_placeOf_81 hl (by decide) rfl (fun ls hl => ?_)
              refine lv_goto (tgt := 11) hx hb dX6_placeOf_83 (by decide) ?_
              exact ih11 lo ((lo + hi) / 2) (by omega) (by omega) (by exact h2) (by exact pl_hi hL hlx) (by omega) ls (lv_sub hl [3, 4, 5, 6, 7, 0] rfl)
            · skip
              have hlx : lexl x y (pK L ((lo + hi) / 2)) := Or.inr ⟨c_56, Int32.not_le.mp c_67⟩
              refine lv_iload hx hb dX6_placeOf_70 (lv_at hl 1 rfl) ?_
              refine lv_iconst (v := nI 1) hx hb dX6_placeOf_72 (by decide) ?_
              refine lv_iadd hx hb dX6_placeOf_73 ?_
              refine lv_topi (fun x_18 ex_18 => ?_)
              obtain rfl : x_18 = nI (((lo + hi) / 2) + 1) := by
                rw [ex_18]
                exact nI_add _ _
              refine lv_istore (lv' := [(4, .int (nI (((lo + hi) / 2) + 1))), (7, .int (nI ((3300 * s) + ((lo + hi) / 2)))), (6, .int (nI ((lo + hi) / 2))), (0, .ref m), (1, .int (nI s)), (2, .int x), (3, .int y), (5, .int (nI hi))]) hx hb dX6_placeOf_74 hl (by decide) rfl (fun ls hl => ?_)
              refine lv_goto (tgt := 83) hx hb dX6_placeOf_76 (by decide) ?_
              refine lv_goto (tgt := 11) hx hb dX6_placeOf_83 (by decide) ?_
              exact ih11 ((lo + hi) / 2 + 1) hi (by omega) (by omega) (by exact pl_lo hL (by omega) hlx) (by exact h3) (by omega) ls (lv_sub hl [3, 4, 5, 6, 0, 7] rfl)
  exact loop_11 _ 0 L.length (by omega) (by omega) (by exact fun i hi => absurd hi (Nat.not_lt_zero i)) (by exact fun i h8 h9 => absurd h9 (by omega)) (Nat.lt_succ_self _) ls (lv_sub hl [2, 3, 4, 5, 1, 0] rfl)
set_option maxHeartbeats 4000000 in
set_option maxRecDepth 100000 in
theorem c_X6_isAt (l : Launch) (X : kX) (m bl bk b sp mn xr yr vr cr wr nc wl wc rx ry rv fr : Nat) (f_of f_ar f_wt f_lv f_fi f_en f_rs : Int32) (f_cd : Int64) (s k : Nat) (x y : Int32) (mf xf yf : Nat → Int32) (L : PL) (hs : s ≤ 1) (hk0 : k ≤ L.length) (hm : mf s = nI L.length) (hX : mX xf yf s L) (hL : lOk L) : CRi l X yX6_isAt wsX6_isAt 0 [.ref m, .int (nI s), .int (nI k), .int x, .int y] [(m, .inr (6, [.int (nI bl), .int (nI bk), .int (nI b), .int (nI sp), .ref mn, .ref xr, .ref yr, .ref vr, .ref cr, .ref wr, .int (nI nc), .int f_of, .int f_ar, .ref wl, .ref wc, .int f_wt, .int f_lv, .int f_fi, .int f_en, .long f_cd, .ref rx, .ref ry, .ref rv, .ref fr, .int f_rs])), (mn, .inl (X.2.1, 2, .inl mf)), (xr, .inl (X.2.1, 6600, .inl xf)), (yr, .inl (X.2.1, 6600, .inl yf))] (fun r => ((k < L.length ∧ nI (pK L k / 32768) = x ∧ nI (pK L k % 32768) = y) ∧ r = nI 1) ∨ (¬ (k < L.length ∧ nI (pK L k / 32768) = x ∧ nI (pK L k % 32768) = y) ∧ r = nI 0)) := by
  refine Met.ofW (cc := cX6_isAt) (maxL := 5) (ret := some (.boolean)) (by decide) rfl ?_
  intro pz ez sz mz args below meth cz s₁ Bz hml hv
  obtain ⟨rfl, hP, hK, hD0, hN⟩ := hv
  have hx := Bz.exec
  have hb := Bz.bytes
  have hr := Bz.returns
  have hts := atoms_spec (ws := wsX6_isAt) Bz.pre
  have hown : sz.vm.findClass RX6 = some mz.cls := findClass_of_methodNamed Bz.named
  have hlocks := Bz.notSynchronized
  have hD := inW.self hD0
  have hS : va_S (inW [(m, .inr (6, [.int (nI bl), .int (nI bk), .int (nI b), .int (nI sp), .ref mn, .ref xr, .ref yr, .ref vr, .ref cr, .ref wr, .int (nI nc), .int f_of, .int f_ar, .ref wl, .ref wc, .int f_wt, .int f_lv, .int f_fi, .int f_en, .long f_cd, .ref rx, .ref ry, .ref rv, .ref fr, .int f_rs])), (mn, .inl (X.2.1, 2, .inl mf)), (xr, .inl (X.2.1, 6600, .inl xf)), (yr, .inl (X.2.1, 6600, .inl yf))]) sz.heap sz.heap [] := va_S.rf
  have hl := lv_entry ([.ref m, .int (nI s), .int (nI k), .int x, .int y]) (n := 5) (Nat.le_of_ble_eq_true rfl)
  rw [lg_entry_eq]
  generalize (lg_sl ([.ref m, .int (nI s), .int (nI k), .int x, .int y]) ++ List.replicate (5 - (lg_sl ([.ref m, .int (nI s), .int (nI k), .int x, .int y])).length) Slot.unset).toArray = ls at hl ⊢
  have hl : lv_has ls 5 [(0, .ref m), (1, .int (nI s)), (2, .int (nI k)), (3, .int x), (4, .int y)] := hl
  have lk7 := hts (.fieldLink RX6 7 "PointStoreModel" "many" "[I") (by decide +kernel)
  have lk13 := hts (.fieldLink RX6 13 "PointStoreModel" "xs" "[I") (by decide +kernel)
  have lk16 := hts (.fieldLink RX6 16 "PointStoreModel" "ys" "[I") (by decide +kernel)
  have hin6 : ∀ w ∈ u_ws RX6 TX6 25, w ∈ wsX6_isAt := by decide +kernel
  refine wQ (fun Q hQ => ?_)
  generalize hAe : inW [(m, .inr (6, [.int (nI bl), .int (nI bk), .int (nI b), .int (nI sp), .ref mn, .ref xr, .ref yr, .ref vr, .ref cr, .ref wr, .int (nI nc), .int f_of, .int f_ar, .ref wl, .ref wc, .int f_wt, .int f_lv, .int f_fi, .int f_en, .long f_cd, .ref rx, .ref ry, .ref rv, .ref fr, .int f_rs])), (mn, .inl (X.2.1, 2, .inl mf)), (xr, .inl (X.2.1, 6600, .inl xf)), (yr, .inl (X.2.1, 6600, .inl yf))] = A_ at hD hS
  have hlL := hL.1
  refine lv_iload_n hx hb dX6_isAt_0 rfl (lv_at hl 2 rfl) ?_
  refine lv_aload_n hx hb dX6_isAt_1 rfl (lv_at hl 0 rfl) ?_
  refine va_get (D := X.1) (ci := 6) (v := .ref mn) (C := RX6) (T := TX6) (N := 25) hx hb hts hin6 hown hK hP 0 rfl rfl 4 (by decide) lk7 (fun _ h9 => h9) rfl dX6_isAt_2 ?_
  refine lv_iload_n hx hb dX6_isAt_5 rfl (lv_at hl 1 rfl) ?_
  have hi_1 : vp_in (nI s) 2 := vp_in_nI (by omega) (by omega)
  refine va_iald hx hb hK hP 1 0 rfl rfl hi_1 dX6_isAt_6 ?_
  refine lv_topi (fun x_2 ex_2 => ?_)
  obtain rfl : x_2 = mf s := by
    rw [ex_2]
    rw [nI_clamp (by omega)]
  refine lv_topi (fun x_3 ex_3 => ?_)
  obtain rfl : x_3 = nI L.length := by
    rw [ex_3]
    exact hm
  refine lv_icmp_ge (tgt := 47) hx hb dX6_isAt_7 (by decide) (fun c_7 => ?_) (fun c_7 => ?_)
  · replace c_7 : L.length ≤ k := (nI_leI (by omega) (by omega)).mp c_7
    refine lv_iconst (v := nI 0) hx hb dX6_isAt_47 (by decide) ?_
    refine wM hQ ?_
    exact rtRZ hx hb hr hlocks (by decide) (Or.inr ⟨fun z => by first | exact c_40 z.2.2 | exact c_23 z.2.1 | (have := z.1; omega), rfl⟩) dX6_isAt_48
  · replace c_7 : ¬ L.length ≤ k := fun h9 => c_7 ((nI_leI (by omega) (by omega)).mpr h9)
    refine lv_aload_n hx hb dX6_isAt_10 rfl (lv_at hl 0 rfl) ?_
    refine va_get (D := X.1) (ci := 6) (v := .ref xr) (C := RX6) (T := TX6) (N := 25) hx hb hts hin6 hown hK hP 0 rfl rfl 5 (by decide) lk13 (fun _ h9 => h9) rfl dX6_isAt_11 ?_
    refine lv_sipush (v := nI 3300) hx hb dX6_isAt_14 (by decide) ?_
    refine lv_iload_n hx hb dX6_isAt_17 rfl (lv_at hl 1 rfl) ?_
    refine lv_imul hx hb dX6_isAt_18 ?_
    refine lv_topi (fun x_4 ex_4 => ?_)
    obtain rfl : x_4 = nI (3300 * s) := by
      rw [ex_4]
      exact pk_mul _ _
    refine lv_iload_n hx hb dX6_isAt_19 rfl (lv_at hl 2 rfl) ?_
    refine lv_iadd hx hb dX6_isAt_20 ?_
    refine lv_topi (fun x_5 ex_5 => ?_)
    obtain rfl : x_5 = nI ((3300 * s) + k) := by
      rw [ex_5]
      exact nI_add _ _
    have hi_6 : vp_in (nI ((3300 * s) + k)) 6600 := vp_in_nI (by omega) (by omega)
    refine va_iald hx hb hK hP 2 0 rfl rfl hi_6 dX6_isAt_21 ?_
    refine lv_topi (fun x_7 ex_7 => ?_)
    obtain rfl : x_7 = xf ((3300 * s) + k) := by
      rw [ex_7]
      rw [nI_clamp (by omega)]
    refine lv_topi (fun x_8 ex_8 => ?_)
    obtain rfl : x_8 = nI (pK L k / 32768) := by
      rw [ex_8]
      exact (hX _ (by omega)).1
    refine lv_iload_n hx hb dX6_isAt_22 rfl (lv_at hl 3 rfl) ?_
    refine lv_icmp_ne (tgt := 47) hx hb dX6_isAt_23 (by decide) (fun c_23 => ?_) (fun c_23 => ?_)
    · skip
      refine lv_iconst (v := nI 0) hx hb dX6_isAt_47 (by decide) ?_
      refine wM hQ ?_
      exact rtRZ hx hb hr hlocks (by decide) (Or.inr ⟨fun z => by first | exact c_40 z.2.2 | exact c_23 z.2.1 | (have := z.1; omega), rfl⟩) dX6_isAt_48
    · skip
      refine lv_aload_n hx hb dX6_isAt_26 rfl (lv_at hl 0 rfl) ?_
      refine va_get (D := X.1) (ci := 6) (v := .ref yr) (C := RX6) (T := TX6) (N := 25) hx hb hts hin6 hown hK hP 0 rfl rfl 6 (by decide) lk16 (fun _ h9 => h9) rfl dX6_isAt_27 ?_
      refine lv_sipush (v := nI 3300) hx hb dX6_isAt_30 (by decide) ?_
      refine lv_iload_n hx hb dX6_isAt_33 rfl (lv_at hl 1 rfl) ?_
      refine lv_imul hx hb dX6_isAt_34 ?_
      refine lv_topi (fun x_9 ex_9 => ?_)
      obtain rfl : x_9 = nI (3300 * s) := by
        rw [ex_9]
        exact pk_mul _ _
      refine lv_iload_n hx hb dX6_isAt_35 rfl (lv_at hl 2 rfl) ?_
      refine lv_iadd hx hb dX6_isAt_36 ?_
      refine lv_topi (fun x_10 ex_10 => ?_)
      obtain rfl : x_10 = nI ((3300 * s) + k) := by
        rw [ex_10]
        exact nI_add _ _
      have hi_11 : vp_in (nI ((3300 * s) + k)) 6600 := vp_in_nI (by omega) (by omega)
      refine va_iald hx hb hK hP 3 0 rfl rfl hi_11 dX6_isAt_37 ?_
      refine lv_topi (fun x_12 ex_12 => ?_)
      obtain rfl : x_12 = yf ((3300 * s) + k) := by
        rw [ex_12]
        rw [nI_clamp (by omega)]
      refine lv_topi (fun x_13 ex_13 => ?_)
      obtain rfl : x_13 = nI (pK L k % 32768) := by
        rw [ex_13]
        exact (hX _ (by omega)).2
      refine lv_iload hx hb dX6_isAt_38 (lv_at hl 4 rfl) ?_
      refine lv_icmp_ne (tgt := 47) hx hb dX6_isAt_40 (by decide) (fun c_40 => ?_) (fun c_40 => ?_)
      · skip
        refine lv_iconst (v := nI 0) hx hb dX6_isAt_47 (by decide) ?_
        refine wM hQ ?_
        exact rtRZ hx hb hr hlocks (by decide) (Or.inr ⟨fun z => by first | exact c_40 z.2.2 | exact c_23 z.2.1 | (have := z.1; omega), rfl⟩) dX6_isAt_48
      · skip
        refine lv_iconst (v := nI 1) hx hb dX6_isAt_43 (by decide) ?_
        refine lv_goto (tgt := 48) hx hb dX6_isAt_44 (by decide) ?_
        refine wM hQ ?_
        exact rtRZ hx hb hr hlocks (by decide) (Or.inl ⟨⟨by omega, c_23, c_40⟩, rfl⟩) dX6_isAt_48
set_option maxHeartbeats 4000000 in
set_option maxRecDepth 100000 in
theorem c_X6_below (l : Launch) (X : kX) (m bl bk b sp mn xr yr vr cr wr nc wl wc rx ry rv fr : Nat) (f_of f_ar f_wt f_lv f_fi f_en f_rs : Int32) (f_cd : Int64) (s c : Nat) (mf : Nat → Int32) (cf : Nat → Int64) (Z : PL) (hs : s ≤ 1) (hc : c < 2 ^ 62) (hm : mf s = nI Z.length) (hC : mC cf s Z) (hZ : pSort Z) (hZl : Z.length ≤ 512) (hZb : ∀ q ∈ Z, q.1 < 2 ^ 62) : CRi l X yX6_below wsX6_below 0 [.ref m, .int (nI s), .long (lN c)] [(m, .inr (6, [.int (nI bl), .int (nI bk), .int (nI b), .int (nI sp), .ref mn, .ref xr, .ref yr, .ref vr, .ref cr, .ref wr, .int (nI nc), .int f_of, .int f_ar, .ref wl, .ref wc, .int f_wt, .int f_lv, .int f_fi, .int f_en, .long f_cd, .ref rx, .ref ry, .ref rv, .ref fr, .int f_rs])), (mn, .inl (X.2.1, 2, .inl mf)), (cr, .inl (X.2.2, 6600, .inr (.inl cf)))] (fun r => r = nI (rk Z c)) := by
  refine Met.ofW (cc := cX6_below) (maxL := 7) (ret := some (.int)) (by decide) rfl ?_
  intro pz ez sz mz args below meth cz s₁ Bz hml hv
  obtain ⟨rfl, hP, hK, hD0, hN⟩ := hv
  have hx := Bz.exec
  have hb := Bz.bytes
  have hr := Bz.returns
  have hts := atoms_spec (ws := wsX6_below) Bz.pre
  have hown : sz.vm.findClass RX6 = some mz.cls := findClass_of_methodNamed Bz.named
  have hlocks := Bz.notSynchronized
  have hD := inW.self hD0
  have hS : va_S (inW [(m, .inr (6, [.int (nI bl), .int (nI bk), .int (nI b), .int (nI sp), .ref mn, .ref xr, .ref yr, .ref vr, .ref cr, .ref wr, .int (nI nc), .int f_of, .int f_ar, .ref wl, .ref wc, .int f_wt, .int f_lv, .int f_fi, .int f_en, .long f_cd, .ref rx, .ref ry, .ref rv, .ref fr, .int f_rs])), (mn, .inl (X.2.1, 2, .inl mf)), (cr, .inl (X.2.2, 6600, .inr (.inl cf)))]) sz.heap sz.heap [] := va_S.rf
  have hl := lv_entry ([.ref m, .int (nI s), .long (lN c)]) (n := 7) (Nat.le_of_ble_eq_true rfl)
  rw [lg_entry_eq]
  generalize (lg_sl ([.ref m, .int (nI s), .long (lN c)]) ++ List.replicate (7 - (lg_sl ([.ref m, .int (nI s), .long (lN c)])).length) Slot.unset).toArray = ls at hl ⊢
  have hl : lv_has ls 7 [(0, .ref m), (1, .int (nI s)), (2, .long (lN c))] := hl
  have lk7 := hts (.fieldLink RX6 7 "PointStoreModel" "many" "[I") (by decide +kernel)
  have lk22 := hts (.fieldLink RX6 22 "PointStoreModel" "codes" "[J") (by decide +kernel)
  have hin6 : ∀ w ∈ u_ws RX6 TX6 25, w ∈ wsX6_below := by decide +kernel
  refine wQ (fun Q hQ => ?_)
  generalize hAe : inW [(m, .inr (6, [.int (nI bl), .int (nI bk), .int (nI b), .int (nI sp), .ref mn, .ref xr, .ref yr, .ref vr, .ref cr, .ref wr, .int (nI nc), .int f_of, .int f_ar, .ref wl, .ref wc, .int f_wt, .int f_lv, .int f_fi, .int f_en, .long f_cd, .ref rx, .ref ry, .ref rv, .ref fr, .int f_rs])), (mn, .inl (X.2.1, 2, .inl mf)), (cr, .inl (X.2.2, 6600, .inr (.inl cf)))] = A_ at hD hS
  have hrl := rk_le Z c
  refine lv_iconst (v := nI 0) hx hb dX6_below_0 (by decide) ?_
  refine lv_istore (lv' := [(4, .int (nI 0)), (0, .ref m), (1, .int (nI s)), (2, .long (lN c))]) hx hb dX6_below_1 hl (by decide) rfl (fun ls hl => ?_)
  refine lv_aload_n hx hb dX6_below_3 rfl (lv_at hl 1 rfl) ?_
  refine va_get (D := X.1) (ci := 6) (v := .ref mn) (C := RX6) (T := TX6) (N := 25) hx hb hts hin6 hown hK hP 0 rfl rfl 4 (by decide) lk7 (fun _ h9 => h9) rfl dX6_below_4 ?_
  refine lv_iload_n hx hb dX6_below_7 rfl (lv_at hl 2 rfl) ?_
  have hi_1 : vp_in (nI s) 2 := vp_in_nI (by omega) (by omega)
  refine va_iald hx hb hK hP 1 0 rfl rfl hi_1 dX6_below_8 ?_
  refine lv_topi (fun x_2 ex_2 => ?_)
  obtain rfl : x_2 = mf s := by
    rw [ex_2]
    rw [nI_clamp (by omega)]
  refine lv_topi (fun x_3 ex_3 => ?_)
  obtain rfl : x_3 = nI Z.length := by
    rw [ex_3]
    exact hm
  refine lv_istore (lv' := [(5, .int (nI Z.length)), (4, .int (nI 0)), (0, .ref m), (1, .int (nI s)), (2, .long (lN c))]) hx hb dX6_below_9 hl (by decide) rfl (fun ls hl => ?_)
  have loop_11 : ∀ (fu : Nat) (lo : Nat) (hi : Nat), (lo ≤ rk Z c) → (rk Z c ≤ hi) → (hi ≤ Z.length) → hi - lo < fu → ∀ (ls : Array Slot), lv_has ls 7 [(0, .ref m), (1, .int (nI s)), (2, .long (lN c)), (4, .int (nI lo)), (5, .int (nI hi))] → W pz l ez (headSpec wsX6_below (rmk 0)).room sz mz ([.ref m, .int (nI s), .long (lN c)].toArray) below meth cz sz.heap [] 0 0 Q (F0 mz 11 ls []) := by
    intro fu
    induction fu with
    | zero => intro lo hi h1 h2 h3 hfu; exact absurd hfu (Nat.not_lt_zero _)
    | succ fu ih11 =>
      intro lo hi h1 h2 h3 hfu ls hl
      refine lv_iload hx hb dX6_below_11 (lv_at hl 3 rfl) ?_
      refine lv_iload hx hb dX6_below_13 (lv_at hl 4 rfl) ?_
      refine lv_icmp_ge (tgt := 61) hx hb dX6_below_15 (by decide) (fun c_15 => ?_) (fun c_15 => ?_)
      · replace c_15 : hi ≤ lo := (nI_leI (by omega) (by omega)).mp c_15
        refine lv_iload hx hb dX6_below_61 (lv_at hl 3 rfl) ?_
        refine wM hQ ?_
        exact rtRI hx hb hr hlocks ((by show nI _ = nI _; congr 1; omega)) dX6_below_63
      · replace c_15 : ¬ hi ≤ lo := fun h9 => c_15 ((nI_leI (by omega) (by omega)).mpr h9)
        refine lv_iload hx hb dX6_below_18 (lv_at hl 3 rfl) ?_
        refine lv_iload hx hb dX6_below_20 (lv_at hl 4 rfl) ?_
        refine lv_iadd hx hb dX6_below_22 ?_
        refine lv_topi (fun x_4 ex_4 => ?_)
        obtain rfl : x_4 = nI (lo + hi) := by
          rw [ex_4]
          exact nI_add _ _
        refine lv_iconst (v := nI 1) hx hb dX6_below_23 (by decide) ?_
        refine lv_ishr hx hb dX6_below_24 ?_
        refine lv_topi (fun x_5 ex_5 => ?_)
        obtain rfl : x_5 = nI ((lo + hi) / 2) := by
          rw [ex_5]
          exact pk_shrN (by omega) _ 1 (by decide)
        refine lv_istore (lv' := [(6, .int (nI ((lo + hi) / 2))), (0, .ref m), (1, .int (nI s)), (2, .long (lN c)), (4, .int (nI lo)), (5, .int (nI hi))]) hx hb dX6_below_25 hl (by decide) rfl (fun ls hl => ?_)
        refine lv_aload_n hx hb dX6_below_27 rfl (lv_at hl 1 rfl) ?_
        refine va_get (D := X.1) (ci := 6) (v := .ref cr) (C := RX6) (T := TX6) (N := 25) hx hb hts hin6 hown hK hP 0 rfl rfl 8 (by decide) lk22 (fun _ h9 => h9) rfl dX6_below_28 ?_
        refine lv_sipush (v := nI 3300) hx hb dX6_below_31 (by decide) ?_
        refine lv_iload_n hx hb dX6_below_34 rfl (lv_at hl 2 rfl) ?_
        refine lv_imul hx hb dX6_below_35 ?_
        refine lv_topi (fun x_6 ex_6 => ?_)
        obtain rfl : x_6 = nI (3300 * s) := by
          rw [ex_6]
          exact pk_mul _ _
        refine lv_iload hx hb dX6_below_36 (lv_at hl 0 rfl) ?_
        refine lv_iadd hx hb dX6_below_38 ?_
        refine lv_topi (fun x_7 ex_7 => ?_)
        obtain rfl : x_7 = nI ((3300 * s) + ((lo + hi) / 2)) := by
          rw [ex_7]
          exact nI_add _ _
        have hi_8 : vp_in (nI ((3300 * s) + ((lo + hi) / 2))) 6600 := vp_in_nI (by omega) (by omega)
        refine va_lald hx hb hK hP 2 1 rfl rfl hi_8 dX6_below_39 ?_
        refine lv_topl (fun x_9 ex_9 => ?_)
        obtain rfl : x_9 = cf ((3300 * s) + ((lo + hi) / 2)) := by
          rw [ex_9]
          rw [nI_clamp (by omega)]
        refine lv_topl (fun x_10 ex_10 => ?_)
        obtain rfl : x_10 = lN (pK Z ((lo + hi) / 2)) := by
          rw [ex_10]
          exact hC _ (by omega)
        refine lv_lload_n hx hb dX6_below_40 rfl (lv_at hl 3 rfl) ?_
        have hzb : pK Z ((lo + hi) / 2) < 2 ^ 62 := hZb _ (pK_mem (by omega))
        refine W.lcmp hx hb dX6_below_41 ?_
        refine lv_if_ge (tgt := 54) hx hb dX6_below_42 (by decide) (fun c_42 => ?_) (fun c_42 => ?_)
        · skip
          have q0 := lg_ge hzb hc c_42
          have q1 : rk Z c ≤ (lo + hi) / 2 := by
            rcases Nat.lt_or_ge ((lo + hi) / 2) (rk Z c) with z | z
            · have := rk_lt Z c _ z
              omega
            · exact z
          refine lv_iload hx hb dX6_below_54 (lv_at hl 0 rfl) ?_
          refine lv_istore (lv' := [(5, .int (nI ((lo + hi) / 2))), (6, .int (nI ((lo + hi) / 2))), (0, .ref m), (1, .int (nI s)), (2, .long (lN c)), (4, .int (nI lo))]) hx hb dX6_below_56 hl (by decide) rfl (fun ls hl => ?_)
          refine lv_goto (tgt := 11) hx hb dX6_below_58 (by decide) ?_
          exact ih11 lo ((lo + hi) / 2) (by omega) (by omega) (by omega) (by omega) ls (lv_sub hl [2, 3, 4, 5, 0] rfl)
        · skip
          have q0 := lg_nge hzb hc c_42
          have q1 : (lo + hi) / 2 < rk Z c := by
            rcases Nat.lt_or_ge ((lo + hi) / 2) (rk Z c) with z | z
            · exact z
            · have := rk_ge Z c _ hZ z (by omega)
              omega
          refine lv_iload hx hb dX6_below_45 (lv_at hl 0 rfl) ?_
          refine lv_iconst (v := nI 1) hx hb dX6_below_47 (by decide) ?_
          refine lv_iadd hx hb dX6_below_48 ?_
          refine lv_topi (fun x_11 ex_11 => ?_)
          obtain rfl : x_11 = nI (((lo + hi) / 2) + 1) := by
            rw [ex_11]
            exact nI_add _ _
          refine lv_istore (lv' := [(4, .int (nI (((lo + hi) / 2) + 1))), (6, .int (nI ((lo + hi) / 2))), (0, .ref m), (1, .int (nI s)), (2, .long (lN c)), (5, .int (nI hi))]) hx hb dX6_below_49 hl (by decide) rfl (fun ls hl => ?_)
          refine lv_goto (tgt := 58) hx hb dX6_below_51 (by decide) ?_
          refine lv_goto (tgt := 11) hx hb dX6_below_58 (by decide) ?_
          exact ih11 ((lo + hi) / 2 + 1) hi (by omega) (by omega) (by omega) (by omega) ls (lv_sub hl [2, 3, 4, 0, 5] rfl)
  exact loop_11 _ 0 Z.length (by omega) (by omega) (by omega) (Nat.lt_succ_self _) ls (lv_sub hl [2, 3, 4, 1, 0] rfl)
set_option maxHeartbeats 4000000 in
set_option maxRecDepth 100000 in
theorem c_X6_codeOf (l : Launch) (X : kX) (m bl bk b sp mn xr yr vr cr wr nc wl wc rx ry rv fr : Nat) (f_of f_ar f_wt f_lv f_fi f_en f_rs : Int32) (f_cd : Int64) (x y : Nat) (hb1 : b ≤ 15) (hx0 : x < 32768) (hy0 : y < 32768) : CRl l X yX6_codeOf wsX6_codeOf 0 [.ref m, .int (nI x), .int (nI y)] [(m, .inr (6, [.int (nI bl), .int (nI bk), .int (nI b), .int (nI sp), .ref mn, .ref xr, .ref yr, .ref vr, .ref cr, .ref wr, .int (nI nc), .int f_of, .int f_ar, .ref wl, .ref wc, .int f_wt, .int f_lv, .int f_fi, .int f_en, .long f_cd, .ref rx, .ref ry, .ref rv, .ref fr, .int f_rs]))] (fun r => r = lN (zc b x y)) := by
  refine Met.ofW (cc := cX6_codeOf) (maxL := 6) (ret := some (.long)) (by decide) rfl ?_
  intro pz ez sz mz args below meth cz s₁ Bz hml hv
  obtain ⟨rfl, hP, hK, hD0, hN⟩ := hv
  have hx := Bz.exec
  have hb := Bz.bytes
  have hr := Bz.returns
  have hts := atoms_spec (ws := wsX6_codeOf) Bz.pre
  have hown : sz.vm.findClass RX6 = some mz.cls := findClass_of_methodNamed Bz.named
  have hlocks := Bz.notSynchronized
  have hD := inW.self hD0
  have hS : va_S (inW [(m, .inr (6, [.int (nI bl), .int (nI bk), .int (nI b), .int (nI sp), .ref mn, .ref xr, .ref yr, .ref vr, .ref cr, .ref wr, .int (nI nc), .int f_of, .int f_ar, .ref wl, .ref wc, .int f_wt, .int f_lv, .int f_fi, .int f_en, .long f_cd, .ref rx, .ref ry, .ref rv, .ref fr, .int f_rs]))]) sz.heap sz.heap [] := va_S.rf
  have hl := lv_entry ([.ref m, .int (nI x), .int (nI y)]) (n := 6) (Nat.le_of_ble_eq_true rfl)
  rw [lg_entry_eq]
  generalize (lg_sl ([.ref m, .int (nI x), .int (nI y)]) ++ List.replicate (6 - (lg_sl ([.ref m, .int (nI x), .int (nI y)])).length) Slot.unset).toArray = ls at hl ⊢
  have hl : lv_has ls 6 [(0, .ref m), (1, .int (nI x)), (2, .int (nI y))] := hl
  have lk57 := hts (.fieldLink RX6 57 "PointStoreModel" "bits" "I") (by decide +kernel)
  have hin6 : ∀ w ∈ u_ws RX6 TX6 25, w ∈ wsX6_codeOf := by decide +kernel
  refine wQ (fun Q hQ => ?_)
  generalize hAe : inW [(m, .inr (6, [.int (nI bl), .int (nI bk), .int (nI b), .int (nI sp), .ref mn, .ref xr, .ref yr, .ref vr, .ref cr, .ref wr, .int (nI nc), .int f_of, .int f_ar, .ref wl, .ref wc, .int f_wt, .int f_lv, .int f_fi, .int f_en, .long f_cd, .ref rx, .ref ry, .ref rv, .ref fr, .int f_rs]))] = A_ at hD hS
  refine lv_lconst (v := lN 0) hx hb dX6_codeOf_0 (by decide) ?_
  refine lv_lstore_n (lv' := [(3, .long (lN 0)), (0, .ref m), (1, .int (nI x)), (2, .int (nI y))]) hx hb dX6_codeOf_1 rfl hl (by decide) rfl (fun ls hl => ?_)
  refine lv_aload_n hx hb dX6_codeOf_2 rfl (lv_at hl 1 rfl) ?_
  refine va_get (D := X.1) (ci := 6) (v := .int (nI b)) (C := RX6) (T := TX6) (N := 25) hx hb hts hin6 hown hK hP 0 rfl rfl 2 (by decide) lk57 (fun _ h9 => h9) rfl dX6_codeOf_3 ?_
  refine lv_iconst (v := nI 1) hx hb dX6_codeOf_6 (by decide) ?_
  refine lv_isub hx hb dX6_codeOf_7 ?_
  refine lv_istore (lv' := [(5, .int ((nI b) - (nI 1))), (3, .long (lN 0)), (0, .ref m), (1, .int (nI x)), (2, .int (nI y))]) hx hb dX6_codeOf_8 hl (by decide) rfl (fun ls hl => ?_)
  have loop_10 : ∀ (fu : Nat) (g : Nat), (g ≤ b) → g < fu → ∀ (ls : Array Slot), lv_has ls 6 [(0, .ref m), (1, .int (nI x)), (2, .int (nI y)), (3, .long (lN (zc (b - g) (x / 2 ^ g) (y / 2 ^ g)))), (5, .int (im g))] → W pz l ez (headSpec wsX6_codeOf (rmk 0)).room sz mz ([.ref m, .int (nI x), .int (nI y)].toArray) below meth cz sz.heap [] 0 0 Q (F0 mz 10 ls []) := by
    intro fu
    induction fu with
    | zero => intro g h1 hfu; exact absurd hfu (Nat.not_lt_zero _)
    | succ fu ih10 =>
      intro g h1 hfu ls hl
      rcases Nat.eq_zero_or_pos g with hz | hz
      · skip
        subst hz
        rw [show im 0 = -1 from by decide] at hl
        refine lv_iload hx hb dX6_codeOf_10 (lv_at hl 4 rfl) ?_
        refine lv_if_lt (tgt := 43) hx hb dX6_codeOf_12 (by decide) (fun c_12 => ?_) (fun c_12 => ?_)
        · skip
          refine lv_lload_n hx hb dX6_codeOf_43 rfl (lv_at hl 3 rfl) ?_
          refine wM hQ ?_
          exact rtRL hx hb hr hlocks ((by show lN _ = lN _; rw [Nat.pow_zero, Nat.div_one, Nat.div_one, Nat.sub_zero])) dX6_codeOf_44
        · exact absurd c_12 (by decide)
      · skip
        obtain ⟨e, rfl⟩ : ∃ e, g = e + 1 := ⟨g - 1, by omega⟩
        rw [show im (e + 1) = nI e from nI_pred e] at hl
        have hzl := zc_lt (b - (e + 1)) (x / 2 ^ (e + 1)) (y / 2 ^ (e + 1))
        have hz4 : 4 ^ (b - (e + 1)) ≤ 4 ^ 14 := Nat.pow_le_pow_right (by decide) (by omega)
        have hyd := Nat.div_le_self y (2 ^ e)
        have hxd := Nat.div_le_self x (2 ^ e)
        refine lv_iload hx hb dX6_codeOf_10 (lv_at hl 4 rfl) ?_
        refine lv_if_lt (tgt := 43) hx hb dX6_codeOf_12 (by decide) (fun c_12 => ?_) (fun c_12 => ?_)
        · exact absurd c_12 (by first | exact nI_pos (by omega) | exact fun h9 => h9 (nI_pos' (by omega)))
        · change ¬ (nI e < nI 0) at c_12
          replace c_12 : ¬ e < 0 := fun h9 => c_12 ((nI_ltI (by omega) (by omega)).mpr h9)
          refine lv_lload_n hx hb dX6_codeOf_15 rfl (lv_at hl 3 rfl) ?_
          refine lv_iconst (v := nI 2) hx hb dX6_codeOf_16 (by decide) ?_
          refine lv_lshl (v := (lN (zc (b - (e + 1)) (x / 2 ^ (e + 1)) (y / 2 ^ (e + 1)))) <<< ((nI 2).toInt64 &&& 63)) hx hb dX6_codeOf_17 rfl ?_
          refine lv_topl (fun x_1 ex_1 => ?_)
          obtain rfl : x_1 = lN (zc (b - (e + 1)) (x / 2 ^ (e + 1)) (y / 2 ^ (e + 1)) * 2 ^ 2) := by
            rw [ex_1]
            exact wb_shl _ (by decide)
          refine lv_iload_n hx hb dX6_codeOf_18 rfl (lv_at hl 2 rfl) ?_
          refine lv_iload hx hb dX6_codeOf_19 (lv_at hl 4 rfl) ?_
          refine lv_ishr hx hb dX6_codeOf_21 ?_
          refine lv_topi (fun x_2 ex_2 => ?_)
          obtain rfl : x_2 = nI (y / 2 ^ e) := by
            rw [ex_2]
            exact pk_shrN (by omega) _ e (s_l e (by omega))
          refine lv_iconst (v := nI 1) hx hb dX6_codeOf_22 (by decide) ?_
          refine lv_iand hx hb dX6_codeOf_23 ?_
          refine lv_topi (fun x_3 ex_3 => ?_)
          obtain rfl : x_3 = nI (y / 2 ^ e % 2) := by
            rw [ex_3]
            exact pk_andN (by omega) 1 (by decide)
          refine lv_iconst (v := nI 1) hx hb dX6_codeOf_24 (by decide) ?_
          refine lv_ishl hx hb dX6_codeOf_25 ?_
          refine lv_topi (fun x_4 ex_4 => ?_)
          obtain rfl : x_4 = nI (y / 2 ^ e % 2 * 2) := by
            rw [ex_4]
            exact pk_shlN _ 1 (by decide) (by omega)
          refine lv_i2l (v := lN (y / 2 ^ e % 2 * 2)) hx hb dX6_codeOf_26 (nI_l (by omega)) ?_
          refine lv_lor hx hb dX6_codeOf_27 ?_
          refine lv_topl (fun x_5 ex_5 => ?_)
          obtain rfl : x_5 = lN (zc (b - (e + 1)) (x / 2 ^ (e + 1)) (y / 2 ^ (e + 1)) * 2 ^ 2 + y / 2 ^ e % 2 * 2) := by
            rw [ex_5]
            rw [wb_or (by omega) (by omega), or_add (by omega)]
          refine lv_iload_n hx hb dX6_codeOf_28 rfl (lv_at hl 1 rfl) ?_
          refine lv_iload hx hb dX6_codeOf_29 (lv_at hl 4 rfl) ?_
          refine lv_ishr hx hb dX6_codeOf_31 ?_
          refine lv_topi (fun x_6 ex_6 => ?_)
          obtain rfl : x_6 = nI (x / 2 ^ e) := by
            rw [ex_6]
            exact pk_shrN (by omega) _ e (s_l e (by omega))
          refine lv_iconst (v := nI 1) hx hb dX6_codeOf_32 (by decide) ?_
          refine lv_iand hx hb dX6_codeOf_33 ?_
          refine lv_topi (fun x_7 ex_7 => ?_)
          obtain rfl : x_7 = nI (x / 2 ^ e % 2) := by
            rw [ex_7]
            exact pk_andN (by omega) 1 (by decide)
          refine lv_i2l (v := lN (x / 2 ^ e % 2)) hx hb dX6_codeOf_34 (nI_l (by omega)) ?_
          refine lv_lor hx hb dX6_codeOf_35 ?_
          refine lv_topl (fun x_8 ex_8 => ?_)
          obtain rfl : x_8 = lN (zc (b - e) (x / 2 ^ e) (y / 2 ^ e)) := by
            rw [ex_8]
            rw [wb_or (by omega) (by omega), zc_bit1]
            rw [zc_step (by omega)]
          refine lv_lstore_n (lv' := [(3, .long (lN (zc (b - e) (x / 2 ^ e) (y / 2 ^ e)))), (0, .ref m), (1, .int (nI x)), (2, .int (nI y)), (5, .int (nI e))]) hx hb dX6_codeOf_36 rfl hl (by decide) rfl (fun ls hl => ?_)
          refine lv_iinc (v := im e) (lv' := [(5, .int (im e)), (3, .long (lN (zc (b - e) (x / 2 ^ e) (y / 2 ^ e)))), (0, .ref m), (1, .int (nI x)), (2, .int (nI y))]) hx hb dX6_codeOf_37 hl (k := 4) rfl (by show _ = nI e - nI 1; rw [show Int32.ofInt (-1) = -nI 1 from by decide, Int32.sub_eq_add_neg]) (by decide) rfl (fun ls hl => ?_)
          refine lv_goto (tgt := 10) hx hb dX6_codeOf_40 (by decide) ?_
          exact ih10 e (by omega) (by omega) ls (lv_sub hl [2, 3, 4, 1, 0] rfl)
  have hl : lv_has ls 6 [(5, .int (im b)), (3, .long (lN (zc (b - b) (x / 2 ^ b) (y / 2 ^ b)))), (0, .ref m), (1, .int (nI x)), (2, .int (nI y))] := by
    rw [Nat.sub_self]
    exact hl
  exact loop_10 _ b (by omega) (Nat.lt_succ_self _) ls (lv_sub hl [2, 3, 4, 1, 0] rfl)
