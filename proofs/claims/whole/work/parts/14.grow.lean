/-! Tree.grow: contracts, laid by program (wip/gen/spec_grow.py) -/
set_option maxHeartbeats 4000000 in
set_option maxRecDepth 100000 in
theorem c_X4_grow_0 (l : Launch) (X : kX) (t p k v fa oa bk b N  x y lv w fr to_ : Nat) (f_mo : Int32) (kf vf ff o : Nat → Int32) (L : PL) (F : List Nd) (A S B : List Nat) (h : ptOk kf vf L) (hF : fOk ff F) (hFN : F.length ≤ N) (hN4 : N ≤ 401) (ho : oOk o (A ++ S ++ B) L.length) (hln : (A ++ S ++ B).length ≤ 512) (hfr : fr = A.length) (hto : to_ = A.length + S.length) (hb0 : lv + (0) = b) (hb1 : b ≤ 15) (hbk : 1 ≤ bk) (hbk2 : bk ≤ 8) (hx0 : x + 2 ^ (0) ≤ 32768) (hy0 : y + 2 ^ (0) ≤ 32768) (hnd : S.Nodup) (hrg : ∀ i ∈ S, inS L x y (2 ^ (0)) i = true) (hxa : ∃ t, x = t * 2 ^ (0)) (hya : ∃ t, y = t * 2 ^ (0)) : CWv l X yX4_grow wsX4_grow 3 [.ref t, .int (nI fr), .int (nI to_), .int (nI x), .int (nI y), .int (nI lv)] [(t, .inr (4, [.ref p, .int (nI bk), .int (nI b), .int (nI N), .ref fa, .ref oa, .int (nI F.length), .int (nI (dpt b F)), .int f_mo])), (p, .inr (2, [.ref k, .ref v, .int (nI L.length), .int (nI w)])), (k, .inl (X.2.1, 512, .inl kf)), (v, .inl (X.2.1, 512, .inl vf)), (fa, .inl (X.2.1, 6 * N, .inl ff)), (oa, .inl (X.2.1, 512, .inl o))] (S := (Nat → Int32) × (Nat → Int32) × List Nat) (fun u => fOk u.1 (gF bk 0 x y N (ps L S) F) ∧ oOk u.2.1 (A ++ u.2.2 ++ B) L.length ∧ u.2.2.Perm S) (fun ⟨ff2, o2, S2⟩ => [(t, .inr (4, [.ref p, .int (nI bk), .int (nI b), .int (nI N), .ref fa, .ref oa, .int (nI ((gF bk 0 x y N (ps L S) F).length)), .int (nI (dpt b (gF bk 0 x y N (ps L S) F))), .int f_mo])), (p, .inr (2, [.ref k, .ref v, .int (nI L.length), .int (nI w)])), (k, .inl (X.2.1, 512, .inl kf)), (v, .inl (X.2.1, 512, .inl vf)), (fa, .inl (X.2.1, 6 * N, .inl ff2)), (oa, .inl (X.2.1, 512, .inl o2))]) := by
  refine Met.ofW (cc := cX4_grow) (maxL := 14) (ret := none) (by decide) rfl ?_
  intro pz ez sz mz args below meth cz s₁ Bz hml hv
  obtain ⟨rfl, hP, hK, hD0, hN⟩ := hv
  have hx := Bz.exec
  have hb := Bz.bytes
  have hr := Bz.returns
  have hts := atoms_spec (ws := wsX4_grow) Bz.pre
  have hown : sz.vm.findClass RX4 = some mz.cls := findClass_of_methodNamed Bz.named
  have hlocks := Bz.notSynchronized
  have hD := inW.self hD0
  have hS : va_S (inW [(t, .inr (4, [.ref p, .int (nI bk), .int (nI b), .int (nI N), .ref fa, .ref oa, .int (nI F.length), .int (nI (dpt b F)), .int f_mo])), (p, .inr (2, [.ref k, .ref v, .int (nI L.length), .int (nI w)])), (k, .inl (X.2.1, 512, .inl kf)), (v, .inl (X.2.1, 512, .inl vf)), (fa, .inl (X.2.1, 6 * N, .inl ff)), (oa, .inl (X.2.1, 512, .inl o))]) sz.heap sz.heap [] := va_S.rf
  have hl := lv_entry ([.ref t, .int (nI fr), .int (nI to_), .int (nI x), .int (nI y), .int (nI lv)]) (n := 14) (Nat.le_of_ble_eq_true rfl)
  rw [lg_entry_eq]
  generalize (lg_sl ([.ref t, .int (nI fr), .int (nI to_), .int (nI x), .int (nI y), .int (nI lv)]) ++ List.replicate (14 - (lg_sl ([.ref t, .int (nI fr), .int (nI to_), .int (nI x), .int (nI y), .int (nI lv)])).length) Slot.unset).toArray = ls at hl ⊢
  have hl : lv_has ls 14 [(0, .ref t), (1, .int (nI fr)), (2, .int (nI to_)), (3, .int (nI x)), (4, .int (nI y)), (5, .int (nI lv))] := hl
  have lk15 := hts (.fieldLink RX4 15 "PointStore$Tree" "nodes" "I") (by decide +kernel)
  have lk19 := hts (.fieldLink RX4 19 "PointStore$Tree" "depth" "I") (by decide +kernel)
  have lk29 := hts (.fieldLink RX4 29 "PointStore$Tree" "bucket" "I") (by decide +kernel)
  have lk32 := hts (.fieldLink RX4 32 "PointStore$Tree" "bits" "I") (by decide +kernel)
  have lk35 := hts (.fieldLink RX4 35 "PointStore$Tree" "mostNodes" "I") (by decide +kernel)
  have lk38 := hts (.fieldLink RX4 38 "PointStore$Tree" "facts" "[I") (by decide +kernel)
  have hin4 : ∀ w ∈ u_ws RX4 TX4 9, w ∈ wsX4_grow := by decide +kernel
  refine wQ (fun Q hQ => ?_)
  generalize hAe : inW [(t, .inr (4, [.ref p, .int (nI bk), .int (nI b), .int (nI N), .ref fa, .ref oa, .int (nI F.length), .int (nI (dpt b F)), .int f_mo])), (p, .inr (2, [.ref k, .ref v, .int (nI L.length), .int (nI w)])), (k, .inl (X.2.1, 512, .inl kf)), (v, .inl (X.2.1, 512, .inl vf)), (fa, .inl (X.2.1, 6 * N, .inl ff)), (oa, .inl (X.2.1, 512, .inl o))] = A_ at hD hS hQ
  subst hfr
  subst hto
  have hL := h.1
  have hdp := dpt_le b F
  have hpw : 2 ^ (0) ≤ 32768 := by omega
  simp only [List.length_append] at hln
  have hob : ∀ i ∈ S, i < L.length := fun i hi => ho.2 i (by simp [hi])
  refine lv_iload hx hb dX4_grow_0 (lv_at hl 5 rfl) ?_
  refine lv_aload_n hx hb dX4_grow_2 rfl (lv_at hl 0 rfl) ?_
  refine va_get (D := X.1) (ci := 4) (v := .int (nI b)) (C := RX4) (T := TX4) (N := 9) hx hb hts hin4 hown hK hP 0 rfl rfl 2 (by decide) lk32 (fun _ h9 => h9) rfl dX4_grow_3 ?_
  refine lv_icmp_gt (tgt := 20) hx hb dX4_grow_6 (by decide) (fun c_6 => ?_) (fun c_6 => ?_)
  · replace c_6 : b < lv := (nI_ltI (by omega) (by omega)).mp c_6
    omega
  · replace c_6 : ¬ b < lv := fun h9 => c_6 ((nI_ltI (by omega) (by omega)).mpr h9)
    refine lv_aload_n hx hb dX4_grow_9 rfl (lv_at hl 0 rfl) ?_
    refine va_get (D := X.1) (ci := 4) (v := .int (nI F.length)) (C := RX4) (T := TX4) (N := 9) hx hb hts hin4 hown hK hP 0 rfl rfl 6 (by decide) lk15 (fun _ h9 => h9) rfl dX4_grow_10 ?_
    refine lv_aload_n hx hb dX4_grow_13 rfl (lv_at hl 0 rfl) ?_
    refine va_get (D := X.1) (ci := 4) (v := .int (nI N)) (C := RX4) (T := TX4) (N := 9) hx hb hts hin4 hown hK hP 0 rfl rfl 3 (by decide) lk35 (fun _ h9 => h9) rfl dX4_grow_14 ?_
    refine lv_icmp_lt (tgt := 21) hx hb dX4_grow_17 (by decide) (fun c_17 => ?_) (fun c_17 => ?_)
    · replace c_17 : F.length < N := (nI_ltI (by omega) (by omega)).mp c_17
      refine lv_iconst (v := nI 1) hx hb dX4_grow_21 (by decide) ?_
      refine lv_aload_n hx hb dX4_grow_22 rfl (lv_at hl 0 rfl) ?_
      refine va_get (D := X.1) (ci := 4) (v := .int (nI b)) (C := RX4) (T := TX4) (N := 9) hx hb hts hin4 hown hK hP 0 rfl rfl 2 (by decide) lk32 (fun _ h9 => h9) rfl dX4_grow_23 ?_
      refine lv_iload hx hb dX4_grow_26 (lv_at hl 5 rfl) ?_
      refine lv_isub hx hb dX4_grow_28 ?_
      refine lv_topi (fun x_1 ex_1 => ?_)
      obtain rfl : x_1 = nI 0 := by
        rw [ex_1]
        rw [pk_sub (by omega)]
        congr 1
        omega
      refine lv_ishl hx hb dX4_grow_29 ?_
      refine lv_topi (fun x_2 ex_2 => ?_)
      obtain rfl : x_2 = nI (2 ^ (0)) := by
        rw [ex_2]
        exact bI_1shl (by omega)
      refine lv_istore (lv' := [(6, .int (nI (2 ^ (0)))), (0, .ref t), (1, .int (nI A.length)), (2, .int (nI (A.length + S.length))), (3, .int (nI x)), (4, .int (nI y)), (5, .int (nI lv))]) hx hb dX4_grow_30 hl (by decide) rfl (fun ls hl => ?_)
      refine lv_aload_n hx hb dX4_grow_32 rfl (lv_at hl 1 rfl) ?_
      refine va_get (D := X.1) (ci := 4) (v := .int (nI F.length)) (C := RX4) (T := TX4) (N := 9) hx hb hts hin4 hown hK hP 0 rfl rfl 6 (by decide) lk15 (fun _ h9 => h9) rfl dX4_grow_33 ?_
      refine lv_bipush (v := nI 6) hx hb dX4_grow_36 (by decide) ?_
      refine lv_imul hx hb dX4_grow_38 ?_
      refine lv_topi (fun x_3 ex_3 => ?_)
      obtain rfl : x_3 = nI (F.length * 6) := by
        rw [ex_3]
        exact pk_mul _ _
      refine lv_istore (lv' := [(7, .int (nI (F.length * 6))), (6, .int (nI (2 ^ (0)))), (0, .ref t), (1, .int (nI A.length)), (2, .int (nI (A.length + S.length))), (3, .int (nI x)), (4, .int (nI y)), (5, .int (nI lv))]) hx hb dX4_grow_39 hl (by decide) rfl (fun ls hl => ?_)
      refine lv_aload_n hx hb dX4_grow_41 rfl (lv_at hl 2 rfl) ?_
      refine lv_dup hx hb dX4_grow_42 rfl ?_
      refine va_get (D := X.1) (ci := 4) (v := .int (nI F.length)) (C := RX4) (T := TX4) (N := 9) hx hb hts hin4 hown hK hP 0 rfl rfl 6 (by decide) lk15 (fun _ h9 => h9) rfl dX4_grow_43 ?_
      refine lv_iconst (v := nI 1) hx hb dX4_grow_46 (by decide) ?_
      refine lv_iadd hx hb dX4_grow_47 ?_
      refine lv_topi (fun x_4 ex_4 => ?_)
      obtain rfl : x_4 = nI (F.length + 1) := by
        rw [ex_4]
        exact nI_add _ _
      refine va_put (D := X.1) (ci := 4) (v := .int (nI (F.length + 1))) (ty := .int) (C := RX4) (T := TX4) (N := 9) hx hb hts hin4 tyX4 tyX4_ok nmX4 hown hK hP hD hS 0 rfl rfl 6 (by decide) lk15 (fun _ h9 => h9) rfl (by decide +kernel) rfl rfl (Nat.le_of_ble_eq_true rfl) dX4_grow_48 (fun H locs hP hD hS => ?_)
      have hP : va_P X.1 vwCl [(t, .inr (4, [.ref p, .int (nI bk), .int (nI b), .int (nI N), .ref fa, .ref oa, .int (nI (F.length + 1)), .int (nI (dpt b F)), .int f_mo])), (p, .inr (2, [.ref k, .ref v, .int (nI L.length), .int (nI w)])), (k, .inl (X.2.1, 512, .inl kf)), (v, .inl (X.2.1, 512, .inl vf)), (fa, .inl (X.2.1, 6 * N, .inl ff)), (oa, .inl (X.2.1, 512, .inl o))] H := hP
      have hD : va_D A_ [(t, .inr (4, [.ref p, .int (nI bk), .int (nI b), .int (nI N), .ref fa, .ref oa, .int (nI (F.length + 1)), .int (nI (dpt b F)), .int f_mo])), (p, .inr (2, [.ref k, .ref v, .int (nI L.length), .int (nI w)])), (k, .inl (X.2.1, 512, .inl kf)), (v, .inl (X.2.1, 512, .inl vf)), (fa, .inl (X.2.1, 6 * N, .inl ff)), (oa, .inl (X.2.1, 512, .inl o))] := hD
      refine lv_aload_n hx hb dX4_grow_51 rfl (lv_at hl 2 rfl) ?_
      refine lv_aload_n hx hb dX4_grow_52 rfl (lv_at hl 2 rfl) ?_
      refine va_get (D := X.1) (ci := 4) (v := .int (nI (dpt b F))) (C := RX4) (T := TX4) (N := 9) hx hb hts hin4 hown hK hP 0 rfl rfl 7 (by decide) lk19 (fun _ h9 => h9) rfl dX4_grow_53 ?_
      refine lv_iload hx hb dX4_grow_56 (lv_at hl 7 rfl) ?_
      refine va_mmax hx hb (hml.trans hl.1.symm) hown (hts (.methodLink RX4 53 Lib.Math.max.name) (by decide +kernel)) (hts (.static Lib.Math.max.name) (by decide +kernel)) (hts (.initialized "java/lang/Math") (by decide +kernel)) (hts (.code Lib.Math.max.name Lib.Math.max.code 2 (some .int)) (by decide +kernel)) (Nat.le_of_ble_eq_true rfl) (Nat.le_of_ble_eq_true rfl) (Nat.zero_le _) (Nat.zero_le _) dX4_grow_58 ?_
      refine lv_topi (fun x_5 ex_5 => ?_)
      obtain rfl : x_5 = nI (max (dpt b F) lv) := by
        rw [ex_5]
        exact mmax_nI (by omega) (by omega)
      refine va_put (D := X.1) (ci := 4) (v := .int (nI (max (dpt b F) lv))) (ty := .int) (C := RX4) (T := TX4) (N := 9) hx hb hts hin4 tyX4 tyX4_ok nmX4 hown hK hP hD hS 0 rfl rfl 7 (by decide) lk19 (fun _ h9 => h9) rfl (by decide +kernel) rfl rfl (Nat.le_of_ble_eq_true rfl) dX4_grow_61 (fun H locs hP hD hS => ?_)
      have hP : va_P X.1 vwCl [(t, .inr (4, [.ref p, .int (nI bk), .int (nI b), .int (nI N), .ref fa, .ref oa, .int (nI (F.length + 1)), .int (nI (max (dpt b F) lv)), .int f_mo])), (p, .inr (2, [.ref k, .ref v, .int (nI L.length), .int (nI w)])), (k, .inl (X.2.1, 512, .inl kf)), (v, .inl (X.2.1, 512, .inl vf)), (fa, .inl (X.2.1, 6 * N, .inl ff)), (oa, .inl (X.2.1, 512, .inl o))] H := hP
      have hD : va_D A_ [(t, .inr (4, [.ref p, .int (nI bk), .int (nI b), .int (nI N), .ref fa, .ref oa, .int (nI (F.length + 1)), .int (nI (max (dpt b F) lv)), .int f_mo])), (p, .inr (2, [.ref k, .ref v, .int (nI L.length), .int (nI w)])), (k, .inl (X.2.1, 512, .inl kf)), (v, .inl (X.2.1, 512, .inl vf)), (fa, .inl (X.2.1, 6 * N, .inl ff)), (oa, .inl (X.2.1, 512, .inl o))] := hD
      refine lv_aload_n hx hb dX4_grow_64 rfl (lv_at hl 2 rfl) ?_
      refine va_get (D := X.1) (ci := 4) (v := .ref fa) (C := RX4) (T := TX4) (N := 9) hx hb hts hin4 hown hK hP 0 rfl rfl 4 (by decide) lk38 (fun _ h9 => h9) rfl dX4_grow_65 ?_
      refine lv_iload hx hb dX4_grow_68 (lv_at hl 0 rfl) ?_
      refine lv_iload hx hb dX4_grow_70 (lv_at hl 1 rfl) ?_
      have hi_6 : vp_in (nI (F.length * 6)) (6 * N) := vp_in_nI (by omega) (by omega)
      refine va_iast hx hb hK hP hD hS 4 0 rfl rfl hi_6 dX4_grow_72 (fun H locs hP hD hS => ?_)
      rw [nI_clamp (by omega)] at hP hD
      have hP : va_P X.1 vwCl [(t, .inr (4, [.ref p, .int (nI bk), .int (nI b), .int (nI N), .ref fa, .ref oa, .int (nI (F.length + 1)), .int (nI (max (dpt b F) lv)), .int f_mo])), (p, .inr (2, [.ref k, .ref v, .int (nI L.length), .int (nI w)])), (k, .inl (X.2.1, 512, .inl kf)), (v, .inl (X.2.1, 512, .inl vf)), (fa, .inl (X.2.1, 6 * N, .inl (upd ff (F.length * 6) (nI (2 ^ (0)))))), (oa, .inl (X.2.1, 512, .inl o))] H := hP
      have hD : va_D A_ [(t, .inr (4, [.ref p, .int (nI bk), .int (nI b), .int (nI N), .ref fa, .ref oa, .int (nI (F.length + 1)), .int (nI (max (dpt b F) lv)), .int f_mo])), (p, .inr (2, [.ref k, .ref v, .int (nI L.length), .int (nI w)])), (k, .inl (X.2.1, 512, .inl kf)), (v, .inl (X.2.1, 512, .inl vf)), (fa, .inl (X.2.1, 6 * N, .inl (upd ff (F.length * 6) (nI (2 ^ (0)))))), (oa, .inl (X.2.1, 512, .inl o))] := hD
      refine lv_aload_n hx hb dX4_grow_73 rfl (lv_at hl 2 rfl) ?_
      refine va_get (D := X.1) (ci := 4) (v := .ref fa) (C := RX4) (T := TX4) (N := 9) hx hb hts hin4 hown hK hP 0 rfl rfl 4 (by decide) lk38 (fun _ h9 => h9) rfl dX4_grow_74 ?_
      refine lv_iload hx hb dX4_grow_77 (lv_at hl 0 rfl) ?_
      refine lv_iconst (v := nI 1) hx hb dX4_grow_79 (by decide) ?_
      refine lv_iadd hx hb dX4_grow_80 ?_
      refine lv_topi (fun x_7 ex_7 => ?_)
      obtain rfl : x_7 = nI ((F.length * 6) + 1) := by
        rw [ex_7]
        exact nI_add _ _
      refine lv_iload_n hx hb dX4_grow_81 rfl (lv_at hl 5 rfl) ?_
      have hi_8 : vp_in (nI ((F.length * 6) + 1)) (6 * N) := vp_in_nI (by omega) (by omega)
      refine va_iast hx hb hK hP hD hS 4 0 rfl rfl hi_8 dX4_grow_82 (fun H locs hP hD hS => ?_)
      rw [nI_clamp (by omega)] at hP hD
      have hP : va_P X.1 vwCl [(t, .inr (4, [.ref p, .int (nI bk), .int (nI b), .int (nI N), .ref fa, .ref oa, .int (nI (F.length + 1)), .int (nI (max (dpt b F) lv)), .int f_mo])), (p, .inr (2, [.ref k, .ref v, .int (nI L.length), .int (nI w)])), (k, .inl (X.2.1, 512, .inl kf)), (v, .inl (X.2.1, 512, .inl vf)), (fa, .inl (X.2.1, 6 * N, .inl (upd (upd ff (F.length * 6) (nI (2 ^ (0)))) ((F.length * 6) + 1) (nI x)))), (oa, .inl (X.2.1, 512, .inl o))] H := hP
      have hD : va_D A_ [(t, .inr (4, [.ref p, .int (nI bk), .int (nI b), .int (nI N), .ref fa, .ref oa, .int (nI (F.length + 1)), .int (nI (max (dpt b F) lv)), .int f_mo])), (p, .inr (2, [.ref k, .ref v, .int (nI L.length), .int (nI w)])), (k, .inl (X.2.1, 512, .inl kf)), (v, .inl (X.2.1, 512, .inl vf)), (fa, .inl (X.2.1, 6 * N, .inl (upd (upd ff (F.length * 6) (nI (2 ^ (0)))) ((F.length * 6) + 1) (nI x)))), (oa, .inl (X.2.1, 512, .inl o))] := hD
      refine lv_aload_n hx hb dX4_grow_83 rfl (lv_at hl 2 rfl) ?_
      refine va_get (D := X.1) (ci := 4) (v := .ref fa) (C := RX4) (T := TX4) (N := 9) hx hb hts hin4 hown hK hP 0 rfl rfl 4 (by decide) lk38 (fun _ h9 => h9) rfl dX4_grow_84 ?_
      refine lv_iload hx hb dX4_grow_87 (lv_at hl 0 rfl) ?_
      refine lv_iconst (v := nI 2) hx hb dX4_grow_89 (by decide) ?_
      refine lv_iadd hx hb dX4_grow_90 ?_
      refine lv_topi (fun x_9 ex_9 => ?_)
      obtain rfl : x_9 = nI ((F.length * 6) + 2) := by
        rw [ex_9]
        exact nI_add _ _
      refine lv_iload hx hb dX4_grow_91 (lv_at hl 6 rfl) ?_
      have hi_10 : vp_in (nI ((F.length * 6) + 2)) (6 * N) := vp_in_nI (by omega) (by omega)
      refine va_iast hx hb hK hP hD hS 4 0 rfl rfl hi_10 dX4_grow_93 (fun H locs hP hD hS => ?_)
      rw [nI_clamp (by omega)] at hP hD
      have hP : va_P X.1 vwCl [(t, .inr (4, [.ref p, .int (nI bk), .int (nI b), .int (nI N), .ref fa, .ref oa, .int (nI (F.length + 1)), .int (nI (max (dpt b F) lv)), .int f_mo])), (p, .inr (2, [.ref k, .ref v, .int (nI L.length), .int (nI w)])), (k, .inl (X.2.1, 512, .inl kf)), (v, .inl (X.2.1, 512, .inl vf)), (fa, .inl (X.2.1, 6 * N, .inl (upd (upd (upd ff (F.length * 6) (nI (2 ^ (0)))) ((F.length * 6) + 1) (nI x)) ((F.length * 6) + 2) (nI y)))), (oa, .inl (X.2.1, 512, .inl o))] H := hP
      have hD : va_D A_ [(t, .inr (4, [.ref p, .int (nI bk), .int (nI b), .int (nI N), .ref fa, .ref oa, .int (nI (F.length + 1)), .int (nI (max (dpt b F) lv)), .int f_mo])), (p, .inr (2, [.ref k, .ref v, .int (nI L.length), .int (nI w)])), (k, .inl (X.2.1, 512, .inl kf)), (v, .inl (X.2.1, 512, .inl vf)), (fa, .inl (X.2.1, 6 * N, .inl (upd (upd (upd ff (F.length * 6) (nI (2 ^ (0)))) ((F.length * 6) + 1) (nI x)) ((F.length * 6) + 2) (nI y)))), (oa, .inl (X.2.1, 512, .inl o))] := hD
      refine lv_aload_n hx hb dX4_grow_94 rfl (lv_at hl 2 rfl) ?_
      refine va_get (D := X.1) (ci := 4) (v := .ref fa) (C := RX4) (T := TX4) (N := 9) hx hb hts hin4 hown hK hP 0 rfl rfl 4 (by decide) lk38 (fun _ h9 => h9) rfl dX4_grow_95 ?_
      refine lv_iload hx hb dX4_grow_98 (lv_at hl 0 rfl) ?_
      refine lv_iconst (v := nI 3) hx hb dX4_grow_100 (by decide) ?_
      refine lv_iadd hx hb dX4_grow_101 ?_
      refine lv_topi (fun x_11 ex_11 => ?_)
      obtain rfl : x_11 = nI ((F.length * 6) + 3) := by
        rw [ex_11]
        exact nI_add _ _
      refine lv_iload_n hx hb dX4_grow_102 rfl (lv_at hl 4 rfl) ?_
      refine lv_iload_n hx hb dX4_grow_103 rfl (lv_at hl 3 rfl) ?_
      refine lv_isub hx hb dX4_grow_104 ?_
      refine lv_topi (fun x_12 ex_12 => ?_)
      obtain rfl : x_12 = nI S.length := by
        rw [ex_12]
        rw [pk_sub (by omega)]
        congr 1
        omega
      have hi_13 : vp_in (nI ((F.length * 6) + 3)) (6 * N) := vp_in_nI (by omega) (by omega)
      refine va_iast hx hb hK hP hD hS 4 0 rfl rfl hi_13 dX4_grow_105 (fun H locs hP hD hS => ?_)
      rw [nI_clamp (by omega)] at hP hD
      have hP : va_P X.1 vwCl [(t, .inr (4, [.ref p, .int (nI bk), .int (nI b), .int (nI N), .ref fa, .ref oa, .int (nI (F.length + 1)), .int (nI (max (dpt b F) lv)), .int f_mo])), (p, .inr (2, [.ref k, .ref v, .int (nI L.length), .int (nI w)])), (k, .inl (X.2.1, 512, .inl kf)), (v, .inl (X.2.1, 512, .inl vf)), (fa, .inl (X.2.1, 6 * N, .inl (upd (upd (upd (upd ff (F.length * 6) (nI (2 ^ (0)))) ((F.length * 6) + 1) (nI x)) ((F.length * 6) + 2) (nI y)) ((F.length * 6) + 3) (nI S.length)))), (oa, .inl (X.2.1, 512, .inl o))] H := hP
      have hD : va_D A_ [(t, .inr (4, [.ref p, .int (nI bk), .int (nI b), .int (nI N), .ref fa, .ref oa, .int (nI (F.length + 1)), .int (nI (max (dpt b F) lv)), .int f_mo])), (p, .inr (2, [.ref k, .ref v, .int (nI L.length), .int (nI w)])), (k, .inl (X.2.1, 512, .inl kf)), (v, .inl (X.2.1, 512, .inl vf)), (fa, .inl (X.2.1, 6 * N, .inl (upd (upd (upd (upd ff (F.length * 6) (nI (2 ^ (0)))) ((F.length * 6) + 1) (nI x)) ((F.length * 6) + 2) (nI y)) ((F.length * 6) + 3) (nI S.length)))), (oa, .inl (X.2.1, 512, .inl o))] := hD
      refine lv_aload_n hx hb dX4_grow_106 rfl (lv_at hl 2 rfl) ?_
      refine va_get (D := X.1) (ci := 4) (v := .ref fa) (C := RX4) (T := TX4) (N := 9) hx hb hts hin4 hown hK hP 0 rfl rfl 4 (by decide) lk38 (fun _ h9 => h9) rfl dX4_grow_107 ?_
      refine lv_iload hx hb dX4_grow_110 (lv_at hl 0 rfl) ?_
      refine lv_iconst (v := nI 4) hx hb dX4_grow_112 (by decide) ?_
      refine lv_iadd hx hb dX4_grow_113 ?_
      refine lv_topi (fun x_14 ex_14 => ?_)
      obtain rfl : x_14 = nI ((F.length * 6) + 4) := by
        rw [ex_14]
        exact nI_add _ _
      refine lv_iconst (v := nI 0) hx hb dX4_grow_114 (by decide) ?_
      have hi_15 : vp_in (nI ((F.length * 6) + 4)) (6 * N) := vp_in_nI (by omega) (by omega)
      refine va_iast hx hb hK hP hD hS 4 0 rfl rfl hi_15 dX4_grow_115 (fun H locs hP hD hS => ?_)
      rw [nI_clamp (by omega)] at hP hD
      have hP : va_P X.1 vwCl [(t, .inr (4, [.ref p, .int (nI bk), .int (nI b), .int (nI N), .ref fa, .ref oa, .int (nI (F.length + 1)), .int (nI (max (dpt b F) lv)), .int f_mo])), (p, .inr (2, [.ref k, .ref v, .int (nI L.length), .int (nI w)])), (k, .inl (X.2.1, 512, .inl kf)), (v, .inl (X.2.1, 512, .inl vf)), (fa, .inl (X.2.1, 6 * N, .inl (upd (upd (upd (upd (upd ff (F.length * 6) (nI (2 ^ (0)))) ((F.length * 6) + 1) (nI x)) ((F.length * 6) + 2) (nI y)) ((F.length * 6) + 3) (nI S.length)) ((F.length * 6) + 4) (nI 0)))), (oa, .inl (X.2.1, 512, .inl o))] H := hP
      have hD : va_D A_ [(t, .inr (4, [.ref p, .int (nI bk), .int (nI b), .int (nI N), .ref fa, .ref oa, .int (nI (F.length + 1)), .int (nI (max (dpt b F) lv)), .int f_mo])), (p, .inr (2, [.ref k, .ref v, .int (nI L.length), .int (nI w)])), (k, .inl (X.2.1, 512, .inl kf)), (v, .inl (X.2.1, 512, .inl vf)), (fa, .inl (X.2.1, 6 * N, .inl (upd (upd (upd (upd (upd ff (F.length * 6) (nI (2 ^ (0)))) ((F.length * 6) + 1) (nI x)) ((F.length * 6) + 2) (nI y)) ((F.length * 6) + 3) (nI S.length)) ((F.length * 6) + 4) (nI 0)))), (oa, .inl (X.2.1, 512, .inl o))] := hD
      refine lv_aload_n hx hb dX4_grow_116 rfl (lv_at hl 2 rfl) ?_
      refine va_get (D := X.1) (ci := 4) (v := .ref fa) (C := RX4) (T := TX4) (N := 9) hx hb hts hin4 hown hK hP 0 rfl rfl 4 (by decide) lk38 (fun _ h9 => h9) rfl dX4_grow_117 ?_
      refine lv_iload hx hb dX4_grow_120 (lv_at hl 0 rfl) ?_
      refine lv_iconst (v := nI 5) hx hb dX4_grow_122 (by decide) ?_
      refine lv_iadd hx hb dX4_grow_123 ?_
      refine lv_topi (fun x_16 ex_16 => ?_)
      obtain rfl : x_16 = nI ((F.length * 6) + 5) := by
        rw [ex_16]
        exact nI_add _ _
      refine lv_aload_n hx hb dX4_grow_124 rfl (lv_at hl 2 rfl) ?_
      refine lv_iload_n hx hb dX4_grow_125 rfl (lv_at hl 3 rfl) ?_
      refine lv_iload_n hx hb dX4_grow_126 rfl (lv_at hl 4 rfl) ?_
      refine ckVRi (As := [.int (nI A.length), .int (nI (A.length + S.length))]) (rest := [.int (nI ((F.length * 6) + 5)), .ref fa]) 0 [0, 1, 3, 5] (c_X4_lowBitsOf l X t p k v fa oa bk b N (F.length + 1) (max (dpt b F) lv) f_mo w A.length (A.length + S.length) kf vf o L A S B h ho (by simp only [List.length_append]; omega) rfl rfl) ⟨hx, hb, hml, hown, hts⟩ (cwV 2 hts gX4_grow_X4_lowBitsOf rfl rfl rfl (by decide +kernel) ⟨Nat.le_of_ble_eq_true rfl, Nat.le_of_ble_eq_true rfl⟩) hK hN hP hD (by decide) rfl (ci := 4) rfl rfl rfl hl.1 rfl (Nat.le_of_ble_eq_true rfl) dX4_grow_127 ⟨Nat.zero_le _, Nat.zero_le _⟩ (fun r_17 hc_127 => ?_)
      subst hc_127
      have hi_18 : vp_in (nI ((F.length * 6) + 5)) (6 * N) := vp_in_nI (by omega) (by omega)
      refine va_iast hx hb hK hP hD hS 4 0 rfl rfl hi_18 dX4_grow_130 (fun H locs hP hD hS => ?_)
      rw [nI_clamp (by omega)] at hP hD
      rw [show upd (upd (upd (upd (upd (upd ff (F.length * 6) (nI (2 ^ (0)))) ((F.length * 6) + 1) (nI x)) ((F.length * 6) + 2) (nI y)) ((F.length * 6) + 3) (nI S.length)) ((F.length * 6) + 4) (nI 0)) ((F.length * 6) + 5) (nI (low (ps L S))) = set6 ff F.length (nI (2 ^ (0))) (nI x) (nI y) (nI S.length) (nI 0) (nI (low (ps L S))) from rfl] at hP hD
      have hP : va_P X.1 vwCl [(t, .inr (4, [.ref p, .int (nI bk), .int (nI b), .int (nI N), .ref fa, .ref oa, .int (nI (F.length + 1)), .int (nI (max (dpt b F) lv)), .int f_mo])), (p, .inr (2, [.ref k, .ref v, .int (nI L.length), .int (nI w)])), (k, .inl (X.2.1, 512, .inl kf)), (v, .inl (X.2.1, 512, .inl vf)), (fa, .inl (X.2.1, 6 * N, .inl (set6 ff F.length (nI (2 ^ (0))) (nI x) (nI y) (nI S.length) (nI 0) (nI (low (ps L S)))))), (oa, .inl (X.2.1, 512, .inl o))] H := hP
      have hD : va_D A_ [(t, .inr (4, [.ref p, .int (nI bk), .int (nI b), .int (nI N), .ref fa, .ref oa, .int (nI (F.length + 1)), .int (nI (max (dpt b F) lv)), .int f_mo])), (p, .inr (2, [.ref k, .ref v, .int (nI L.length), .int (nI w)])), (k, .inl (X.2.1, 512, .inl kf)), (v, .inl (X.2.1, 512, .inl vf)), (fa, .inl (X.2.1, 6 * N, .inl (set6 ff F.length (nI (2 ^ (0))) (nI x) (nI y) (nI S.length) (nI 0) (nI (low (ps L S)))))), (oa, .inl (X.2.1, 512, .inl o))] := hD
      have hpush : fOk (set6 ff F.length (nI (2 ^ (0))) (nI x) (nI y) (nI S.length) (nI 0) (nI (low (ps L S)))) (F ++ [(0, x, y, (ps L S).length, 0, low (ps L S))]) := by
        rw [ps_len]
        exact fOk_push hF (0, x, y, S.length, 0, low (ps L S))
      have hdpt : max (dpt b F) lv = dpt b (F ++ [(0, x, y, (ps L S).length, 0, low (ps L S))]) := by
        rw [dpt_app]
        show _ = max _ (max (b - (0)) 0)
        omega
      refine lv_iload_n hx hb dX4_grow_131 rfl (lv_at hl 4 rfl) ?_
      refine lv_iload_n hx hb dX4_grow_132 rfl (lv_at hl 3 rfl) ?_
      refine lv_isub hx hb dX4_grow_133 ?_
      refine lv_topi (fun x_19 ex_19 => ?_)
      obtain rfl : x_19 = nI S.length := by
        rw [ex_19]
        rw [pk_sub (by omega)]
        congr 1
        omega
      refine lv_aload_n hx hb dX4_grow_134 rfl (lv_at hl 2 rfl) ?_
      refine va_get (D := X.1) (ci := 4) (v := .int (nI bk)) (C := RX4) (T := TX4) (N := 9) hx hb hts hin4 hown hK hP 0 rfl rfl 1 (by decide) lk29 (fun _ h9 => h9) rfl dX4_grow_135 ?_
      refine lv_icmp_gt (tgt := 142) hx hb dX4_grow_138 (by decide) (fun c_138 => ?_) (fun c_138 => ?_)
      · replace c_138 : bk < S.length := (nI_ltI (by omega) (by omega)).mp c_138
        have hr1 := reg1 h.2.2.1 hob hnd hrg
        omega
      · replace c_138 : ¬ bk < S.length := fun h9 => c_138 ((nI_ltI (by omega) (by omega)).mpr h9)
        have hlf := gF_leaf0 (bk := bk) (x := x) (y := y) (P := ps L S) c_17
        rw [show F.length + 1 = (gF bk 0 x y N (ps L S) F).length from by rw [hlf]; simp, show max (dpt b F) lv = dpt b (gF bk 0 x y N (ps L S) F) from by rw [hlf]; exact hdpt] at hP
        refine wM hQ ?_
        exact rtV (set6 ff F.length (nI (2 ^ (0))) (nI x) (nI y) (nI S.length) (nI 0) (nI (low (ps L S))), o, S) hx hb hr hlocks hP hS (⟨by show fOk _ _; rw [hlf]; exact hpush, ho, List.Perm.refl _⟩) dX4_grow_141
    · replace c_17 : ¬ F.length < N := fun h9 => c_17 ((nI_ltI (by omega) (by omega)).mpr h9)
      have hfl := gF_full (bk := bk) (d := 0) (x := x) (y := y) (P := ps L S) (F := F) (N := N) (by omega)
      refine wM hQ ?_
      exact rtV (ff, o, S) hx hb hr hlocks (by show va_P X.1 vwCl [(t, .inr (4, [.ref p, .int (nI bk), .int (nI b), .int (nI N), .ref fa, .ref oa, .int (nI ((gF bk 0 x y N (ps L S) F).length)), .int (nI (dpt b (gF bk 0 x y N (ps L S) F))), .int f_mo])), (p, .inr (2, [.ref k, .ref v, .int (nI L.length), .int (nI w)])), (k, .inl (X.2.1, 512, .inl kf)), (v, .inl (X.2.1, 512, .inl vf)), (fa, .inl (X.2.1, 6 * N, .inl ff)), (oa, .inl (X.2.1, 512, .inl o))] _; rw [hfl]; exact hP) hS (⟨by show fOk ff _; rw [hfl]; exact hF, ho, List.Perm.refl _⟩) dX4_grow_20
set_option maxHeartbeats 4000000 in
set_option maxRecDepth 100000 in
theorem c_X4_grow_s (l : Launch) (X : kX) (d : Nat) (ihd : ∀ (t p k v fa oa bk b N  x y lv w fr to_ : Nat) (f_mo : Int32) (kf vf ff o : Nat → Int32) (L : PL) (F : List Nd) (A S B : List Nat) (h : ptOk kf vf L) (hF : fOk ff F) (hFN : F.length ≤ N) (hN4 : N ≤ 401) (ho : oOk o (A ++ S ++ B) L.length) (hln : (A ++ S ++ B).length ≤ 512) (hfr : fr = A.length) (hto : to_ = A.length + S.length) (hb0 : lv + (d) = b) (hb1 : b ≤ 15) (hbk : 1 ≤ bk) (hbk2 : bk ≤ 8) (hx0 : x + 2 ^ (d) ≤ 32768) (hy0 : y + 2 ^ (d) ≤ 32768) (hnd : S.Nodup) (hrg : ∀ i ∈ S, inS L x y (2 ^ (d)) i = true) (hxa : ∃ t, x = t * 2 ^ (d)) (hya : ∃ t, y = t * 2 ^ (d)), CWv l X yX4_grow wsX4_grow (d + 3) [.ref t, .int (nI fr), .int (nI to_), .int (nI x), .int (nI y), .int (nI lv)] [(t, .inr (4, [.ref p, .int (nI bk), .int (nI b), .int (nI N), .ref fa, .ref oa, .int (nI F.length), .int (nI (dpt b F)), .int f_mo])), (p, .inr (2, [.ref k, .ref v, .int (nI L.length), .int (nI w)])), (k, .inl (X.2.1, 512, .inl kf)), (v, .inl (X.2.1, 512, .inl vf)), (fa, .inl (X.2.1, 6 * N, .inl ff)), (oa, .inl (X.2.1, 512, .inl o))] (S := (Nat → Int32) × (Nat → Int32) × List Nat) (fun u => fOk u.1 (gF bk d x y N (ps L S) F) ∧ oOk u.2.1 (A ++ u.2.2 ++ B) L.length ∧ u.2.2.Perm S) (fun ⟨ff2, o2, S2⟩ => [(t, .inr (4, [.ref p, .int (nI bk), .int (nI b), .int (nI N), .ref fa, .ref oa, .int (nI ((gF bk d x y N (ps L S) F).length)), .int (nI (dpt b (gF bk d x y N (ps L S) F))), .int f_mo])), (p, .inr (2, [.ref k, .ref v, .int (nI L.length), .int (nI w)])), (k, .inl (X.2.1, 512, .inl kf)), (v, .inl (X.2.1, 512, .inl vf)), (fa, .inl (X.2.1, 6 * N, .inl ff2)), (oa, .inl (X.2.1, 512, .inl o2))])) (t p k v fa oa bk b N  x y lv w fr to_ : Nat) (f_mo : Int32) (kf vf ff o : Nat → Int32) (L : PL) (F : List Nd) (A S B : List Nat) (h : ptOk kf vf L) (hF : fOk ff F) (hFN : F.length ≤ N) (hN4 : N ≤ 401) (ho : oOk o (A ++ S ++ B) L.length) (hln : (A ++ S ++ B).length ≤ 512) (hfr : fr = A.length) (hto : to_ = A.length + S.length) (hb0 : lv + (d + 1) = b) (hb1 : b ≤ 15) (hbk : 1 ≤ bk) (hbk2 : bk ≤ 8) (hx0 : x + 2 ^ (d + 1) ≤ 32768) (hy0 : y + 2 ^ (d + 1) ≤ 32768) (hnd : S.Nodup) (hrg : ∀ i ∈ S, inS L x y (2 ^ (d + 1)) i = true) (hxa : ∃ t, x = t * 2 ^ (d + 1)) (hya : ∃ t, y = t * 2 ^ (d + 1)) : CWv l X yX4_grow wsX4_grow (d + 1 + 3) [.ref t, .int (nI fr), .int (nI to_), .int (nI x), .int (nI y), .int (nI lv)] [(t, .inr (4, [.ref p, .int (nI bk), .int (nI b), .int (nI N), .ref fa, .ref oa, .int (nI F.length), .int (nI (dpt b F)), .int f_mo])), (p, .inr (2, [.ref k, .ref v, .int (nI L.length), .int (nI w)])), (k, .inl (X.2.1, 512, .inl kf)), (v, .inl (X.2.1, 512, .inl vf)), (fa, .inl (X.2.1, 6 * N, .inl ff)), (oa, .inl (X.2.1, 512, .inl o))] (S := (Nat → Int32) × (Nat → Int32) × List Nat) (fun u => fOk u.1 (gF bk (d + 1) x y N (ps L S) F) ∧ oOk u.2.1 (A ++ u.2.2 ++ B) L.length ∧ u.2.2.Perm S) (fun ⟨ff2, o2, S2⟩ => [(t, .inr (4, [.ref p, .int (nI bk), .int (nI b), .int (nI N), .ref fa, .ref oa, .int (nI ((gF bk (d + 1) x y N (ps L S) F).length)), .int (nI (dpt b (gF bk (d + 1) x y N (ps L S) F))), .int f_mo])), (p, .inr (2, [.ref k, .ref v, .int (nI L.length), .int (nI w)])), (k, .inl (X.2.1, 512, .inl kf)), (v, .inl (X.2.1, 512, .inl vf)), (fa, .inl (X.2.1, 6 * N, .inl ff2)), (oa, .inl (X.2.1, 512, .inl o2))]) := by
  refine Met.ofW (cc := cX4_grow) (maxL := 14) (ret := none) (by decide) rfl ?_
  intro pz ez sz mz args below meth cz s₁ Bz hml hv
  obtain ⟨rfl, hP, hK, hD0, hN⟩ := hv
  have hx := Bz.exec
  have hb := Bz.bytes
  have hr := Bz.returns
  have hts := atoms_spec (ws := wsX4_grow) Bz.pre
  have hown : sz.vm.findClass RX4 = some mz.cls := findClass_of_methodNamed Bz.named
  have hlocks := Bz.notSynchronized
  have hD := inW.self hD0
  have hS : va_S (inW [(t, .inr (4, [.ref p, .int (nI bk), .int (nI b), .int (nI N), .ref fa, .ref oa, .int (nI F.length), .int (nI (dpt b F)), .int f_mo])), (p, .inr (2, [.ref k, .ref v, .int (nI L.length), .int (nI w)])), (k, .inl (X.2.1, 512, .inl kf)), (v, .inl (X.2.1, 512, .inl vf)), (fa, .inl (X.2.1, 6 * N, .inl ff)), (oa, .inl (X.2.1, 512, .inl o))]) sz.heap sz.heap [] := va_S.rf
  have hl := lv_entry ([.ref t, .int (nI fr), .int (nI to_), .int (nI x), .int (nI y), .int (nI lv)]) (n := 14) (Nat.le_of_ble_eq_true rfl)
  rw [lg_entry_eq]
  generalize (lg_sl ([.ref t, .int (nI fr), .int (nI to_), .int (nI x), .int (nI y), .int (nI lv)]) ++ List.replicate (14 - (lg_sl ([.ref t, .int (nI fr), .int (nI to_), .int (nI x), .int (nI y), .int (nI lv)])).length) Slot.unset).toArray = ls at hl ⊢
  have hl : lv_has ls 14 [(0, .ref t), (1, .int (nI fr)), (2, .int (nI to_)), (3, .int (nI x)), (4, .int (nI y)), (5, .int (nI lv))] := hl
  have lk15 := hts (.fieldLink RX4 15 "PointStore$Tree" "nodes" "I") (by decide +kernel)
  have lk19 := hts (.fieldLink RX4 19 "PointStore$Tree" "depth" "I") (by decide +kernel)
  have lk29 := hts (.fieldLink RX4 29 "PointStore$Tree" "bucket" "I") (by decide +kernel)
  have lk32 := hts (.fieldLink RX4 32 "PointStore$Tree" "bits" "I") (by decide +kernel)
  have lk35 := hts (.fieldLink RX4 35 "PointStore$Tree" "mostNodes" "I") (by decide +kernel)
  have lk38 := hts (.fieldLink RX4 38 "PointStore$Tree" "facts" "[I") (by decide +kernel)
  have hin4 : ∀ w ∈ u_ws RX4 TX4 9, w ∈ wsX4_grow := by decide +kernel
  refine wQ (fun Q hQ => ?_)
  generalize hAe : inW [(t, .inr (4, [.ref p, .int (nI bk), .int (nI b), .int (nI N), .ref fa, .ref oa, .int (nI F.length), .int (nI (dpt b F)), .int f_mo])), (p, .inr (2, [.ref k, .ref v, .int (nI L.length), .int (nI w)])), (k, .inl (X.2.1, 512, .inl kf)), (v, .inl (X.2.1, 512, .inl vf)), (fa, .inl (X.2.1, 6 * N, .inl ff)), (oa, .inl (X.2.1, 512, .inl o))] = A_ at hD hS hQ
  subst hfr
  subst hto
  have hL := h.1
  have hdp := dpt_le b F
  have hpw : 2 ^ (d + 1) ≤ 32768 := by omega
  simp only [List.length_append] at hln
  have hob : ∀ i ∈ S, i < L.length := fun i hi => ho.2 i (by simp [hi])
  have hp2 : 2 ^ (d + 1) = 2 * 2 ^ d := by rw [Nat.pow_succ]; omega
  have hd0 : 0 < 2 ^ d := Nat.pow_pos (by decide)
  refine lv_iload hx hb dX4_grow_0 (lv_at hl 5 rfl) ?_
  refine lv_aload_n hx hb dX4_grow_2 rfl (lv_at hl 0 rfl) ?_
  refine va_get (D := X.1) (ci := 4) (v := .int (nI b)) (C := RX4) (T := TX4) (N := 9) hx hb hts hin4 hown hK hP 0 rfl rfl 2 (by decide) lk32 (fun _ h9 => h9) rfl dX4_grow_3 ?_
  refine lv_icmp_gt (tgt := 20) hx hb dX4_grow_6 (by decide) (fun c_6 => ?_) (fun c_6 => ?_)
  · replace c_6 : b < lv := (nI_ltI (by omega) (by omega)).mp c_6
    omega
  · replace c_6 : ¬ b < lv := fun h9 => c_6 ((nI_ltI (by omega) (by omega)).mpr h9)
    refine lv_aload_n hx hb dX4_grow_9 rfl (lv_at hl 0 rfl) ?_
    refine va_get (D := X.1) (ci := 4) (v := .int (nI F.length)) (C := RX4) (T := TX4) (N := 9) hx hb hts hin4 hown hK hP 0 rfl rfl 6 (by decide) lk15 (fun _ h9 => h9) rfl dX4_grow_10 ?_
    refine lv_aload_n hx hb dX4_grow_13 rfl (lv_at hl 0 rfl) ?_
    refine va_get (D := X.1) (ci := 4) (v := .int (nI N)) (C := RX4) (T := TX4) (N := 9) hx hb hts hin4 hown hK hP 0 rfl rfl 3 (by decide) lk35 (fun _ h9 => h9) rfl dX4_grow_14 ?_
    refine lv_icmp_lt (tgt := 21) hx hb dX4_grow_17 (by decide) (fun c_17 => ?_) (fun c_17 => ?_)
    · replace c_17 : F.length < N := (nI_ltI (by omega) (by omega)).mp c_17
      refine lv_iconst (v := nI 1) hx hb dX4_grow_21 (by decide) ?_
      refine lv_aload_n hx hb dX4_grow_22 rfl (lv_at hl 0 rfl) ?_
      refine va_get (D := X.1) (ci := 4) (v := .int (nI b)) (C := RX4) (T := TX4) (N := 9) hx hb hts hin4 hown hK hP 0 rfl rfl 2 (by decide) lk32 (fun _ h9 => h9) rfl dX4_grow_23 ?_
      refine lv_iload hx hb dX4_grow_26 (lv_at hl 5 rfl) ?_
      refine lv_isub hx hb dX4_grow_28 ?_
      refine lv_topi (fun x_1 ex_1 => ?_)
      obtain rfl : x_1 = nI (d + 1) := by
        rw [ex_1]
        rw [pk_sub (by omega)]
        congr 1
        omega
      refine lv_ishl hx hb dX4_grow_29 ?_
      refine lv_topi (fun x_2 ex_2 => ?_)
      obtain rfl : x_2 = nI (2 ^ (d + 1)) := by
        rw [ex_2]
        exact bI_1shl (by omega)
      refine lv_istore (lv' := [(6, .int (nI (2 ^ (d + 1)))), (0, .ref t), (1, .int (nI A.length)), (2, .int (nI (A.length + S.length))), (3, .int (nI x)), (4, .int (nI y)), (5, .int (nI lv))]) hx hb dX4_grow_30 hl (by decide) rfl (fun ls hl => ?_)
      refine lv_aload_n hx hb dX4_grow_32 rfl (lv_at hl 1 rfl) ?_
      refine va_get (D := X.1) (ci := 4) (v := .int (nI F.length)) (C := RX4) (T := TX4) (N := 9) hx hb hts hin4 hown hK hP 0 rfl rfl 6 (by decide) lk15 (fun _ h9 => h9) rfl dX4_grow_33 ?_
      refine lv_bipush (v := nI 6) hx hb dX4_grow_36 (by decide) ?_
      refine lv_imul hx hb dX4_grow_38 ?_
      refine lv_topi (fun x_3 ex_3 => ?_)
      obtain rfl : x_3 = nI (F.length * 6) := by
        rw [ex_3]
        exact pk_mul _ _
      refine lv_istore (lv' := [(7, .int (nI (F.length * 6))), (6, .int (nI (2 ^ (d + 1)))), (0, .ref t), (1, .int (nI A.length)), (2, .int (nI (A.length + S.length))), (3, .int (nI x)), (4, .int (nI y)), (5, .int (nI lv))]) hx hb dX4_grow_39 hl (by decide) rfl (fun ls hl => ?_)
      refine lv_aload_n hx hb dX4_grow_41 rfl (lv_at hl 2 rfl) ?_
      refine lv_dup hx hb dX4_grow_42 rfl ?_
      refine va_get (D := X.1) (ci := 4) (v := .int (nI F.length)) (C := RX4) (T := TX4) (N := 9) hx hb hts hin4 hown hK hP 0 rfl rfl 6 (by decide) lk15 (fun _ h9 => h9) rfl dX4_grow_43 ?_
      refine lv_iconst (v := nI 1) hx hb dX4_grow_46 (by decide) ?_
      refine lv_iadd hx hb dX4_grow_47 ?_
      refine lv_topi (fun x_4 ex_4 => ?_)
      obtain rfl : x_4 = nI (F.length + 1) := by
        rw [ex_4]
        exact nI_add _ _
      refine va_put (D := X.1) (ci := 4) (v := .int (nI (F.length + 1))) (ty := .int) (C := RX4) (T := TX4) (N := 9) hx hb hts hin4 tyX4 tyX4_ok nmX4 hown hK hP hD hS 0 rfl rfl 6 (by decide) lk15 (fun _ h9 => h9) rfl (by decide +kernel) rfl rfl (Nat.le_of_ble_eq_true rfl) dX4_grow_48 (fun H locs hP hD hS => ?_)
      have hP : va_P X.1 vwCl [(t, .inr (4, [.ref p, .int (nI bk), .int (nI b), .int (nI N), .ref fa, .ref oa, .int (nI (F.length + 1)), .int (nI (dpt b F)), .int f_mo])), (p, .inr (2, [.ref k, .ref v, .int (nI L.length), .int (nI w)])), (k, .inl (X.2.1, 512, .inl kf)), (v, .inl (X.2.1, 512, .inl vf)), (fa, .inl (X.2.1, 6 * N, .inl ff)), (oa, .inl (X.2.1, 512, .inl o))] H := hP
      have hD : va_D A_ [(t, .inr (4, [.ref p, .int (nI bk), .int (nI b), .int (nI N), .ref fa, .ref oa, .int (nI (F.length + 1)), .int (nI (dpt b F)), .int f_mo])), (p, .inr (2, [.ref k, .ref v, .int (nI L.length), .int (nI w)])), (k, .inl (X.2.1, 512, .inl kf)), (v, .inl (X.2.1, 512, .inl vf)), (fa, .inl (X.2.1, 6 * N, .inl ff)), (oa, .inl (X.2.1, 512, .inl o))] := hD
      refine lv_aload_n hx hb dX4_grow_51 rfl (lv_at hl 2 rfl) ?_
      refine lv_aload_n hx hb dX4_grow_52 rfl (lv_at hl 2 rfl) ?_
      refine va_get (D := X.1) (ci := 4) (v := .int (nI (dpt b F))) (C := RX4) (T := TX4) (N := 9) hx hb hts hin4 hown hK hP 0 rfl rfl 7 (by decide) lk19 (fun _ h9 => h9) rfl dX4_grow_53 ?_
      refine lv_iload hx hb dX4_grow_56 (lv_at hl 7 rfl) ?_
      refine va_mmax hx hb (hml.trans hl.1.symm) hown (hts (.methodLink RX4 53 Lib.Math.max.name) (by decide +kernel)) (hts (.static Lib.Math.max.name) (by decide +kernel)) (hts (.initialized "java/lang/Math") (by decide +kernel)) (hts (.code Lib.Math.max.name Lib.Math.max.code 2 (some .int)) (by decide +kernel)) (Nat.le_of_ble_eq_true rfl) (Nat.le_of_ble_eq_true rfl) (Nat.zero_le _) (Nat.zero_le _) dX4_grow_58 ?_
      refine lv_topi (fun x_5 ex_5 => ?_)
      obtain rfl : x_5 = nI (max (dpt b F) lv) := by
        rw [ex_5]
        exact mmax_nI (by omega) (by omega)
      refine va_put (D := X.1) (ci := 4) (v := .int (nI (max (dpt b F) lv))) (ty := .int) (C := RX4) (T := TX4) (N := 9) hx hb hts hin4 tyX4 tyX4_ok nmX4 hown hK hP hD hS 0 rfl rfl 7 (by decide) lk19 (fun _ h9 => h9) rfl (by decide +kernel) rfl rfl (Nat.le_of_ble_eq_true rfl) dX4_grow_61 (fun H locs hP hD hS => ?_)
      have hP : va_P X.1 vwCl [(t, .inr (4, [.ref p, .int (nI bk), .int (nI b), .int (nI N), .ref fa, .ref oa, .int (nI (F.length + 1)), .int (nI (max (dpt b F) lv)), .int f_mo])), (p, .inr (2, [.ref k, .ref v, .int (nI L.length), .int (nI w)])), (k, .inl (X.2.1, 512, .inl kf)), (v, .inl (X.2.1, 512, .inl vf)), (fa, .inl (X.2.1, 6 * N, .inl ff)), (oa, .inl (X.2.1, 512, .inl o))] H := hP
      have hD : va_D A_ [(t, .inr (4, [.ref p, .int (nI bk), .int (nI b), .int (nI N), .ref fa, .ref oa, .int (nI (F.length + 1)), .int (nI (max (dpt b F) lv)), .int f_mo])), (p, .inr (2, [.ref k, .ref v, .int (nI L.length), .int (nI w)])), (k, .inl (X.2.1, 512, .inl kf)), (v, .inl (X.2.1, 512, .inl vf)), (fa, .inl (X.2.1, 6 * N, .inl ff)), (oa, .inl (X.2.1, 512, .inl o))] := hD
      refine lv_aload_n hx hb dX4_grow_64 rfl (lv_at hl 2 rfl) ?_
      refine va_get (D := X.1) (ci := 4) (v := .ref fa) (C := RX4) (T := TX4) (N := 9) hx hb hts hin4 hown hK hP 0 rfl rfl 4 (by decide) lk38 (fun _ h9 => h9) rfl dX4_grow_65 ?_
      refine lv_iload hx hb dX4_grow_68 (lv_at hl 0 rfl) ?_
      refine lv_iload hx hb dX4_grow_70 (lv_at hl 1 rfl) ?_
      have hi_6 : vp_in (nI (F.length * 6)) (6 * N) := vp_in_nI (by omega) (by omega)
      refine va_iast hx hb hK hP hD hS 4 0 rfl rfl hi_6 dX4_grow_72 (fun H locs hP hD hS => ?_)
      rw [nI_clamp (by omega)] at hP hD
      have hP : va_P X.1 vwCl [(t, .inr (4, [.ref p, .int (nI bk), .int (nI b), .int (nI N), .ref fa, .ref oa, .int (nI (F.length + 1)), .int (nI (max (dpt b F) lv)), .int f_mo])), (p, .inr (2, [.ref k, .ref v, .int (nI L.length), .int (nI w)])), (k, .inl (X.2.1, 512, .inl kf)), (v, .inl (X.2.1, 512, .inl vf)), (fa, .inl (X.2.1, 6 * N, .inl (upd ff (F.length * 6) (nI (2 ^ (d + 1)))))), (oa, .inl (X.2.1, 512, .inl o))] H := hP
      have hD : va_D A_ [(t, .inr (4, [.ref p, .int (nI bk), .int (nI b), .int (nI N), .ref fa, .ref oa, .int (nI (F.length + 1)), .int (nI (max (dpt b F) lv)), .int f_mo])), (p, .inr (2, [.ref k, .ref v, .int (nI L.length), .int (nI w)])), (k, .inl (X.2.1, 512, .inl kf)), (v, .inl (X.2.1, 512, .inl vf)), (fa, .inl (X.2.1, 6 * N, .inl (upd ff (F.length * 6) (nI (2 ^ (d + 1)))))), (oa, .inl (X.2.1, 512, .inl o))] := hD
      refine lv_aload_n hx hb dX4_grow_73 rfl (lv_at hl 2 rfl) ?_
      refine va_get (D := X.1) (ci := 4) (v := .ref fa) (C := RX4) (T := TX4) (N := 9) hx hb hts hin4 hown hK hP 0 rfl rfl 4 (by decide) lk38 (fun _ h9 => h9) rfl dX4_grow_74 ?_
      refine lv_iload hx hb dX4_grow_77 (lv_at hl 0 rfl) ?_
      refine lv_iconst (v := nI 1) hx hb dX4_grow_79 (by decide) ?_
      refine lv_iadd hx hb dX4_grow_80 ?_
      refine lv_topi (fun x_7 ex_7 => ?_)
      obtain rfl : x_7 = nI ((F.length * 6) + 1) := by
        rw [ex_7]
        exact nI_add _ _
      refine lv_iload_n hx hb dX4_grow_81 rfl (lv_at hl 5 rfl) ?_
      have hi_8 : vp_in (nI ((F.length * 6) + 1)) (6 * N) := vp_in_nI (by omega) (by omega)
      refine va_iast hx hb hK hP hD hS 4 0 rfl rfl hi_8 dX4_grow_82 (fun H locs hP hD hS => ?_)
      rw [nI_clamp (by omega)] at hP hD
      have hP : va_P X.1 vwCl [(t, .inr (4, [.ref p, .int (nI bk), .int (nI b), .int (nI N), .ref fa, .ref oa, .int (nI (F.length + 1)), .int (nI (max (dpt b F) lv)), .int f_mo])), (p, .inr (2, [.ref k, .ref v, .int (nI L.length), .int (nI w)])), (k, .inl (X.2.1, 512, .inl kf)), (v, .inl (X.2.1, 512, .inl vf)), (fa, .inl (X.2.1, 6 * N, .inl (upd (upd ff (F.length * 6) (nI (2 ^ (d + 1)))) ((F.length * 6) + 1) (nI x)))), (oa, .inl (X.2.1, 512, .inl o))] H := hP
      have hD : va_D A_ [(t, .inr (4, [.ref p, .int (nI bk), .int (nI b), .int (nI N), .ref fa, .ref oa, .int (nI (F.length + 1)), .int (nI (max (dpt b F) lv)), .int f_mo])), (p, .inr (2, [.ref k, .ref v, .int (nI L.length), .int (nI w)])), (k, .inl (X.2.1, 512, .inl kf)), (v, .inl (X.2.1, 512, .inl vf)), (fa, .inl (X.2.1, 6 * N, .inl (upd (upd ff (F.length * 6) (nI (2 ^ (d + 1)))) ((F.length * 6) + 1) (nI x)))), (oa, .inl (X.2.1, 512, .inl o))] := hD
      refine lv_aload_n hx hb dX4_grow_83 rfl (lv_at hl 2 rfl) ?_
      refine va_get (D := X.1) (ci := 4) (v := .ref fa) (C := RX4) (T := TX4) (N := 9) hx hb hts hin4 hown hK hP 0 rfl rfl 4 (by decide) lk38 (fun _ h9 => h9) rfl dX4_grow_84 ?_
      refine lv_iload hx hb dX4_grow_87 (lv_at hl 0 rfl) ?_
      refine lv_iconst (v := nI 2) hx hb dX4_grow_89 (by decide) ?_
      refine lv_iadd hx hb dX4_grow_90 ?_
      refine lv_topi (fun x_9 ex_9 => ?_)
      obtain rfl : x_9 = nI ((F.length * 6) + 2) := by
        rw [ex_9]
        exact nI_add _ _
      refine lv_iload hx hb dX4_grow_91 (lv_at hl 6 rfl) ?_
      have hi_10 : vp_in (nI ((F.length * 6) + 2)) (6 * N) := vp_in_nI (by omega) (by omega)
      refine va_iast hx hb hK hP hD hS 4 0 rfl rfl hi_10 dX4_grow_93 (fun H locs hP hD hS => ?_)
      rw [nI_clamp (by omega)] at hP hD
      have hP : va_P X.1 vwCl [(t, .inr (4, [.ref p, .int (nI bk), .int (nI b), .int (nI N), .ref fa, .ref oa, .int (nI (F.length + 1)), .int (nI (max (dpt b F) lv)), .int f_mo])), (p, .inr (2, [.ref k, .ref v, .int (nI L.length), .int (nI w)])), (k, .inl (X.2.1, 512, .inl kf)), (v, .inl (X.2.1, 512, .inl vf)), (fa, .inl (X.2.1, 6 * N, .inl (upd (upd (upd ff (F.length * 6) (nI (2 ^ (d + 1)))) ((F.length * 6) + 1) (nI x)) ((F.length * 6) + 2) (nI y)))), (oa, .inl (X.2.1, 512, .inl o))] H := hP
      have hD : va_D A_ [(t, .inr (4, [.ref p, .int (nI bk), .int (nI b), .int (nI N), .ref fa, .ref oa, .int (nI (F.length + 1)), .int (nI (max (dpt b F) lv)), .int f_mo])), (p, .inr (2, [.ref k, .ref v, .int (nI L.length), .int (nI w)])), (k, .inl (X.2.1, 512, .inl kf)), (v, .inl (X.2.1, 512, .inl vf)), (fa, .inl (X.2.1, 6 * N, .inl (upd (upd (upd ff (F.length * 6) (nI (2 ^ (d + 1)))) ((F.length * 6) + 1) (nI x)) ((F.length * 6) + 2) (nI y)))), (oa, .inl (X.2.1, 512, .inl o))] := hD
      refine lv_aload_n hx hb dX4_grow_94 rfl (lv_at hl 2 rfl) ?_
      refine va_get (D := X.1) (ci := 4) (v := .ref fa) (C := RX4) (T := TX4) (N := 9) hx hb hts hin4 hown hK hP 0 rfl rfl 4 (by decide) lk38 (fun _ h9 => h9) rfl dX4_grow_95 ?_
      refine lv_iload hx hb dX4_grow_98 (lv_at hl 0 rfl) ?_
      refine lv_iconst (v := nI 3) hx hb dX4_grow_100 (by decide) ?_
      refine lv_iadd hx hb dX4_grow_101 ?_
      refine lv_topi (fun x_11 ex_11 => ?_)
      obtain rfl : x_11 = nI ((F.length * 6) + 3) := by
        rw [ex_11]
        exact nI_add _ _
      refine lv_iload_n hx hb dX4_grow_102 rfl (lv_at hl 4 rfl) ?_
      refine lv_iload_n hx hb dX4_grow_103 rfl (lv_at hl 3 rfl) ?_
      refine lv_isub hx hb dX4_grow_104 ?_
      refine lv_topi (fun x_12 ex_12 => ?_)
      obtain rfl : x_12 = nI S.length := by
        rw [ex_12]
        rw [pk_sub (by omega)]
        congr 1
        omega
      have hi_13 : vp_in (nI ((F.length * 6) + 3)) (6 * N) := vp_in_nI (by omega) (by omega)
      refine va_iast hx hb hK hP hD hS 4 0 rfl rfl hi_13 dX4_grow_105 (fun H locs hP hD hS => ?_)
      rw [nI_clamp (by omega)] at hP hD
      have hP : va_P X.1 vwCl [(t, .inr (4, [.ref p, .int (nI bk), .int (nI b), .int (nI N), .ref fa, .ref oa, .int (nI (F.length + 1)), .int (nI (max (dpt b F) lv)), .int f_mo])), (p, .inr (2, [.ref k, .ref v, .int (nI L.length), .int (nI w)])), (k, .inl (X.2.1, 512, .inl kf)), (v, .inl (X.2.1, 512, .inl vf)), (fa, .inl (X.2.1, 6 * N, .inl (upd (upd (upd (upd ff (F.length * 6) (nI (2 ^ (d + 1)))) ((F.length * 6) + 1) (nI x)) ((F.length * 6) + 2) (nI y)) ((F.length * 6) + 3) (nI S.length)))), (oa, .inl (X.2.1, 512, .inl o))] H := hP
      have hD : va_D A_ [(t, .inr (4, [.ref p, .int (nI bk), .int (nI b), .int (nI N), .ref fa, .ref oa, .int (nI (F.length + 1)), .int (nI (max (dpt b F) lv)), .int f_mo])), (p, .inr (2, [.ref k, .ref v, .int (nI L.length), .int (nI w)])), (k, .inl (X.2.1, 512, .inl kf)), (v, .inl (X.2.1, 512, .inl vf)), (fa, .inl (X.2.1, 6 * N, .inl (upd (upd (upd (upd ff (F.length * 6) (nI (2 ^ (d + 1)))) ((F.length * 6) + 1) (nI x)) ((F.length * 6) + 2) (nI y)) ((F.length * 6) + 3) (nI S.length)))), (oa, .inl (X.2.1, 512, .inl o))] := hD
      refine lv_aload_n hx hb dX4_grow_106 rfl (lv_at hl 2 rfl) ?_
      refine va_get (D := X.1) (ci := 4) (v := .ref fa) (C := RX4) (T := TX4) (N := 9) hx hb hts hin4 hown hK hP 0 rfl rfl 4 (by decide) lk38 (fun _ h9 => h9) rfl dX4_grow_107 ?_
      refine lv_iload hx hb dX4_grow_110 (lv_at hl 0 rfl) ?_
      refine lv_iconst (v := nI 4) hx hb dX4_grow_112 (by decide) ?_
      refine lv_iadd hx hb dX4_grow_113 ?_
      refine lv_topi (fun x_14 ex_14 => ?_)
      obtain rfl : x_14 = nI ((F.length * 6) + 4) := by
        rw [ex_14]
        exact nI_add _ _
      refine lv_iconst (v := nI 0) hx hb dX4_grow_114 (by decide) ?_
      have hi_15 : vp_in (nI ((F.length * 6) + 4)) (6 * N) := vp_in_nI (by omega) (by omega)
      refine va_iast hx hb hK hP hD hS 4 0 rfl rfl hi_15 dX4_grow_115 (fun H locs hP hD hS => ?_)
      rw [nI_clamp (by omega)] at hP hD
      have hP : va_P X.1 vwCl [(t, .inr (4, [.ref p, .int (nI bk), .int (nI b), .int (nI N), .ref fa, .ref oa, .int (nI (F.length + 1)), .int (nI (max (dpt b F) lv)), .int f_mo])), (p, .inr (2, [.ref k, .ref v, .int (nI L.length), .int (nI w)])), (k, .inl (X.2.1, 512, .inl kf)), (v, .inl (X.2.1, 512, .inl vf)), (fa, .inl (X.2.1, 6 * N, .inl (upd (upd (upd (upd (upd ff (F.length * 6) (nI (2 ^ (d + 1)))) ((F.length * 6) + 1) (nI x)) ((F.length * 6) + 2) (nI y)) ((F.length * 6) + 3) (nI S.length)) ((F.length * 6) + 4) (nI 0)))), (oa, .inl (X.2.1, 512, .inl o))] H := hP
      have hD : va_D A_ [(t, .inr (4, [.ref p, .int (nI bk), .int (nI b), .int (nI N), .ref fa, .ref oa, .int (nI (F.length + 1)), .int (nI (max (dpt b F) lv)), .int f_mo])), (p, .inr (2, [.ref k, .ref v, .int (nI L.length), .int (nI w)])), (k, .inl (X.2.1, 512, .inl kf)), (v, .inl (X.2.1, 512, .inl vf)), (fa, .inl (X.2.1, 6 * N, .inl (upd (upd (upd (upd (upd ff (F.length * 6) (nI (2 ^ (d + 1)))) ((F.length * 6) + 1) (nI x)) ((F.length * 6) + 2) (nI y)) ((F.length * 6) + 3) (nI S.length)) ((F.length * 6) + 4) (nI 0)))), (oa, .inl (X.2.1, 512, .inl o))] := hD
      refine lv_aload_n hx hb dX4_grow_116 rfl (lv_at hl 2 rfl) ?_
      refine va_get (D := X.1) (ci := 4) (v := .ref fa) (C := RX4) (T := TX4) (N := 9) hx hb hts hin4 hown hK hP 0 rfl rfl 4 (by decide) lk38 (fun _ h9 => h9) rfl dX4_grow_117 ?_
      refine lv_iload hx hb dX4_grow_120 (lv_at hl 0 rfl) ?_
      refine lv_iconst (v := nI 5) hx hb dX4_grow_122 (by decide) ?_
      refine lv_iadd hx hb dX4_grow_123 ?_
      refine lv_topi (fun x_16 ex_16 => ?_)
      obtain rfl : x_16 = nI ((F.length * 6) + 5) := by
        rw [ex_16]
        exact nI_add _ _
      refine lv_aload_n hx hb dX4_grow_124 rfl (lv_at hl 2 rfl) ?_
      refine lv_iload_n hx hb dX4_grow_125 rfl (lv_at hl 3 rfl) ?_
      refine lv_iload_n hx hb dX4_grow_126 rfl (lv_at hl 4 rfl) ?_
      refine ckVRi (As := [.int (nI A.length), .int (nI (A.length + S.length))]) (rest := [.int (nI ((F.length * 6) + 5)), .ref fa]) 0 [0, 1, 3, 5] (c_X4_lowBitsOf l X t p k v fa oa bk b N (F.length + 1) (max (dpt b F) lv) f_mo w A.length (A.length + S.length) kf vf o L A S B h ho (by simp only [List.length_append]; omega) rfl rfl) ⟨hx, hb, hml, hown, hts⟩ (cwV 2 hts gX4_grow_X4_lowBitsOf rfl rfl rfl (by decide +kernel) ⟨Nat.le_of_ble_eq_true rfl, Nat.le_of_ble_eq_true rfl⟩) hK hN hP hD (by decide) rfl (ci := 4) rfl rfl rfl hl.1 rfl (Nat.le_of_ble_eq_true rfl) dX4_grow_127 ⟨Nat.zero_le _, Nat.zero_le _⟩ (fun r_17 hc_127 => ?_)
      subst hc_127
      have hi_18 : vp_in (nI ((F.length * 6) + 5)) (6 * N) := vp_in_nI (by omega) (by omega)
      refine va_iast hx hb hK hP hD hS 4 0 rfl rfl hi_18 dX4_grow_130 (fun H locs hP hD hS => ?_)
      rw [nI_clamp (by omega)] at hP hD
      rw [show upd (upd (upd (upd (upd (upd ff (F.length * 6) (nI (2 ^ (d + 1)))) ((F.length * 6) + 1) (nI x)) ((F.length * 6) + 2) (nI y)) ((F.length * 6) + 3) (nI S.length)) ((F.length * 6) + 4) (nI 0)) ((F.length * 6) + 5) (nI (low (ps L S))) = set6 ff F.length (nI (2 ^ (d + 1))) (nI x) (nI y) (nI S.length) (nI 0) (nI (low (ps L S))) from rfl] at hP hD
      have hP : va_P X.1 vwCl [(t, .inr (4, [.ref p, .int (nI bk), .int (nI b), .int (nI N), .ref fa, .ref oa, .int (nI (F.length + 1)), .int (nI (max (dpt b F) lv)), .int f_mo])), (p, .inr (2, [.ref k, .ref v, .int (nI L.length), .int (nI w)])), (k, .inl (X.2.1, 512, .inl kf)), (v, .inl (X.2.1, 512, .inl vf)), (fa, .inl (X.2.1, 6 * N, .inl (set6 ff F.length (nI (2 ^ (d + 1))) (nI x) (nI y) (nI S.length) (nI 0) (nI (low (ps L S)))))), (oa, .inl (X.2.1, 512, .inl o))] H := hP
      have hD : va_D A_ [(t, .inr (4, [.ref p, .int (nI bk), .int (nI b), .int (nI N), .ref fa, .ref oa, .int (nI (F.length + 1)), .int (nI (max (dpt b F) lv)), .int f_mo])), (p, .inr (2, [.ref k, .ref v, .int (nI L.length), .int (nI w)])), (k, .inl (X.2.1, 512, .inl kf)), (v, .inl (X.2.1, 512, .inl vf)), (fa, .inl (X.2.1, 6 * N, .inl (set6 ff F.length (nI (2 ^ (d + 1))) (nI x) (nI y) (nI S.length) (nI 0) (nI (low (ps L S)))))), (oa, .inl (X.2.1, 512, .inl o))] := hD
      have hpush : fOk (set6 ff F.length (nI (2 ^ (d + 1))) (nI x) (nI y) (nI S.length) (nI 0) (nI (low (ps L S)))) (F ++ [(d + 1, x, y, (ps L S).length, 0, low (ps L S))]) := by
        rw [ps_len]
        exact fOk_push hF (d + 1, x, y, S.length, 0, low (ps L S))
      have hdpt : max (dpt b F) lv = dpt b (F ++ [(d + 1, x, y, (ps L S).length, 0, low (ps L S))]) := by
        rw [dpt_app]
        show _ = max _ (max (b - (d + 1)) 0)
        omega
      refine lv_iload_n hx hb dX4_grow_131 rfl (lv_at hl 4 rfl) ?_
      refine lv_iload_n hx hb dX4_grow_132 rfl (lv_at hl 3 rfl) ?_
      refine lv_isub hx hb dX4_grow_133 ?_
      refine lv_topi (fun x_19 ex_19 => ?_)
      obtain rfl : x_19 = nI S.length := by
        rw [ex_19]
        rw [pk_sub (by omega)]
        congr 1
        omega
      refine lv_aload_n hx hb dX4_grow_134 rfl (lv_at hl 2 rfl) ?_
      refine va_get (D := X.1) (ci := 4) (v := .int (nI bk)) (C := RX4) (T := TX4) (N := 9) hx hb hts hin4 hown hK hP 0 rfl rfl 1 (by decide) lk29 (fun _ h9 => h9) rfl dX4_grow_135 ?_
      refine lv_icmp_gt (tgt := 142) hx hb dX4_grow_138 (by decide) (fun c_138 => ?_) (fun c_138 => ?_)
      · replace c_138 : bk < S.length := (nI_ltI (by omega) (by omega)).mp c_138
        refine lv_iload hx hb dX4_grow_142 (lv_at hl 1 rfl) ?_
        refine lv_iconst (v := nI 1) hx hb dX4_grow_144 (by decide) ?_
        refine lv_ishr hx hb dX4_grow_145 ?_
        refine lv_topi (fun x_20 ex_20 => ?_)
        obtain rfl : x_20 = nI (2 ^ d) := by
          rw [ex_20]
          rw [pk_shrN (by omega) _ 1 (by decide)]
          congr 1
          omega
        refine lv_istore (lv' := [(8, .int (nI (2 ^ d))), (7, .int (nI (F.length * 6))), (6, .int (nI (2 ^ (d + 1)))), (0, .ref t), (1, .int (nI A.length)), (2, .int (nI (A.length + S.length))), (3, .int (nI x)), (4, .int (nI y)), (5, .int (nI lv))]) hx hb dX4_grow_146 hl (by decide) rfl (fun ls hl => ?_)
        refine lv_iload_n hx hb dX4_grow_148 rfl (lv_at hl 4 rfl) ?_
        refine lv_istore (lv' := [(9, .int (nI A.length)), (8, .int (nI (2 ^ d))), (7, .int (nI (F.length * 6))), (6, .int (nI (2 ^ (d + 1)))), (0, .ref t), (1, .int (nI A.length)), (2, .int (nI (A.length + S.length))), (3, .int (nI x)), (4, .int (nI y)), (5, .int (nI lv))]) hx hb dX4_grow_149 hl (by decide) rfl (fun ls hl => ?_)
        refine lv_iconst (v := nI 0) hx hb dX4_grow_151 (by decide) ?_
        refine lv_istore (lv' := [(10, .int (nI 0)), (9, .int (nI A.length)), (8, .int (nI (2 ^ d))), (7, .int (nI (F.length * 6))), (6, .int (nI (2 ^ (d + 1)))), (0, .ref t), (1, .int (nI A.length)), (2, .int (nI (A.length + S.length))), (3, .int (nI x)), (4, .int (nI y)), (5, .int (nI lv))]) hx hb dX4_grow_152 hl (by decide) rfl (fun ls hl => ?_)
        have loop_154 : ∀ (fu : Nat) (q : Nat) (ff1 : Nat → Int32) (o1 : Nat → Int32) (Dn : List Nat) (R : List Nat), (q ≤ 4) → (fOk ff1 (gq bk d x y N (ps L S) F q (msk x y (2 ^ d) (ps L S) q))) → (oOk o1 (A ++ Dn ++ R ++ B) L.length) → ((Dn ++ R).Perm S) → (∀ q', q ≤ q' → q' < 4 → (R.filter (inS L (x + q' % 2 * 2 ^ d) (y + q' / 2 * 2 ^ d) (2 ^ d))).Perm (S.filter (inS L (x + q' % 2 * 2 ^ d) (y + q' / 2 * 2 ^ d) (2 ^ d)))) → 4 - q < fu → ∀ (H : Heap) (locs : List Loc), va_P X.1 vwCl [(t, .inr (4, [.ref p, .int (nI bk), .int (nI b), .int (nI N), .ref fa, .ref oa, .int (nI ((gq bk d x y N (ps L S) F q (msk x y (2 ^ d) (ps L S) q)).length)), .int (nI (dpt b (gq bk d x y N (ps L S) F q (msk x y (2 ^ d) (ps L S) q)))), .int f_mo])), (p, .inr (2, [.ref k, .ref v, .int (nI L.length), .int (nI w)])), (k, .inl (X.2.1, 512, .inl kf)), (v, .inl (X.2.1, 512, .inl vf)), (fa, .inl (X.2.1, 6 * N, .inl ff1)), (oa, .inl (X.2.1, 512, .inl o1))] H → va_D A_ [(t, .inr (4, [.ref p, .int (nI bk), .int (nI b), .int (nI N), .ref fa, .ref oa, .int (nI ((gq bk d x y N (ps L S) F q (msk x y (2 ^ d) (ps L S) q)).length)), .int (nI (dpt b (gq bk d x y N (ps L S) F q (msk x y (2 ^ d) (ps L S) q)))), .int f_mo])), (p, .inr (2, [.ref k, .ref v, .int (nI L.length), .int (nI w)])), (k, .inl (X.2.1, 512, .inl kf)), (v, .inl (X.2.1, 512, .inl vf)), (fa, .inl (X.2.1, 6 * N, .inl ff1)), (oa, .inl (X.2.1, 512, .inl o1))] → va_S A_ sz.heap H locs → ∀ (ls : Array Slot), lv_has ls 14 [(0, .ref t), (2, .int (nI (A.length + S.length))), (3, .int (nI x)), (4, .int (nI y)), (5, .int (nI lv)), (7, .int (nI (F.length * 6))), (8, .int (nI (2 ^ d))), (9, .int (nI (A.length + Dn.length))), (10, .int (nI q))] → W pz l ez (headSpec wsX4_grow (rmk (d + 1 + 3))).room sz mz ([.ref t, .int (nI A.length), .int (nI (A.length + S.length)), .int (nI x), .int (nI y), .int (nI lv)].toArray) below meth cz H locs 0 0 Q (F0 mz 154 ls []) := by
          intro fu
          induction fu with
          | zero => intro q ff1 o1 Dn R h1 h3 h4 h5 h6 hfu; exact absurd hfu (Nat.not_lt_zero _)
          | succ fu ih154 =>
            intro q ff1 o1 Dn R h1 h3 h4 h5 h6 hfu H locs hP hD hS ls hl
            have hlS := h5.length_eq
            rw [List.length_append] at hlS
            refine lv_iload hx hb dX4_grow_154 (lv_at hl 8 rfl) ?_
            refine lv_iconst (v := nI 4) hx hb dX4_grow_156 (by decide) ?_
            refine lv_icmp_ge (tgt := 255) hx hb dX4_grow_157 (by decide) (fun c_157 => ?_) (fun c_157 => ?_)
            · replace c_157 : 4 ≤ q := (nI_leI (by omega) (by omega)).mp c_157
              obtain rfl : q = 4 := by omega
              have hin4 := gF_inner (d := d) (x := x) (y := y) (N := N) (P := ps L S) (F := F) (bk := bk) (by rw [ps_len]; omega)
              rw [← hin4] at hP
              refine wM hQ ?_
              exact rtV (ff1, o1, Dn ++ R) hx hb hr hlocks hP hS (⟨by show fOk ff1 _; rw [hin4]; exact h3, by simpa using h4, h5⟩) dX4_grow_255
            · replace c_157 : ¬ 4 ≤ q := fun h9 => c_157 ((nI_leI (by omega) (by omega)).mpr h9)
              have hqx : q % 2 * 2 ^ d ≤ 2 ^ d := by
                rcases (show q % 2 = 0 ∨ q % 2 = 1 by omega) with z | z <;> rw [z] <;> omega
              have hqy : q / 2 * 2 ^ d ≤ 2 ^ d := by
                rcases (show q / 2 = 0 ∨ q / 2 = 1 by omega) with z | z <;> rw [z] <;> omega
              have hfq : ∀ i ∈ R, (inS L (x + q % 2 * 2 ^ d) (y + q / 2 * 2 ^ d) (2 ^ d) i = true ↔ pK L i &&& (2 ^ d * 32768 + 2 ^ d) = q % 2 * 2 ^ d * 32768 + q / 2 * 2 ^ d) := fun i hi => inS_bits (by omega) hxa hya (by omega) (hrg i (h5.subset (List.mem_append_right Dn hi)))
              refine lv_iload hx hb dX4_grow_160 (lv_at hl 8 rfl) ?_
              refine lv_iconst (v := nI 1) hx hb dX4_grow_162 (by decide) ?_
              refine lv_iand hx hb dX4_grow_163 ?_
              refine lv_topi (fun x_21 ex_21 => ?_)
              obtain rfl : x_21 = nI (q % 2) := by
                rw [ex_21]
                exact pk_andN (by omega) 1 (by decide)
              refine lv_iload hx hb dX4_grow_164 (lv_at hl 6 rfl) ?_
              refine lv_imul hx hb dX4_grow_166 ?_
              refine lv_topi (fun x_22 ex_22 => ?_)
              obtain rfl : x_22 = nI ((q % 2) * (2 ^ d)) := by
                rw [ex_22]
                exact pk_mul _ _
              refine lv_istore (lv' := [(11, .int (nI ((q % 2) * (2 ^ d)))), (0, .ref t), (2, .int (nI (A.length + S.length))), (3, .int (nI x)), (4, .int (nI y)), (5, .int (nI lv)), (7, .int (nI (F.length * 6))), (8, .int (nI (2 ^ d))), (9, .int (nI (A.length + Dn.length))), (10, .int (nI q))]) hx hb dX4_grow_167 hl (by decide) rfl (fun ls hl => ?_)
              refine lv_iload hx hb dX4_grow_169 (lv_at hl 9 rfl) ?_
              refine lv_iconst (v := nI 1) hx hb dX4_grow_171 (by decide) ?_
              refine lv_ishr hx hb dX4_grow_172 ?_
              refine lv_topi (fun x_23 ex_23 => ?_)
              obtain rfl : x_23 = nI (q / 2) := by
                rw [ex_23]
                exact pk_shrN (by omega) _ 1 (by decide)
              refine lv_iload hx hb dX4_grow_173 (lv_at hl 7 rfl) ?_
              refine lv_imul hx hb dX4_grow_175 ?_
              refine lv_topi (fun x_24 ex_24 => ?_)
              obtain rfl : x_24 = nI ((q / 2) * (2 ^ d)) := by
                rw [ex_24]
                exact pk_mul _ _
              refine lv_istore (lv' := [(12, .int (nI ((q / 2) * (2 ^ d)))), (11, .int (nI ((q % 2) * (2 ^ d)))), (0, .ref t), (2, .int (nI (A.length + S.length))), (3, .int (nI x)), (4, .int (nI y)), (5, .int (nI lv)), (7, .int (nI (F.length * 6))), (8, .int (nI (2 ^ d))), (9, .int (nI (A.length + Dn.length))), (10, .int (nI q))]) hx hb dX4_grow_176 hl (by decide) rfl (fun ls hl => ?_)
              refine lv_aload_n hx hb dX4_grow_178 rfl (lv_at hl 2 rfl) ?_
              refine lv_iload hx hb dX4_grow_179 (lv_at hl 9 rfl) ?_
              refine lv_iload_n hx hb dX4_grow_181 rfl (lv_at hl 3 rfl) ?_
              refine lv_iload hx hb dX4_grow_182 (lv_at hl 8 rfl) ?_
              refine lv_iload hx hb dX4_grow_184 (lv_at hl 8 rfl) ?_
              refine ckNRi (As := [.int (nI (2 ^ d)), .int (nI (2 ^ d))]) (rest := [.int (nI (A.length + S.length)), .int (nI (A.length + Dn.length)), .ref t]) [] (c_X5_keyOf l X (2 ^ d) (2 ^ d) (by omega) (by omega)) ⟨hx, hb, hml, hown, hts⟩ ⟨va_cnB 2 hts gX4_grow_X5_keyOf_n62 rfl rfl rfl hN.2.2.2 (hts (.initialized RX5) (by decide +kernel)) (by decide +kernel) ⟨Nat.le_of_ble_eq_true rfl, Nat.le_of_ble_eq_true rfl⟩, hts (.static yX5_keyOf) (by decide +kernel), trivial⟩ hK hN hP hD (by decide) rfl rfl hl.1 rfl (Nat.le_of_ble_eq_true rfl) dX4_grow_186 ⟨Nat.zero_le _, Nat.zero_le _⟩ (fun r_25 hc_186 => ?_)
              subst hc_186
              refine lv_iload hx hb dX4_grow_189 (lv_at hl 1 rfl) ?_
              refine lv_iload hx hb dX4_grow_191 (lv_at hl 0 rfl) ?_
              refine ckNRi (As := [.int (nI ((q % 2) * (2 ^ d))), .int (nI ((q / 2) * (2 ^ d)))]) (rest := [.int (nI (2 ^ d * 32768 + 2 ^ d)), .int (nI (A.length + S.length)), .int (nI (A.length + Dn.length)), .ref t]) [] (c_X5_keyOf l X ((q % 2) * (2 ^ d)) ((q / 2) * (2 ^ d)) (by omega) (by omega)) ⟨hx, hb, hml, hown, hts⟩ ⟨va_cnB 2 hts gX4_grow_X5_keyOf_n62 rfl rfl rfl hN.2.2.2 (hts (.initialized RX5) (by decide +kernel)) (by decide +kernel) ⟨Nat.le_of_ble_eq_true rfl, Nat.le_of_ble_eq_true rfl⟩, hts (.static yX5_keyOf) (by decide +kernel), trivial⟩ hK hN hP hD (by decide) rfl rfl hl.1 rfl (Nat.le_of_ble_eq_true rfl) dX4_grow_193 ⟨Nat.zero_le _, Nat.zero_le _⟩ (fun r_26 hc_193 => ?_)
              subst hc_193
              refine ckVi (As := [.int (nI (A.length + Dn.length)), .int (nI (A.length + S.length)), .int (nI (2 ^ d * 32768 + 2 ^ d)), .int (nI (q % 2 * 2 ^ d * 32768 + q / 2 * 2 ^ d))]) (rest := []) 0 [0, 1, 2, 5] (c_X4_gather l X t p k v fa oa bk b N ((gq bk d x y N (ps L S) F q (msk x y (2 ^ d) (ps L S) q)).length) (dpt b (gq bk d x y N (ps L S) F q (msk x y (2 ^ d) (ps L S) q))) f_mo w (A.length + Dn.length) (A.length + S.length) (2 ^ d * 32768 + 2 ^ d) (q % 2 * 2 ^ d * 32768 + q / 2 * 2 ^ d) kf vf o1 L (A ++ Dn) R B (inS L (x + (q % 2) * (2 ^ d)) (y + (q / 2) * (2 ^ d)) (2 ^ d)) h h4 (by simp only [List.length_append]; omega) (by omega) hfq List.length_append.symm (by rw [List.length_append]; omega)) ⟨hx, hb, hml, hown, hts⟩ (cwV 4 hts gX4_grow_X4_gather rfl rfl rfl (by decide +kernel) ⟨Nat.le_of_ble_eq_true rfl, Nat.le_of_ble_eq_true rfl⟩) hK hN hP hD hS (by decide) rfl (ci := 4) rfl rfl (fun _ => rfl) rfl hl.1 rfl (Nat.le_of_ble_eq_true rfl) dX4_grow_196 ⟨Nat.zero_le _, Nat.zero_le _⟩ (fun r_28 u_27 H locs hc_196 hP hD hS => ?_)
              obtain ⟨o2, R2⟩ := u_27
              have hP : va_P X.1 vwCl [(t, .inr (4, [.ref p, .int (nI bk), .int (nI b), .int (nI N), .ref fa, .ref oa, .int (nI ((gq bk d x y N (ps L S) F q (msk x y (2 ^ d) (ps L S) q)).length)), .int (nI (dpt b (gq bk d x y N (ps L S) F q (msk x y (2 ^ d) (ps L S) q)))), .int f_mo])), (p, .inr (2, [.ref k, .ref v, .int (nI L.length), .int (nI w)])), (k, .inl (X.2.1, 512, .inl kf)), (v, .inl (X.2.1, 512, .inl vf)), (fa, .inl (X.2.1, 6 * N, .inl ff1)), (oa, .inl (X.2.1, 512, .inl o2))] H := hP
              have hD : va_D A_ [(t, .inr (4, [.ref p, .int (nI bk), .int (nI b), .int (nI N), .ref fa, .ref oa, .int (nI ((gq bk d x y N (ps L S) F q (msk x y (2 ^ d) (ps L S) q)).length)), .int (nI (dpt b (gq bk d x y N (ps L S) F q (msk x y (2 ^ d) (ps L S) q)))), .int f_mo])), (p, .inr (2, [.ref k, .ref v, .int (nI L.length), .int (nI w)])), (k, .inl (X.2.1, 512, .inl kf)), (v, .inl (X.2.1, 512, .inl vf)), (fa, .inl (X.2.1, 6 * N, .inl ff1)), (oa, .inl (X.2.1, 512, .inl o2))] := hD
              try dsimp only at hc_196
              obtain ⟨rfl, ho2, hR2⟩ := hc_196
              have hP6 := h6 q (Nat.le_refl q) (by omega)
              have hsub : (ps L (R.filter (inS L (x + (q % 2) * (2 ^ d)) (y + (q / 2) * (2 ^ d)) (2 ^ d)))).Perm (sub x y (2 ^ d) (ps L S) q) := by
                have e9 := ps_perm (L := L) hP6
                rw [ps_filter L S] at e9
                exact e9
              have hsl : (R.filter (inS L (x + (q % 2) * (2 ^ d)) (y + (q / 2) * (2 ^ d)) (2 ^ d))).length = (sub x y (2 ^ d) (ps L S) q).length := by
                rw [← hsub.length_eq, ps_len]
              have hRl : (R.filter (inS L (x + (q % 2) * (2 ^ d)) (y + (q / 2) * (2 ^ d)) (2 ^ d))).length ≤ R.length := List.length_filter_le _ _
              have hlA : (A ++ Dn).length = A.length + Dn.length := List.length_append
              have hpp : (Dn ++ (R.filter (inS L (x + (q % 2) * (2 ^ d)) (y + (q / 2) * (2 ^ d)) (2 ^ d)) ++ R2)).Perm S := ((List.Perm.append_left Dn ((List.Perm.append_left _ hR2).trans (List.filter_append_perm _ R))).trans h5)
              refine lv_istore (lv' := [(13, .int (nI ((A ++ Dn).length + (R.filter (inS L (x + (q % 2) * (2 ^ d)) (y + (q / 2) * (2 ^ d)) (2 ^ d))).length))), (12, .int (nI ((q / 2) * (2 ^ d)))), (11, .int (nI ((q % 2) * (2 ^ d)))), (0, .ref t), (2, .int (nI (A.length + S.length))), (3, .int (nI x)), (4, .int (nI y)), (5, .int (nI lv)), (7, .int (nI (F.length * 6))), (8, .int (nI (2 ^ d))), (9, .int (nI (A.length + Dn.length))), (10, .int (nI q))]) hx hb dX4_grow_199 hl (by decide) rfl (fun ls hl => ?_)
              refine lv_iload hx hb dX4_grow_201 (lv_at hl 0 rfl) ?_
              refine lv_iload hx hb dX4_grow_203 (lv_at hl 10 rfl) ?_
              refine lv_icmp_le (tgt := 245) hx hb dX4_grow_205 (by decide) (fun c_205 => ?_) (fun c_205 => ?_)
              · replace c_205 : ((A ++ Dn).length + (R.filter (inS L (x + (q % 2) * (2 ^ d)) (y + (q / 2) * (2 ^ d)) (2 ^ d))).length) ≤ (A.length + Dn.length) := (nI_leI (by omega) (by omega)).mp c_205
                have hz0 : (sub x y (2 ^ d) (ps L S) q).length = 0 := by omega
                have hfe : R.filter (inS L (x + (q % 2) * (2 ^ d)) (y + (q / 2) * (2 ^ d)) (2 ^ d)) = [] := List.length_eq_zero_iff.mp (by omega)
                have hlen0 : (A ++ Dn).length + (R.filter (inS L (x + (q % 2) * (2 ^ d)) (y + (q / 2) * (2 ^ d)) (2 ^ d))).length = A.length + Dn.length := by omega
                have e1 : gq bk d x y N (ps L S) F q (msk x y (2 ^ d) (ps L S) q) = gq bk d x y N (ps L S) F (q + 1) (msk x y (2 ^ d) (ps L S) (q + 1)) := by
                  have emk : msk x y (2 ^ d) (ps L S) (q + 1) = msk x y (2 ^ d) (ps L S) q := by
                    show msk x y (2 ^ d) (ps L S) q + (if (sub x y (2 ^ d) (ps L S) q).length = 0 then 0 else 2 ^ q) = msk x y (2 ^ d) (ps L S) q
                    rw [if_pos hz0]; rfl
                  rw [emk]
                  exact gq_nokid hz0
                refine lv_iload hx hb dX4_grow_245 (lv_at hl 0 rfl) ?_
                refine lv_istore (lv' := [(9, .int (nI ((A ++ Dn).length + (R.filter (inS L (x + (q % 2) * (2 ^ d)) (y + (q / 2) * (2 ^ d)) (2 ^ d))).length))), (13, .int (nI ((A ++ Dn).length + (R.filter (inS L (x + (q % 2) * (2 ^ d)) (y + (q / 2) * (2 ^ d)) (2 ^ d))).length))), (12, .int (nI ((q / 2) * (2 ^ d)))), (11, .int (nI ((q % 2) * (2 ^ d)))), (0, .ref t), (2, .int (nI (A.length + S.length))), (3, .int (nI x)), (4, .int (nI y)), (5, .int (nI lv)), (7, .int (nI (F.length * 6))), (8, .int (nI (2 ^ d))), (10, .int (nI q))]) hx hb dX4_grow_247 hl (by decide) rfl (fun ls hl => ?_)
                refine lv_iinc (v := nI (q + 1)) (lv' := [(10, .int (nI (q + 1))), (9, .int (nI ((A ++ Dn).length + (R.filter (inS L (x + (q % 2) * (2 ^ d)) (y + (q / 2) * (2 ^ d)) (2 ^ d))).length))), (13, .int (nI ((A ++ Dn).length + (R.filter (inS L (x + (q % 2) * (2 ^ d)) (y + (q / 2) * (2 ^ d)) (2 ^ d))).length))), (12, .int (nI ((q / 2) * (2 ^ d)))), (11, .int (nI ((q % 2) * (2 ^ d)))), (0, .ref t), (2, .int (nI (A.length + S.length))), (3, .int (nI x)), (4, .int (nI y)), (5, .int (nI lv)), (7, .int (nI (F.length * 6))), (8, .int (nI (2 ^ d)))]) hx hb dX4_grow_249 hl (k := 11) rfl (by rw [show Int32.ofInt 1 = nI 1 from by decide]; exact nI_add _ _) (by decide) rfl (fun ls hl => ?_)
                refine lv_goto (tgt := 154) hx hb dX4_grow_252 (by decide) ?_
                rw [e1] at hP hD
                have hl : lv_has ls 14 [(10, .int (nI (q + 1))), (9, .int (nI (A.length + Dn.length))), (13, .int (nI (A.length + Dn.length))), (12, .int (nI ((q / 2) * (2 ^ d)))), (11, .int (nI ((q % 2) * (2 ^ d)))), (0, .ref t), (2, .int (nI (A.length + S.length))), (3, .int (nI x)), (4, .int (nI y)), (5, .int (nI lv)), (7, .int (nI (F.length * 6))), (8, .int (nI (2 ^ d)))] := by
                  have hl := hl
                  rw [hlen0] at hl
                  exact hl
                exact ih154 (q + 1) ff1 o2 Dn R2 (by omega) (by rw [← e1]; exact h3) (by rw [hfe] at ho2; simpa using ho2) (by rw [hfe] at hpp; simpa using hpp) (by exact fun q' hq1 hq2 => r_step (by omega) hq2 (by omega) hR2 (h6 q' (by omega) hq2)) (by omega) _ _ hP hD hS ls (lv_sub hl [5, 6, 7, 8, 9, 10, 11, 1, 0] rfl)
              · replace c_205 : ¬ ((A ++ Dn).length + (R.filter (inS L (x + (q % 2) * (2 ^ d)) (y + (q / 2) * (2 ^ d)) (2 ^ d))).length) ≤ (A.length + Dn.length) := fun h9 => c_205 ((nI_leI (by omega) (by omega)).mpr h9)
                refine lv_aload_n hx hb dX4_grow_208 rfl (lv_at hl 3 rfl) ?_
                refine va_get (D := X.1) (ci := 4) (v := .ref fa) (C := RX4) (T := TX4) (N := 9) hx hb hts hin4 hown hK hP 0 rfl rfl 4 (by decide) lk38 (fun _ h9 => h9) rfl dX4_grow_209 ?_
                refine lv_iload hx hb dX4_grow_212 (lv_at hl 8 rfl) ?_
                refine lv_iconst (v := nI 4) hx hb dX4_grow_214 (by decide) ?_
                refine lv_iadd hx hb dX4_grow_215 ?_
                refine lv_topi (fun x_29 ex_29 => ?_)
                obtain rfl : x_29 = nI ((F.length * 6) + 4) := by
                  rw [ex_29]
                  exact nI_add _ _
                refine lv_dup2_11 hx hb dX4_grow_216 rfl rfl ?_
                have hi_30 : vp_in (nI ((F.length * 6) + 4)) (6 * N) := vp_in_nI (by omega) (by omega)
                refine va_iald hx hb hK hP 4 0 rfl rfl hi_30 dX4_grow_217 ?_
                refine lv_topi (fun x_31 ex_31 => ?_)
                obtain rfl : x_31 = ff1 ((F.length * 6) + 4) := by
                  rw [ex_31]
                  rw [nI_clamp (by omega)]
                refine lv_topi (fun x_32 ex_32 => ?_)
                obtain rfl : x_32 = nI (msk x y (2 ^ d) (ps L S) q) := by
                  rw [ex_32]
                  exact gq_at c_17 h3
                refine lv_iconst (v := nI 1) hx hb dX4_grow_218 (by decide) ?_
                refine lv_iload hx hb dX4_grow_219 (lv_at hl 11 rfl) ?_
                refine lv_ishl hx hb dX4_grow_221 ?_
                refine lv_topi (fun x_33 ex_33 => ?_)
                obtain rfl : x_33 = nI (2 ^ q) := by
                  rw [ex_33]
                  exact bI_1shl (by omega)
                refine lv_ior hx hb dX4_grow_222 ?_
                refine lv_topi (fun x_34 ex_34 => ?_)
                obtain rfl : x_34 = nI (msk x y (2 ^ d) (ps L S) q + 2 ^ q) := by
                  rw [ex_34]
                  exact or_msk (msk_lt _ _ _ _ _)
                have hi_35 : vp_in (nI ((F.length * 6) + 4)) (6 * N) := vp_in_nI (by omega) (by omega)
                refine va_iast hx hb hK hP hD hS 4 0 rfl rfl hi_35 dX4_grow_223 (fun H locs hP hD hS => ?_)
                rw [nI_clamp (by omega)] at hP hD
                have hP : va_P X.1 vwCl [(t, .inr (4, [.ref p, .int (nI bk), .int (nI b), .int (nI N), .ref fa, .ref oa, .int (nI ((gq bk d x y N (ps L S) F q (msk x y (2 ^ d) (ps L S) q)).length)), .int (nI (dpt b (gq bk d x y N (ps L S) F q (msk x y (2 ^ d) (ps L S) q)))), .int f_mo])), (p, .inr (2, [.ref k, .ref v, .int (nI L.length), .int (nI w)])), (k, .inl (X.2.1, 512, .inl kf)), (v, .inl (X.2.1, 512, .inl vf)), (fa, .inl (X.2.1, 6 * N, .inl (upd ff1 ((F.length * 6) + 4) (nI (msk x y (2 ^ d) (ps L S) q + 2 ^ q))))), (oa, .inl (X.2.1, 512, .inl o2))] H := hP
                have hD : va_D A_ [(t, .inr (4, [.ref p, .int (nI bk), .int (nI b), .int (nI N), .ref fa, .ref oa, .int (nI ((gq bk d x y N (ps L S) F q (msk x y (2 ^ d) (ps L S) q)).length)), .int (nI (dpt b (gq bk d x y N (ps L S) F q (msk x y (2 ^ d) (ps L S) q)))), .int f_mo])), (p, .inr (2, [.ref k, .ref v, .int (nI L.length), .int (nI w)])), (k, .inl (X.2.1, 512, .inl kf)), (v, .inl (X.2.1, 512, .inl vf)), (fa, .inl (X.2.1, 6 * N, .inl (upd ff1 ((F.length * 6) + 4) (nI (msk x y (2 ^ d) (ps L S) q + 2 ^ q))))), (oa, .inl (X.2.1, 512, .inl o2))] := hD
                have hmk := gq_mask (m' := msk x y (2 ^ d) (ps L S) q + 2 ^ q) c_17 h3
                rw [gq_len (m := msk x y (2 ^ d) (ps L S) q) (m' := msk x y (2 ^ d) (ps L S) q + 2 ^ q), gq_dpt (m := msk x y (2 ^ d) (ps L S) q) (m' := msk x y (2 ^ d) (ps L S) q + 2 ^ q)] at hP hD
                have hP : va_P X.1 vwCl [(t, .inr (4, [.ref p, .int (nI bk), .int (nI b), .int (nI N), .ref fa, .ref oa, .int (nI ((gq bk d x y N (ps L S) F q (msk x y (2 ^ d) (ps L S) q + 2 ^ q)).length)), .int (nI (dpt b (gq bk d x y N (ps L S) F q (msk x y (2 ^ d) (ps L S) q + 2 ^ q)))), .int f_mo])), (p, .inr (2, [.ref k, .ref v, .int (nI L.length), .int (nI w)])), (k, .inl (X.2.1, 512, .inl kf)), (v, .inl (X.2.1, 512, .inl vf)), (fa, .inl (X.2.1, 6 * N, .inl (upd ff1 ((F.length * 6) + 4) (nI (msk x y (2 ^ d) (ps L S) q + 2 ^ q))))), (oa, .inl (X.2.1, 512, .inl o2))] _ := hP
                have hD : va_D A_ [(t, .inr (4, [.ref p, .int (nI bk), .int (nI b), .int (nI N), .ref fa, .ref oa, .int (nI ((gq bk d x y N (ps L S) F q (msk x y (2 ^ d) (ps L S) q + 2 ^ q)).length)), .int (nI (dpt b (gq bk d x y N (ps L S) F q (msk x y (2 ^ d) (ps L S) q + 2 ^ q)))), .int f_mo])), (p, .inr (2, [.ref k, .ref v, .int (nI L.length), .int (nI w)])), (k, .inl (X.2.1, 512, .inl kf)), (v, .inl (X.2.1, 512, .inl vf)), (fa, .inl (X.2.1, 6 * N, .inl (upd ff1 ((F.length * 6) + 4) (nI (msk x y (2 ^ d) (ps L S) q + 2 ^ q))))), (oa, .inl (X.2.1, 512, .inl o2))] := hD
                have hndq : (R.filter (inS L (x + (q % 2) * (2 ^ d)) (y + (q / 2) * (2 ^ d)) (2 ^ d))).Nodup := (((h5.nodup_iff).mpr hnd).sublist (List.sublist_append_right Dn R)).sublist List.filter_sublist
                refine lv_aload_n hx hb dX4_grow_224 rfl (lv_at hl 3 rfl) ?_
                refine lv_iload hx hb dX4_grow_225 (lv_at hl 10 rfl) ?_
                refine lv_iload hx hb dX4_grow_227 (lv_at hl 0 rfl) ?_
                refine lv_iload_n hx hb dX4_grow_229 rfl (lv_at hl 5 rfl) ?_
                refine lv_iload hx hb dX4_grow_230 (lv_at hl 2 rfl) ?_
                refine lv_iadd hx hb dX4_grow_232 ?_
                refine lv_topi (fun x_36 ex_36 => ?_)
                obtain rfl : x_36 = nI (x + ((q % 2) * (2 ^ d))) := by
                  rw [ex_36]
                  exact nI_add _ _
                refine lv_iload hx hb dX4_grow_233 (lv_at hl 6 rfl) ?_
                refine lv_iload hx hb dX4_grow_235 (lv_at hl 1 rfl) ?_
                refine lv_iadd hx hb dX4_grow_237 ?_
                refine lv_topi (fun x_37 ex_37 => ?_)
                obtain rfl : x_37 = nI (y + ((q / 2) * (2 ^ d))) := by
                  rw [ex_37]
                  exact nI_add _ _
                refine lv_iload hx hb dX4_grow_238 (lv_at hl 7 rfl) ?_
                refine lv_iconst (v := nI 1) hx hb dX4_grow_240 (by decide) ?_
                refine lv_iadd hx hb dX4_grow_241 ?_
                refine lv_topi (fun x_38 ex_38 => ?_)
                obtain rfl : x_38 = nI (lv + 1) := by
                  rw [ex_38]
                  exact nI_add _ _
                refine ckSv (As := [.ref t, .int (nI (A.length + Dn.length)), .int (nI ((A ++ Dn).length + (R.filter (inS L (x + (q % 2) * (2 ^ d)) (y + (q / 2) * (2 ^ d)) (2 ^ d))).length)), .int (nI (x + ((q % 2) * (2 ^ d)))), .int (nI (y + ((q / 2) * (2 ^ d)))), .int (nI (lv + 1))]) (rest := []) [0, 1, 2, 3, 4, 5] (ihd t p k v fa oa bk b N (x + ((q % 2) * (2 ^ d))) (y + ((q / 2) * (2 ^ d))) (lv + 1) w (A.length + Dn.length) ((A ++ Dn).length + (R.filter (inS L (x + (q % 2) * (2 ^ d)) (y + (q / 2) * (2 ^ d)) (2 ^ d))).length) f_mo kf vf (upd ff1 ((F.length * 6) + 4) (nI (msk x y (2 ^ d) (ps L S) q + 2 ^ q))) o2 L (gq bk d x y N (ps L S) F q (msk x y (2 ^ d) (ps L S) q + 2 ^ q)) (A ++ Dn) (R.filter (inS L (x + (q % 2) * (2 ^ d)) (y + (q / 2) * (2 ^ d)) (2 ^ d))) (R2 ++ B) h hmk (List.length_take_le _ _) hN4 (by simpa using ho2) (by have e8 := hpp.length_eq; simp only [List.length_append] at e8 ⊢; omega) List.length_append.symm rfl (by omega) hb1 hbk hbk2 (by omega) (by omega) hndq (fun i hi => (List.mem_filter.mp hi).2) (al_kid _ hxa) (al_kid _ hya)) ⟨hx, hb, hml, hown, hts⟩ (va_cwS 6 hts gX4_grow_X4_grow rfl rfl rfl (by decide +kernel) ⟨(by show d + 3 + 1 + 1 ≤ d + 1 + 3 + 1; omega), (by show 8 + (14 + 11) + 100 * (d + 3 + 1) ≤ 100 * (d + 1 + 3 + 1); omega)⟩) hK hN hP hD hS (by decide) rfl (fun _ => rfl) rfl hl.1 rfl (Nat.le_of_ble_eq_true rfl) dX4_grow_242 ⟨Nat.zero_le _, Nat.zero_le _⟩ (fun u_39 H locs hg hP hD hS => ?_)
                obtain ⟨ff2, o3, S3⟩ := u_39
                have hP : va_P X.1 vwCl [(t, .inr (4, [.ref p, .int (nI bk), .int (nI b), .int (nI N), .ref fa, .ref oa, .int (nI ((gF bk d (x + ((q % 2) * (2 ^ d))) (y + ((q / 2) * (2 ^ d))) N (ps L (R.filter (inS L (x + (q % 2) * (2 ^ d)) (y + (q / 2) * (2 ^ d)) (2 ^ d)))) (gq bk d x y N (ps L S) F q (msk x y (2 ^ d) (ps L S) q + 2 ^ q))).length)), .int (nI (dpt b (gF bk d (x + ((q % 2) * (2 ^ d))) (y + ((q / 2) * (2 ^ d))) N (ps L (R.filter (inS L (x + (q % 2) * (2 ^ d)) (y + (q / 2) * (2 ^ d)) (2 ^ d)))) (gq bk d x y N (ps L S) F q (msk x y (2 ^ d) (ps L S) q + 2 ^ q))))), .int f_mo])), (p, .inr (2, [.ref k, .ref v, .int (nI L.length), .int (nI w)])), (k, .inl (X.2.1, 512, .inl kf)), (v, .inl (X.2.1, 512, .inl vf)), (fa, .inl (X.2.1, 6 * N, .inl ff2)), (oa, .inl (X.2.1, 512, .inl o3))] H := hP
                have hD : va_D A_ [(t, .inr (4, [.ref p, .int (nI bk), .int (nI b), .int (nI N), .ref fa, .ref oa, .int (nI ((gF bk d (x + ((q % 2) * (2 ^ d))) (y + ((q / 2) * (2 ^ d))) N (ps L (R.filter (inS L (x + (q % 2) * (2 ^ d)) (y + (q / 2) * (2 ^ d)) (2 ^ d)))) (gq bk d x y N (ps L S) F q (msk x y (2 ^ d) (ps L S) q + 2 ^ q))).length)), .int (nI (dpt b (gF bk d (x + ((q % 2) * (2 ^ d))) (y + ((q / 2) * (2 ^ d))) N (ps L (R.filter (inS L (x + (q % 2) * (2 ^ d)) (y + (q / 2) * (2 ^ d)) (2 ^ d)))) (gq bk d x y N (ps L S) F q (msk x y (2 ^ d) (ps L S) q + 2 ^ q))))), .int f_mo])), (p, .inr (2, [.ref k, .ref v, .int (nI L.length), .int (nI w)])), (k, .inl (X.2.1, 512, .inl kf)), (v, .inl (X.2.1, 512, .inl vf)), (fa, .inl (X.2.1, 6 * N, .inl ff2)), (oa, .inl (X.2.1, 512, .inl o3))] := hD
                try dsimp only at hg
                obtain ⟨hg1, hg2, hg3⟩ := hg
                have e0 : tr bk d (x + q % 2 * 2 ^ d) (y + q / 2 * 2 ^ d) (ps L (R.filter (inS L (x + (q % 2) * (2 ^ d)) (y + (q / 2) * (2 ^ d)) (2 ^ d)))) = tr bk d (x + q % 2 * 2 ^ d) (y + q / 2 * 2 ^ d) (sub x y (2 ^ d) (ps L S) q) := tr_perm bk d _ _ _ _ hsub
                have emk : msk x y (2 ^ d) (ps L S) q + 2 ^ q = msk x y (2 ^ d) (ps L S) (q + 1) := by
                  show _ = msk x y (2 ^ d) (ps L S) q + (if (sub x y (2 ^ d) (ps L S) q).length = 0 then 0 else 2 ^ q)
                  rw [if_neg (by omega)]
                have e1 : gF bk d (x + (q % 2) * (2 ^ d)) (y + (q / 2) * (2 ^ d)) N (ps L (R.filter (inS L (x + (q % 2) * (2 ^ d)) (y + (q / 2) * (2 ^ d)) (2 ^ d)))) (gq bk d x y N (ps L S) F q (msk x y (2 ^ d) (ps L S) q + 2 ^ q)) = gq bk d x y N (ps L S) F (q + 1) (msk x y (2 ^ d) (ps L S) (q + 1)) := by
                  unfold gF
                  rw [e0, gq_kid (by omega), emk]
                have hpp2 : ((Dn ++ S3) ++ R2).Perm S := by
                  rw [List.append_assoc]
                  exact ((List.Perm.append_left Dn (List.Perm.append_right R2 hg3)).trans hpp)
                have hlen1 : (A ++ Dn).length + (R.filter (inS L (x + (q % 2) * (2 ^ d)) (y + (q / 2) * (2 ^ d)) (2 ^ d))).length = A.length + (Dn ++ S3).length := by
                  rw [List.length_append, List.length_append, hg3.length_eq]
                  omega
                refine lv_iload hx hb dX4_grow_245 (lv_at hl 0 rfl) ?_
                refine lv_istore (lv' := [(9, .int (nI ((A ++ Dn).length + (R.filter (inS L (x + (q % 2) * (2 ^ d)) (y + (q / 2) * (2 ^ d)) (2 ^ d))).length))), (13, .int (nI ((A ++ Dn).length + (R.filter (inS L (x + (q % 2) * (2 ^ d)) (y + (q / 2) * (2 ^ d)) (2 ^ d))).length))), (12, .int (nI ((q / 2) * (2 ^ d)))), (11, .int (nI ((q % 2) * (2 ^ d)))), (0, .ref t), (2, .int (nI (A.length + S.length))), (3, .int (nI x)), (4, .int (nI y)), (5, .int (nI lv)), (7, .int (nI (F.length * 6))), (8, .int (nI (2 ^ d))), (10, .int (nI q))]) hx hb dX4_grow_247 hl (by decide) rfl (fun ls hl => ?_)
                refine lv_iinc (v := nI (q + 1)) (lv' := [(10, .int (nI (q + 1))), (9, .int (nI ((A ++ Dn).length + (R.filter (inS L (x + (q % 2) * (2 ^ d)) (y + (q / 2) * (2 ^ d)) (2 ^ d))).length))), (13, .int (nI ((A ++ Dn).length + (R.filter (inS L (x + (q % 2) * (2 ^ d)) (y + (q / 2) * (2 ^ d)) (2 ^ d))).length))), (12, .int (nI ((q / 2) * (2 ^ d)))), (11, .int (nI ((q % 2) * (2 ^ d)))), (0, .ref t), (2, .int (nI (A.length + S.length))), (3, .int (nI x)), (4, .int (nI y)), (5, .int (nI lv)), (7, .int (nI (F.length * 6))), (8, .int (nI (2 ^ d)))]) hx hb dX4_grow_249 hl (k := 11) rfl (by rw [show Int32.ofInt 1 = nI 1 from by decide]; exact nI_add _ _) (by decide) rfl (fun ls hl => ?_)
                refine lv_goto (tgt := 154) hx hb dX4_grow_252 (by decide) ?_
                rw [e1] at hP hD
                have hl : lv_has ls 14 [(10, .int (nI (q + 1))), (9, .int (nI (A.length + (Dn ++ S3).length))), (13, .int (nI (A.length + (Dn ++ S3).length))), (12, .int (nI ((q / 2) * (2 ^ d)))), (11, .int (nI ((q % 2) * (2 ^ d)))), (0, .ref t), (2, .int (nI (A.length + S.length))), (3, .int (nI x)), (4, .int (nI y)), (5, .int (nI lv)), (7, .int (nI (F.length * 6))), (8, .int (nI (2 ^ d)))] := by
                  have hl := hl
                  rw [hlen1] at hl
                  exact hl
                exact ih154 (q + 1) ff2 o3 (Dn ++ S3) R2 (by omega) (by rw [← e1]; exact hg1) (by simpa using hg2) (by exact hpp2) (by exact fun q' hq1 hq2 => r_step (by omega) hq2 (by omega) hR2 (h6 q' (by omega) hq2)) (by omega) _ _ hP hD hS ls (lv_sub hl [5, 6, 7, 8, 9, 10, 11, 1, 0] rfl)
        rw [show F.length + 1 = (gq bk d x y N (ps L S) F 0 (msk x y (2 ^ d) (ps L S) 0)).length from by rw [gq_0 c_17]; simp, show max (dpt b F) lv = dpt b (gq bk d x y N (ps L S) F 0 (msk x y (2 ^ d) (ps L S) 0)) from by rw [gq_0 c_17]; exact hdpt] at hP hD
        exact loop_154 _ 0 (set6 ff F.length (nI (2 ^ (d + 1))) (nI x) (nI y) (nI S.length) (nI 0) (nI (low (ps L S)))) o ([] : List Nat) S (by omega) (by rw [gq_0 c_17]; exact hpush) (by simpa using ho) (by simp) (by exact fun q' _ _ => List.Perm.refl _) (Nat.lt_succ_self _) _ _ hP hD hS ls (lv_sub hl [5, 7, 8, 9, 10, 3, 2, 1, 0] rfl)
      · replace c_138 : ¬ bk < S.length := fun h9 => c_138 ((nI_ltI (by omega) (by omega)).mpr h9)
        have hlf := gF_leaf (bk := bk) (d := d) (x := x) (y := y) (P := ps L S) c_17 (by rw [ps_len]; omega)
        rw [show F.length + 1 = (gF bk (d + 1) x y N (ps L S) F).length from by rw [hlf]; simp, show max (dpt b F) lv = dpt b (gF bk (d + 1) x y N (ps L S) F) from by rw [hlf]; exact hdpt] at hP
        refine wM hQ ?_
        exact rtV (set6 ff F.length (nI (2 ^ (d + 1))) (nI x) (nI y) (nI S.length) (nI 0) (nI (low (ps L S))), o, S) hx hb hr hlocks hP hS (⟨by show fOk _ _; rw [hlf]; exact hpush, ho, List.Perm.refl _⟩) dX4_grow_141
    · replace c_17 : ¬ F.length < N := fun h9 => c_17 ((nI_ltI (by omega) (by omega)).mpr h9)
      have hfl := gF_full (bk := bk) (d := d + 1) (x := x) (y := y) (P := ps L S) (F := F) (N := N) (by omega)
      refine wM hQ ?_
      exact rtV (ff, o, S) hx hb hr hlocks (by show va_P X.1 vwCl [(t, .inr (4, [.ref p, .int (nI bk), .int (nI b), .int (nI N), .ref fa, .ref oa, .int (nI ((gF bk (d + 1) x y N (ps L S) F).length)), .int (nI (dpt b (gF bk (d + 1) x y N (ps L S) F))), .int f_mo])), (p, .inr (2, [.ref k, .ref v, .int (nI L.length), .int (nI w)])), (k, .inl (X.2.1, 512, .inl kf)), (v, .inl (X.2.1, 512, .inl vf)), (fa, .inl (X.2.1, 6 * N, .inl ff)), (oa, .inl (X.2.1, 512, .inl o))] _; rw [hfl]; exact hP) hS (⟨by show fOk ff _; rw [hfl]; exact hF, ho, List.Perm.refl _⟩) dX4_grow_20
theorem c_X4_grow (l : Launch) (X : kX) : ∀ (d : Nat) (t p k v fa oa bk b N  x y lv w fr to_ : Nat) (f_mo : Int32) (kf vf ff o : Nat → Int32) (L : PL) (F : List Nd) (A S B : List Nat) (h : ptOk kf vf L) (hF : fOk ff F) (hFN : F.length ≤ N) (hN4 : N ≤ 401) (ho : oOk o (A ++ S ++ B) L.length) (hln : (A ++ S ++ B).length ≤ 512) (hfr : fr = A.length) (hto : to_ = A.length + S.length) (hb0 : lv + (d) = b) (hb1 : b ≤ 15) (hbk : 1 ≤ bk) (hbk2 : bk ≤ 8) (hx0 : x + 2 ^ (d) ≤ 32768) (hy0 : y + 2 ^ (d) ≤ 32768) (hnd : S.Nodup) (hrg : ∀ i ∈ S, inS L x y (2 ^ (d)) i = true) (hxa : ∃ t, x = t * 2 ^ (d)) (hya : ∃ t, y = t * 2 ^ (d)), CWv l X yX4_grow wsX4_grow (d + 3) [.ref t, .int (nI fr), .int (nI to_), .int (nI x), .int (nI y), .int (nI lv)] [(t, .inr (4, [.ref p, .int (nI bk), .int (nI b), .int (nI N), .ref fa, .ref oa, .int (nI F.length), .int (nI (dpt b F)), .int f_mo])), (p, .inr (2, [.ref k, .ref v, .int (nI L.length), .int (nI w)])), (k, .inl (X.2.1, 512, .inl kf)), (v, .inl (X.2.1, 512, .inl vf)), (fa, .inl (X.2.1, 6 * N, .inl ff)), (oa, .inl (X.2.1, 512, .inl o))] (S := (Nat → Int32) × (Nat → Int32) × List Nat) (fun u => fOk u.1 (gF bk d x y N (ps L S) F) ∧ oOk u.2.1 (A ++ u.2.2 ++ B) L.length ∧ u.2.2.Perm S) (fun ⟨ff2, o2, S2⟩ => [(t, .inr (4, [.ref p, .int (nI bk), .int (nI b), .int (nI N), .ref fa, .ref oa, .int (nI ((gF bk d x y N (ps L S) F).length)), .int (nI (dpt b (gF bk d x y N (ps L S) F))), .int f_mo])), (p, .inr (2, [.ref k, .ref v, .int (nI L.length), .int (nI w)])), (k, .inl (X.2.1, 512, .inl kf)), (v, .inl (X.2.1, 512, .inl vf)), (fa, .inl (X.2.1, 6 * N, .inl ff2)), (oa, .inl (X.2.1, 512, .inl o2))])
  | 0 => c_X4_grow_0 l X
  | d + 1 => c_X4_grow_s l X d (c_X4_grow l X d)
set_option maxHeartbeats 4000000 in
set_option maxRecDepth 100000 in
theorem c_X4_upToDate (l : Launch) (X : kX) (t p k v fa oa bk b N w : Nat) (f_nn f_dd f_mo : Int32) (kf vf ff o : Nat → Int32) (L : PL) (h : ptOk kf vf L) (hN4 : N ≤ 401) (hb1 : b ≤ 15) (hbk : 1 ≤ bk) (hbk2 : bk ≤ 8) (hrg : ∀ i, i < L.length → inS L 0 0 (2 ^ b) i = true) (hval : f_mo = nI w → f_nn = nI (gF bk b 0 0 N L []).length ∧ f_dd = nI (dpt b (gF bk b 0 0 N L [])) ∧ fOk ff (gF bk b 0 0 N L [])) : CWr l X yX4_upToDate wsX4_upToDate (b + 4) [.ref t] [(t, .inr (4, [.ref p, .int (nI bk), .int (nI b), .int (nI N), .ref fa, .ref oa, .int f_nn, .int f_dd, .int f_mo])), (p, .inr (2, [.ref k, .ref v, .int (nI L.length), .int (nI w)])), (k, .inl (X.2.1, 512, .inl kf)), (v, .inl (X.2.1, 512, .inl vf)), (fa, .inl (X.2.1, 6 * N, .inl ff)), (oa, .inl (X.2.1, 512, .inl o))] t (S := (Nat → Int32) × (Nat → Int32)) (fun u => fOk u.1 (gF bk b 0 0 N L [])) (fun ⟨ff2, o2⟩ => [(t, .inr (4, [.ref p, .int (nI bk), .int (nI b), .int (nI N), .ref fa, .ref oa, .int (nI ((gF bk b 0 0 N L []).length)), .int (nI (dpt b (gF bk b 0 0 N L []))), .int (nI w)])), (p, .inr (2, [.ref k, .ref v, .int (nI L.length), .int (nI w)])), (k, .inl (X.2.1, 512, .inl kf)), (v, .inl (X.2.1, 512, .inl vf)), (fa, .inl (X.2.1, 6 * N, .inl ff2)), (oa, .inl (X.2.1, 512, .inl o2))]) := by
  refine Met.ofW (cc := cX4_upToDate) (maxL := 2) (ret := some ((.object "PointStore$Tree"))) (by decide) rfl ?_
  intro pz ez sz mz args below meth cz s₁ Bz hml hv
  obtain ⟨rfl, hP, hK, hD0, hN⟩ := hv
  have hx := Bz.exec
  have hb := Bz.bytes
  have hr := Bz.returns
  have hts := atoms_spec (ws := wsX4_upToDate) Bz.pre
  have hown : sz.vm.findClass RX4 = some mz.cls := findClass_of_methodNamed Bz.named
  have hlocks := Bz.notSynchronized
  have hD := inW.self hD0
  have hS : va_S (inW [(t, .inr (4, [.ref p, .int (nI bk), .int (nI b), .int (nI N), .ref fa, .ref oa, .int f_nn, .int f_dd, .int f_mo])), (p, .inr (2, [.ref k, .ref v, .int (nI L.length), .int (nI w)])), (k, .inl (X.2.1, 512, .inl kf)), (v, .inl (X.2.1, 512, .inl vf)), (fa, .inl (X.2.1, 6 * N, .inl ff)), (oa, .inl (X.2.1, 512, .inl o))]) sz.heap sz.heap [] := va_S.rf
  have hl := lv_entry ([.ref t]) (n := 2) (Nat.le_of_ble_eq_true rfl)
  rw [lg_entry_eq]
  generalize (lg_sl ([.ref t]) ++ List.replicate (2 - (lg_sl ([.ref t])).length) Slot.unset).toArray = ls at hl ⊢
  have hl : lv_has ls 2 [(0, .ref t)] := hl
  have lk9 := hts (.fieldLink RX4 9 "PointStore$Tree" "order" "[I") (by decide +kernel)
  have lk15 := hts (.fieldLink RX4 15 "PointStore$Tree" "nodes" "I") (by decide +kernel)
  have lk19 := hts (.fieldLink RX4 19 "PointStore$Tree" "depth" "I") (by decide +kernel)
  have lk22 := hts (.fieldLink RX4 22 "PointStore$Tree" "madeOf" "I") (by decide +kernel)
  have lk25 := hts (.fieldLink RX4 25 "PointStore$Tree" "points" "LPointStore$Points;") (by decide +kernel)
  have lk41 := hts (.fieldLink RX4 41 "PointStore$Points" "version" "I") (by decide +kernel)
  have lk46 := hts (.fieldLink RX4 46 "PointStore$Points" "total" "I") (by decide +kernel)
  have hin2 : ∀ w ∈ u_ws RX2 TX2 4, w ∈ wsX4_upToDate := by decide +kernel
  have hin4 : ∀ w ∈ u_ws RX4 TX4 9, w ∈ wsX4_upToDate := by decide +kernel
  refine wQ (fun Q hQ => ?_)
  generalize hAe : inW [(t, .inr (4, [.ref p, .int (nI bk), .int (nI b), .int (nI N), .ref fa, .ref oa, .int f_nn, .int f_dd, .int f_mo])), (p, .inr (2, [.ref k, .ref v, .int (nI L.length), .int (nI w)])), (k, .inl (X.2.1, 512, .inl kf)), (v, .inl (X.2.1, 512, .inl vf)), (fa, .inl (X.2.1, 6 * N, .inl ff)), (oa, .inl (X.2.1, 512, .inl o))] = A_ at hD hS hQ
  have hL := h.1
  have hpb : 2 ^ b ≤ 32768 := Nat.pow_le_pow_right (n := 2) (by decide) hb1
  refine lv_aload_n hx hb dX4_upToDate_0 rfl (lv_at hl 0 rfl) ?_
  refine va_get (D := X.1) (ci := 4) (v := .int f_mo) (C := RX4) (T := TX4) (N := 9) hx hb hts hin4 hown hK hP 0 rfl rfl 8 (by decide) lk22 (fun _ h9 => h9) rfl dX4_upToDate_1 ?_
  refine lv_aload_n hx hb dX4_upToDate_4 rfl (lv_at hl 0 rfl) ?_
  refine va_get (D := X.1) (ci := 4) (v := .ref p) (C := RX4) (T := TX4) (N := 9) hx hb hts hin4 hown hK hP 0 rfl rfl 0 (by decide) lk25 (fun _ h9 => h9) rfl dX4_upToDate_5 ?_
  refine va_get (D := X.1) (ci := 2) (v := .int (nI w)) (C := RX2) (T := TX2) (N := 4) hx hb hts hin2 hown hK hP 1 rfl rfl 3 (by decide) lk41 (fun _ h9 => h9) rfl dX4_upToDate_8 ?_
  refine lv_icmp_eq (tgt := 76) hx hb dX4_upToDate_11 (by decide) (fun c_11 => ?_) (fun c_11 => ?_)
  · skip
    obtain ⟨rfl, rfl, hf⟩ := hval c_11
    obtain rfl := c_11
    · skip
      refine lv_aload_n hx hb dX4_upToDate_76 rfl (lv_at hl 0 rfl) ?_
      refine wM hQ ?_
      exact rtA (ff, o) hx hb hr hlocks hP hS (hf) dX4_upToDate_77
  · skip
    refine lv_iconst (v := nI 0) hx hb dX4_upToDate_14 (by decide) ?_
    refine lv_istore_n (lv' := [(1, .int (nI 0)), (0, .ref t)]) hx hb dX4_upToDate_15 rfl hl (by decide) rfl (fun ls hl => ?_)
    have loop_16 : ∀ (fu : Nat) (i : Nat) (o1 : Nat → Int32), (i ≤ L.length) → (∀ j, j < i → o1 j = nI j) → L.length - i < fu → ∀ (H : Heap) (locs : List Loc), va_P X.1 vwCl [(t, .inr (4, [.ref p, .int (nI bk), .int (nI b), .int (nI N), .ref fa, .ref oa, .int f_nn, .int f_dd, .int f_mo])), (p, .inr (2, [.ref k, .ref v, .int (nI L.length), .int (nI w)])), (k, .inl (X.2.1, 512, .inl kf)), (v, .inl (X.2.1, 512, .inl vf)), (fa, .inl (X.2.1, 6 * N, .inl ff)), (oa, .inl (X.2.1, 512, .inl o1))] H → va_D A_ [(t, .inr (4, [.ref p, .int (nI bk), .int (nI b), .int (nI N), .ref fa, .ref oa, .int f_nn, .int f_dd, .int f_mo])), (p, .inr (2, [.ref k, .ref v, .int (nI L.length), .int (nI w)])), (k, .inl (X.2.1, 512, .inl kf)), (v, .inl (X.2.1, 512, .inl vf)), (fa, .inl (X.2.1, 6 * N, .inl ff)), (oa, .inl (X.2.1, 512, .inl o1))] → va_S A_ sz.heap H locs → ∀ (ls : Array Slot), lv_has ls 2 [(0, .ref t), (1, .int (nI i))] → W pz l ez (headSpec wsX4_upToDate (rmk (b + 4))).room sz mz ([.ref t].toArray) below meth cz H locs 0 0 Q (F0 mz 16 ls []) := by
      intro fu
      induction fu with
      | zero => intro i o1 h1 h2 hfu; exact absurd hfu (Nat.not_lt_zero _)
      | succ fu ih16 =>
        intro i o1 h1 h2 hfu H locs hP hD hS ls hl
        refine lv_iload_n hx hb dX4_upToDate_16 rfl (lv_at hl 1 rfl) ?_
        refine lv_aload_n hx hb dX4_upToDate_17 rfl (lv_at hl 0 rfl) ?_
        refine va_get (D := X.1) (ci := 4) (v := .ref p) (C := RX4) (T := TX4) (N := 9) hx hb hts hin4 hown hK hP 0 rfl rfl 0 (by decide) lk25 (fun _ h9 => h9) rfl dX4_upToDate_18 ?_
        refine va_get (D := X.1) (ci := 2) (v := .int (nI L.length)) (C := RX2) (T := TX2) (N := 4) hx hb hts hin2 hown hK hP 1 rfl rfl 2 (by decide) lk46 (fun _ h9 => h9) rfl dX4_upToDate_21 ?_
        refine lv_icmp_ge (tgt := 40) hx hb dX4_upToDate_24 (by decide) (fun c_24 => ?_) (fun c_24 => ?_)
        · replace c_24 : L.length ≤ i := (nI_leI (by omega) (by omega)).mp c_24
          refine lv_aload_n hx hb dX4_upToDate_40 rfl (lv_at hl 0 rfl) ?_
          refine lv_iconst (v := nI 0) hx hb dX4_upToDate_41 (by decide) ?_
          refine va_put (D := X.1) (ci := 4) (v := .int (nI 0)) (ty := .int) (C := RX4) (T := TX4) (N := 9) hx hb hts hin4 tyX4 tyX4_ok nmX4 hown hK hP hD hS 0 rfl rfl 6 (by decide) lk15 (fun _ h9 => h9) rfl (by decide +kernel) rfl rfl (Nat.le_of_ble_eq_true rfl) dX4_upToDate_42 (fun H locs hP hD hS => ?_)
          have hP : va_P X.1 vwCl [(t, .inr (4, [.ref p, .int (nI bk), .int (nI b), .int (nI N), .ref fa, .ref oa, .int (nI 0), .int f_dd, .int f_mo])), (p, .inr (2, [.ref k, .ref v, .int (nI L.length), .int (nI w)])), (k, .inl (X.2.1, 512, .inl kf)), (v, .inl (X.2.1, 512, .inl vf)), (fa, .inl (X.2.1, 6 * N, .inl ff)), (oa, .inl (X.2.1, 512, .inl o1))] H := hP
          have hD : va_D A_ [(t, .inr (4, [.ref p, .int (nI bk), .int (nI b), .int (nI N), .ref fa, .ref oa, .int (nI 0), .int f_dd, .int f_mo])), (p, .inr (2, [.ref k, .ref v, .int (nI L.length), .int (nI w)])), (k, .inl (X.2.1, 512, .inl kf)), (v, .inl (X.2.1, 512, .inl vf)), (fa, .inl (X.2.1, 6 * N, .inl ff)), (oa, .inl (X.2.1, 512, .inl o1))] := hD
          refine lv_aload_n hx hb dX4_upToDate_45 rfl (lv_at hl 0 rfl) ?_
          refine lv_iconst (v := nI 0) hx hb dX4_upToDate_46 (by decide) ?_
          refine va_put (D := X.1) (ci := 4) (v := .int (nI 0)) (ty := .int) (C := RX4) (T := TX4) (N := 9) hx hb hts hin4 tyX4 tyX4_ok nmX4 hown hK hP hD hS 0 rfl rfl 7 (by decide) lk19 (fun _ h9 => h9) rfl (by decide +kernel) rfl rfl (Nat.le_of_ble_eq_true rfl) dX4_upToDate_47 (fun H locs hP hD hS => ?_)
          have hP : va_P X.1 vwCl [(t, .inr (4, [.ref p, .int (nI bk), .int (nI b), .int (nI N), .ref fa, .ref oa, .int (nI 0), .int (nI 0), .int f_mo])), (p, .inr (2, [.ref k, .ref v, .int (nI L.length), .int (nI w)])), (k, .inl (X.2.1, 512, .inl kf)), (v, .inl (X.2.1, 512, .inl vf)), (fa, .inl (X.2.1, 6 * N, .inl ff)), (oa, .inl (X.2.1, 512, .inl o1))] H := hP
          have hD : va_D A_ [(t, .inr (4, [.ref p, .int (nI bk), .int (nI b), .int (nI N), .ref fa, .ref oa, .int (nI 0), .int (nI 0), .int f_mo])), (p, .inr (2, [.ref k, .ref v, .int (nI L.length), .int (nI w)])), (k, .inl (X.2.1, 512, .inl kf)), (v, .inl (X.2.1, 512, .inl vf)), (fa, .inl (X.2.1, 6 * N, .inl ff)), (oa, .inl (X.2.1, 512, .inl o1))] := hD
          refine lv_aload_n hx hb dX4_upToDate_50 rfl (lv_at hl 0 rfl) ?_
          refine lv_iconst (v := nI 0) hx hb dX4_upToDate_51 (by decide) ?_
          refine lv_aload_n hx hb dX4_upToDate_52 rfl (lv_at hl 0 rfl) ?_
          refine va_get (D := X.1) (ci := 4) (v := .ref p) (C := RX4) (T := TX4) (N := 9) hx hb hts hin4 hown hK hP 0 rfl rfl 0 (by decide) lk25 (fun _ h9 => h9) rfl dX4_upToDate_53 ?_
          refine va_get (D := X.1) (ci := 2) (v := .int (nI L.length)) (C := RX2) (T := TX2) (N := 4) hx hb hts hin2 hown hK hP 1 rfl rfl 2 (by decide) lk46 (fun _ h9 => h9) rfl dX4_upToDate_56 ?_
          refine lv_iconst (v := nI 0) hx hb dX4_upToDate_59 (by decide) ?_
          refine lv_iconst (v := nI 0) hx hb dX4_upToDate_60 (by decide) ?_
          refine lv_iconst (v := nI 0) hx hb dX4_upToDate_61 (by decide) ?_
          refine ckSv (As := [.ref t, .int (nI 0), .int (nI L.length), .int (nI 0), .int (nI 0), .int (nI 0)]) (rest := []) [0, 1, 2, 3, 4, 5] (c_X4_grow l X b t p k v fa oa bk b N 0 0 0 w 0 L.length f_mo kf vf ff o1 L ([] : List Nd) ([] : List Nat) (List.range L.length) ([] : List Nat) h (fun j hj => absurd hj (Nat.not_lt_zero j)) (Nat.zero_le _) hN4 (o_range (fun j hj => h2 j (by omega))) (by simp; omega) rfl (by simp) (Nat.zero_add b) hb1 hbk hbk2 (by omega) (by omega) List.nodup_range (fun i hi => hrg i (List.mem_range.mp hi)) (⟨0, (Nat.zero_mul _).symm⟩) (⟨0, (Nat.zero_mul _).symm⟩)) ⟨hx, hb, hml, hown, hts⟩ (va_cwS 6 hts gX4_upToDate_X4_grow rfl rfl rfl (by decide +kernel) ⟨(by show b + 3 + 1 + 1 ≤ b + 4 + 1; omega), (by show 8 + (14 + 11) + 100 * (b + 3 + 1) ≤ 100 * (b + 4 + 1); omega)⟩) hK hN hP hD hS (by decide) rfl (fun _ => rfl) rfl hl.1 rfl (Nat.le_of_ble_eq_true rfl) dX4_upToDate_62 ⟨Nat.zero_le _, Nat.zero_le _⟩ (fun u_1 H locs hg hP hD hS => ?_)
          obtain ⟨ff2, o2, S2⟩ := u_1
          have hP : va_P X.1 vwCl [(t, .inr (4, [.ref p, .int (nI bk), .int (nI b), .int (nI N), .ref fa, .ref oa, .int (nI ((gF bk b 0 0 N (ps L (List.range L.length)) ([] : List Nd)).length)), .int (nI (dpt b (gF bk b 0 0 N (ps L (List.range L.length)) ([] : List Nd)))), .int f_mo])), (p, .inr (2, [.ref k, .ref v, .int (nI L.length), .int (nI w)])), (k, .inl (X.2.1, 512, .inl kf)), (v, .inl (X.2.1, 512, .inl vf)), (fa, .inl (X.2.1, 6 * N, .inl ff2)), (oa, .inl (X.2.1, 512, .inl o2))] H := hP
          have hD : va_D A_ [(t, .inr (4, [.ref p, .int (nI bk), .int (nI b), .int (nI N), .ref fa, .ref oa, .int (nI ((gF bk b 0 0 N (ps L (List.range L.length)) ([] : List Nd)).length)), .int (nI (dpt b (gF bk b 0 0 N (ps L (List.range L.length)) ([] : List Nd)))), .int f_mo])), (p, .inr (2, [.ref k, .ref v, .int (nI L.length), .int (nI w)])), (k, .inl (X.2.1, 512, .inl kf)), (v, .inl (X.2.1, 512, .inl vf)), (fa, .inl (X.2.1, 6 * N, .inl ff2)), (oa, .inl (X.2.1, 512, .inl o2))] := hD
          try dsimp only at hg
          rw [ps_range] at hP hD hg
          have hP : va_P X.1 vwCl [(t, .inr (4, [.ref p, .int (nI bk), .int (nI b), .int (nI N), .ref fa, .ref oa, .int (nI ((gF bk b 0 0 N L []).length)), .int (nI (dpt b (gF bk b 0 0 N L []))), .int f_mo])), (p, .inr (2, [.ref k, .ref v, .int (nI L.length), .int (nI w)])), (k, .inl (X.2.1, 512, .inl kf)), (v, .inl (X.2.1, 512, .inl vf)), (fa, .inl (X.2.1, 6 * N, .inl ff2)), (oa, .inl (X.2.1, 512, .inl o2))] _ := hP
          have hD : va_D A_ [(t, .inr (4, [.ref p, .int (nI bk), .int (nI b), .int (nI N), .ref fa, .ref oa, .int (nI ((gF bk b 0 0 N L []).length)), .int (nI (dpt b (gF bk b 0 0 N L []))), .int f_mo])), (p, .inr (2, [.ref k, .ref v, .int (nI L.length), .int (nI w)])), (k, .inl (X.2.1, 512, .inl kf)), (v, .inl (X.2.1, 512, .inl vf)), (fa, .inl (X.2.1, 6 * N, .inl ff2)), (oa, .inl (X.2.1, 512, .inl o2))] := hD
          refine lv_aload_n hx hb dX4_upToDate_65 rfl (lv_at hl 0 rfl) ?_
          refine lv_aload_n hx hb dX4_upToDate_66 rfl (lv_at hl 0 rfl) ?_
          refine va_get (D := X.1) (ci := 4) (v := .ref p) (C := RX4) (T := TX4) (N := 9) hx hb hts hin4 hown hK hP 0 rfl rfl 0 (by decide) lk25 (fun _ h9 => h9) rfl dX4_upToDate_67 ?_
          refine va_get (D := X.1) (ci := 2) (v := .int (nI w)) (C := RX2) (T := TX2) (N := 4) hx hb hts hin2 hown hK hP 1 rfl rfl 3 (by decide) lk41 (fun _ h9 => h9) rfl dX4_upToDate_70 ?_
          refine va_put (D := X.1) (ci := 4) (v := .int (nI w)) (ty := .int) (C := RX4) (T := TX4) (N := 9) hx hb hts hin4 tyX4 tyX4_ok nmX4 hown hK hP hD hS 0 rfl rfl 8 (by decide) lk22 (fun _ h9 => h9) rfl (by decide +kernel) rfl rfl (Nat.le_of_ble_eq_true rfl) dX4_upToDate_73 (fun H locs hP hD hS => ?_)
          have hP : va_P X.1 vwCl [(t, .inr (4, [.ref p, .int (nI bk), .int (nI b), .int (nI N), .ref fa, .ref oa, .int (nI ((gF bk b 0 0 N L []).length)), .int (nI (dpt b (gF bk b 0 0 N L []))), .int (nI w)])), (p, .inr (2, [.ref k, .ref v, .int (nI L.length), .int (nI w)])), (k, .inl (X.2.1, 512, .inl kf)), (v, .inl (X.2.1, 512, .inl vf)), (fa, .inl (X.2.1, 6 * N, .inl ff2)), (oa, .inl (X.2.1, 512, .inl o2))] H := hP
          have hD : va_D A_ [(t, .inr (4, [.ref p, .int (nI bk), .int (nI b), .int (nI N), .ref fa, .ref oa, .int (nI ((gF bk b 0 0 N L []).length)), .int (nI (dpt b (gF bk b 0 0 N L []))), .int (nI w)])), (p, .inr (2, [.ref k, .ref v, .int (nI L.length), .int (nI w)])), (k, .inl (X.2.1, 512, .inl kf)), (v, .inl (X.2.1, 512, .inl vf)), (fa, .inl (X.2.1, 6 * N, .inl ff2)), (oa, .inl (X.2.1, 512, .inl o2))] := hD
          refine lv_aload_n hx hb dX4_upToDate_76 rfl (lv_at hl 0 rfl) ?_
          refine wM hQ ?_
          exact rtA (ff2, o2) hx hb hr hlocks hP hS (hg.1) dX4_upToDate_77
        · replace c_24 : ¬ L.length ≤ i := fun h9 => c_24 ((nI_leI (by omega) (by omega)).mpr h9)
          refine lv_aload_n hx hb dX4_upToDate_27 rfl (lv_at hl 0 rfl) ?_
          refine va_get (D := X.1) (ci := 4) (v := .ref oa) (C := RX4) (T := TX4) (N := 9) hx hb hts hin4 hown hK hP 0 rfl rfl 5 (by decide) lk9 (fun _ h9 => h9) rfl dX4_upToDate_28 ?_
          refine lv_iload_n hx hb dX4_upToDate_31 rfl (lv_at hl 1 rfl) ?_
          refine lv_iload_n hx hb dX4_upToDate_32 rfl (lv_at hl 1 rfl) ?_
          have hi_3 : vp_in (nI i) 512 := vp_in_nI (by omega) (by omega)
          refine va_iast hx hb hK hP hD hS 5 0 rfl rfl hi_3 dX4_upToDate_33 (fun H locs hP hD hS => ?_)
          rw [nI_clamp (by omega)] at hP hD
          have hP : va_P X.1 vwCl [(t, .inr (4, [.ref p, .int (nI bk), .int (nI b), .int (nI N), .ref fa, .ref oa, .int f_nn, .int f_dd, .int f_mo])), (p, .inr (2, [.ref k, .ref v, .int (nI L.length), .int (nI w)])), (k, .inl (X.2.1, 512, .inl kf)), (v, .inl (X.2.1, 512, .inl vf)), (fa, .inl (X.2.1, 6 * N, .inl ff)), (oa, .inl (X.2.1, 512, .inl (upd o1 i (nI i))))] H := hP
          have hD : va_D A_ [(t, .inr (4, [.ref p, .int (nI bk), .int (nI b), .int (nI N), .ref fa, .ref oa, .int f_nn, .int f_dd, .int f_mo])), (p, .inr (2, [.ref k, .ref v, .int (nI L.length), .int (nI w)])), (k, .inl (X.2.1, 512, .inl kf)), (v, .inl (X.2.1, 512, .inl vf)), (fa, .inl (X.2.1, 6 * N, .inl ff)), (oa, .inl (X.2.1, 512, .inl (upd o1 i (nI i))))] := hD
          refine lv_iinc (v := nI (i + 1)) (lv' := [(1, .int (nI (i + 1))), (0, .ref t)]) hx hb dX4_upToDate_34 hl (k := 1) rfl (by rw [show Int32.ofInt 1 = nI 1 from by decide]; exact nI_add _ _) (by decide) rfl (fun ls hl => ?_)
          refine lv_goto (tgt := 16) hx hb dX4_upToDate_37 (by decide) ?_
          have hstep : ∀ j, j < i + 1 → upd o1 i (nI i) j = nI j := by
            intro j hj
            by_cases hji : j = i
            · rw [hji, pk_us]
            · rw [pk_un hji]; exact h2 j (by omega)
          exact ih16 (i + 1) (upd o1 i (nI i)) (by omega) (by exact hstep) (by omega) _ _ hP hD hS ls (lv_sub hl [1, 0] rfl)
    exact loop_16 _ 0 o (by omega) (by exact fun j hj => absurd hj (Nat.not_lt_zero j)) (Nat.lt_succ_self _) _ _ hP hD hS ls (lv_sub hl [1, 0] rfl)
