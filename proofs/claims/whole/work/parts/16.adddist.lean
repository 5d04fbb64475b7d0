/-! Results.addByDistance: contracts, laid by program (wip/gen/spec_near.py) -/
set_option maxHeartbeats 4000000 in
set_option maxRecDepth 100000 in
theorem c_X3_addByDistance (l : Launch) (X : kX) (r k v dd key mo : Nat) (x : Int32) (ds : Int64) (kf vf : Nat → Int32) (df : Nat → Int64) (R : NRL) (h : nrOk kf vf df R) (hk : key < 2 ^ 30) (hm0 : 1 ≤ mo) (hm : R.length ≤ mo) (hm2 : mo ≤ 150) : CWv l X yX3_addByDistance wsX3_addByDistance 0 [.ref r, .int (nI key), .int x, .long ds, .int (nI mo)] [(r, .inr (3, [.ref k, .ref v, .ref dd, .int (nI R.length)])), (k, .inl (X.2.1, 150, .inl kf)), (v, .inl (X.2.1, 150, .inl vf)), (dd, .inl (X.2.2, 150, .inr (.inl df)))] (S := (Nat → Int32) × (Nat → Int32) × (Nat → Int64)) (fun u => nrOk u.1 u.2.1 u.2.2 ((insD R (key, x, ds)).take mo)) (fun ⟨kf2, vf2, df2⟩ => [(r, .inr (3, [.ref k, .ref v, .ref dd, .int (nI (((insD R (key, x, ds)).take mo).length))])), (k, .inl (X.2.1, 150, .inl kf2)), (v, .inl (X.2.1, 150, .inl vf2)), (dd, .inl (X.2.2, 150, .inr (.inl df2)))]) := by
  refine Met.ofW (cc := cX3_addByDistance) (maxL := 8) (ret := none) (by decide) rfl ?_
  intro pz ez sz mz args below meth cz s₁ Bz hml hv
  obtain ⟨rfl, hP, hK, hD0, hN⟩ := hv
  have hx := Bz.exec
  have hb := Bz.bytes
  have hr := Bz.returns
  have hts := atoms_spec (ws := wsX3_addByDistance) Bz.pre
  have hown : sz.vm.findClass RX3 = some mz.cls := findClass_of_methodNamed Bz.named
  have hlocks := Bz.notSynchronized
  have hD := inW.self hD0
  have hS : va_S (inW [(r, .inr (3, [.ref k, .ref v, .ref dd, .int (nI R.length)])), (k, .inl (X.2.1, 150, .inl kf)), (v, .inl (X.2.1, 150, .inl vf)), (dd, .inl (X.2.2, 150, .inr (.inl df)))]) sz.heap sz.heap [] := va_S.rf
  have hl := lv_entry ([.ref r, .int (nI key), .int x, .long ds, .int (nI mo)]) (n := 8) (Nat.le_of_ble_eq_true rfl)
  rw [lg_entry_eq]
  generalize (lg_sl ([.ref r, .int (nI key), .int x, .long ds, .int (nI mo)]) ++ List.replicate (8 - (lg_sl ([.ref r, .int (nI key), .int x, .long ds, .int (nI mo)])).length) Slot.unset).toArray = ls at hl ⊢
  have hl : lv_has ls 8 [(0, .ref r), (1, .int (nI key)), (2, .int x), (3, .long ds), (5, .int (nI mo))] := hl
  have lk9 := hts (.fieldLink RX3 9 "PointStore$Results" "keys" "[I") (by decide +kernel)
  have lk15 := hts (.fieldLink RX3 15 "PointStore$Results" "values" "[I") (by decide +kernel)
  have lk18 := hts (.fieldLink RX3 18 "PointStore$Results" "distances" "[J") (by decide +kernel)
  have lk22 := hts (.fieldLink RX3 22 "PointStore$Results" "total" "I") (by decide +kernel)
  have hin3 : ∀ w ∈ u_ws RX3 TX3 4, w ∈ wsX3_addByDistance := by decide +kernel
  refine wQ (fun Q hQ => ?_)
  generalize hAe : inW [(r, .inr (3, [.ref k, .ref v, .ref dd, .int (nI R.length)])), (k, .inl (X.2.1, 150, .inl kf)), (v, .inl (X.2.1, 150, .inl vf)), (dd, .inl (X.2.2, 150, .inr (.inl df)))] = A_ at hD hS hQ
  have hL := h.1
  refine lv_aload_n hx hb dX3_addByDistance_0 rfl (lv_at hl 0 rfl) ?_
  refine va_get (D := X.1) (ci := 3) (v := .int (nI R.length)) (C := RX3) (T := TX3) (N := 4) hx hb hts hin3 hown hK hP 0 rfl rfl 3 (by decide) lk22 (fun _ h9 => h9) rfl dX3_addByDistance_1 ?_
  refine lv_istore (lv' := [(6, .int (nI R.length)), (0, .ref r), (1, .int (nI key)), (2, .int x), (3, .long ds), (5, .int (nI mo))]) hx hb dX3_addByDistance_4 hl (by decide) rfl (fun ls hl => ?_)
  refine lv_aload_n hx hb dX3_addByDistance_6 rfl (lv_at hl 1 rfl) ?_
  refine va_get (D := X.1) (ci := 3) (v := .int (nI R.length)) (C := RX3) (T := TX3) (N := 4) hx hb hts hin3 hown hK hP 0 rfl rfl 3 (by decide) lk22 (fun _ h9 => h9) rfl dX3_addByDistance_7 ?_
  refine lv_iconst (v := nI 1) hx hb dX3_addByDistance_10 (by decide) ?_
  refine lv_isub hx hb dX3_addByDistance_11 ?_
  refine lv_istore (lv' := [(7, .int ((nI R.length) - (nI 1))), (6, .int (nI R.length)), (0, .ref r), (1, .int (nI key)), (2, .int x), (3, .long ds), (5, .int (nI mo))]) hx hb dX3_addByDistance_12 hl (by decide) rfl (fun ls hl => ?_)
  have loop_14 : ∀ (fu : Nat) (at_ : Nat), (at_ ≤ R.length) → (∀ j, at_ ≤ j → j < R.length → ds < (R.getD j nr0).2.2) → at_ < fu → ∀ (ls : Array Slot), lv_has ls 8 [(0, .ref r), (1, .int (nI key)), (2, .int x), (3, .long ds), (5, .int (nI mo)), (6, .int (nI at_)), (7, .int (im at_))] → W pz l ez (headSpec wsX3_addByDistance (rmk 0)).room sz mz ([.ref r, .int (nI key), .int x, .long ds, .int (nI mo)].toArray) below meth cz sz.heap [] 0 0 Q (F0 mz 14 ls []) := by
    intro fu
    induction fu with
    | zero => intro at_ h1 h2 hfu; exact absurd hfu (Nat.not_lt_zero _)
    | succ fu ih14 =>
      intro at_ h1 h2 hfu ls hl
      rcases Nat.eq_zero_or_pos at_ with hz | hz
      · skip
        subst hz
        have hpos : posD R ds = 0 := posD_eq R ds 0 h1 h2 (Or.inl rfl)
        rw [show im 0 = -1 from by decide] at hl
        refine lv_iload hx hb dX3_addByDistance_14 (lv_at hl 6 rfl) ?_
        refine lv_if_lt (tgt := 41) hx hb dX3_addByDistance_16 (by decide) (fun c_16 => ?_) (fun c_16 => ?_)
        · skip
          refine lv_iload hx hb dX3_addByDistance_41 (lv_at hl 5 rfl) ?_
          refine lv_iload hx hb dX3_addByDistance_43 (lv_at hl 4 rfl) ?_
          refine lv_icmp_ge (tgt := 56) hx hb dX3_addByDistance_45 (by decide) (fun c_45 => ?_) (fun c_45 => ?_)
          · replace c_45 : mo ≤ 0 := (nI_leI (by omega) (by omega)).mp c_45
            have hsm : ((insD R (key, x, ds)).take mo) = R := nr_same hm (show mo ≤ posD R ds by rw [hpos]; omega)
            refine wM hQ ?_
            exact rtV (kf, vf, df) hx hb hr hlocks (by show va_P X.1 vwCl [(r, .inr (3, [.ref k, .ref v, .ref dd, .int (nI (((insD R (key, x, ds)).take mo).length))])), (k, .inl (X.2.1, 150, .inl kf)), (v, .inl (X.2.1, 150, .inl vf)), (dd, .inl (X.2.2, 150, .inr (.inl df)))] _; rw [hsm]; exact hP) hS ((by show nrOk kf vf df _; rw [hsm]; exact h)) dX3_addByDistance_56
          · replace c_45 : ¬ mo ≤ 0 := fun h9 => c_45 ((nI_leI (by omega) (by omega)).mpr h9)
            refine lv_iload hx hb dX3_addByDistance_48 (lv_at hl 5 rfl) ?_
            refine lv_sipush (v := nI 150) hx hb dX3_addByDistance_50 (by decide) ?_
            refine lv_icmp_lt (tgt := 57) hx hb dX3_addByDistance_53 (by decide) (fun c_53 => ?_) (fun c_53 => ?_)
            · skip
              refine lv_aload_n hx hb dX3_addByDistance_57 rfl (lv_at hl 0 rfl) ?_
              refine va_get (D := X.1) (ci := 3) (v := .int (nI R.length)) (C := RX3) (T := TX3) (N := 4) hx hb hts hin3 hown hK hP 0 rfl rfl 3 (by decide) lk22 (fun _ h9 => h9) rfl dX3_addByDistance_58 ?_
              refine lv_iload hx hb dX3_addByDistance_61 (lv_at hl 4 rfl) ?_
              refine lv_sipush (v := nI 150) hx hb dX3_addByDistance_63 (by decide) ?_
              refine va_mmin hx hb (hml.trans hl.1.symm) hown (hts (.methodLink RX3 26 Lib.Math.min.name) (by decide +kernel)) (hts (.static Lib.Math.min.name) (by decide +kernel)) (hts (.initialized "java/lang/Math") (by decide +kernel)) (hts (.code Lib.Math.min.name Lib.Math.min.code 2 (some .int)) (by decide +kernel)) (Nat.le_of_ble_eq_true rfl) (Nat.le_of_ble_eq_true rfl) (Nat.zero_le _) (Nat.zero_le _) dX3_addByDistance_66 ?_
              refine lv_topi (fun x_1 ex_1 => ?_)
              obtain rfl : x_1 = nI mo := by
                rw [ex_1]
                exact if_neg (nI_nlt (by omega) (by omega))
              refine lv_iconst (v := nI 1) hx hb dX3_addByDistance_69 (by decide) ?_
              refine lv_isub hx hb dX3_addByDistance_70 ?_
              refine lv_topi (fun x_2 ex_2 => ?_)
              obtain rfl : x_2 = nI (mo - 1) := by
                rw [ex_2]
                exact pk_sub (by omega)
              refine va_mmin hx hb (hml.trans hl.1.symm) hown (hts (.methodLink RX3 26 Lib.Math.min.name) (by decide +kernel)) (hts (.static Lib.Math.min.name) (by decide +kernel)) (hts (.initialized "java/lang/Math") (by decide +kernel)) (hts (.code Lib.Math.min.name Lib.Math.min.code 2 (some .int)) (by decide +kernel)) (Nat.le_of_ble_eq_true rfl) (Nat.le_of_ble_eq_true rfl) (Nat.zero_le _) (Nat.zero_le _) dX3_addByDistance_71 ?_
              refine lv_topi (fun x_3 ex_3 => ?_)
              obtain rfl : x_3 = nI (min R.length (mo - 1)) := by
                rw [ex_3]
                exact mmin_nI (by omega) (by omega)
              refine lv_istore (lv' := [(7, .int (nI (min R.length (mo - 1)))), (0, .ref r), (1, .int (nI key)), (2, .int x), (3, .long ds), (5, .int (nI mo)), (6, .int (nI 0))]) hx hb dX3_addByDistance_74 hl (by decide) rfl (fun ls hl => ?_)
              refine lv_aload_n hx hb dX3_addByDistance_76 rfl (lv_at hl 1 rfl) ?_
              refine va_get (D := X.1) (ci := 3) (v := .ref k) (C := RX3) (T := TX3) (N := 4) hx hb hts hin3 hown hK hP 0 rfl rfl 0 (by decide) lk9 (fun _ h9 => h9) rfl dX3_addByDistance_77 ?_
              refine lv_iload hx hb dX3_addByDistance_80 (lv_at hl 6 rfl) ?_
              refine lv_aload_n hx hb dX3_addByDistance_82 rfl (lv_at hl 1 rfl) ?_
              refine va_get (D := X.1) (ci := 3) (v := .ref k) (C := RX3) (T := TX3) (N := 4) hx hb hts hin3 hown hK hP 0 rfl rfl 0 (by decide) lk9 (fun _ h9 => h9) rfl dX3_addByDistance_83 ?_
              refine lv_iload hx hb dX3_addByDistance_86 (lv_at hl 6 rfl) ?_
              refine lv_iconst (v := nI 1) hx hb dX3_addByDistance_88 (by decide) ?_
              refine lv_iadd hx hb dX3_addByDistance_89 ?_
              refine lv_topi (fun x_4 ex_4 => ?_)
              obtain rfl : x_4 = nI (0 + 1) := by
                rw [ex_4]
                exact nI_add _ _
              refine lv_iload hx hb dX3_addByDistance_90 (lv_at hl 0 rfl) ?_
              refine lv_iload hx hb dX3_addByDistance_92 (lv_at hl 6 rfl) ?_
              refine lv_isub hx hb dX3_addByDistance_94 ?_
              refine lv_topi (fun x_5 ex_5 => ?_)
              obtain rfl : x_5 = nI ((min R.length (mo - 1)) - 0) := by
                rw [ex_5]
                exact pk_sub (by omega)
              refine va_copyi hx hb (hml.trans hl.1.symm) hown (hts (.methodLink RX3 32 arraycopyName) (by decide +kernel)) (hts (.native arraycopyName) (by decide +kernel)) (hts (.static arraycopyName) (by decide +kernel)) (hts (.initialized "java/lang/System") (by decide +kernel)) hK hP hD hS 1 1 0 0 rfl rfl rfl rfl rfl (nI_pos (by omega)) (nI_pos (by omega)) (nI_pos (by omega)) (by rw [nI_clamp (by omega), nI_clamp (by omega)]; omega) (by rw [nI_clamp (by omega), nI_clamp (by omega)]; omega) (fun _ _ => rfl) (Nat.le_of_ble_eq_true rfl) (by decide) dX3_addByDistance_95 (fun H locs hP hD hS => ?_)
              rw [nI_clamp (n := 0) (by omega), nI_clamp (n := 0 + 1) (by omega), nI_clamp (n := (min R.length (mo - 1)) - 0) (by omega)] at hP hD
              have hP : va_P X.1 vwCl [(r, .inr (3, [.ref k, .ref v, .ref dd, .int (nI R.length)])), (k, .inl (X.2.1, 150, .inl (va_cpy kf kf 0 (0 + 1) ((min R.length (mo - 1)) - 0)))), (v, .inl (X.2.1, 150, .inl vf)), (dd, .inl (X.2.2, 150, .inr (.inl df)))] H := hP
              have hD : va_D A_ [(r, .inr (3, [.ref k, .ref v, .ref dd, .int (nI R.length)])), (k, .inl (X.2.1, 150, .inl (va_cpy kf kf 0 (0 + 1) ((min R.length (mo - 1)) - 0)))), (v, .inl (X.2.1, 150, .inl vf)), (dd, .inl (X.2.2, 150, .inr (.inl df)))] := hD
              refine lv_aload_n hx hb dX3_addByDistance_98 rfl (lv_at hl 1 rfl) ?_
              refine va_get (D := X.1) (ci := 3) (v := .ref v) (C := RX3) (T := TX3) (N := 4) hx hb hts hin3 hown hK hP 0 rfl rfl 1 (by decide) lk15 (fun _ h9 => h9) rfl dX3_addByDistance_99 ?_
              refine lv_iload hx hb dX3_addByDistance_102 (lv_at hl 6 rfl) ?_
              refine lv_aload_n hx hb dX3_addByDistance_104 rfl (lv_at hl 1 rfl) ?_
              refine va_get (D := X.1) (ci := 3) (v := .ref v) (C := RX3) (T := TX3) (N := 4) hx hb hts hin3 hown hK hP 0 rfl rfl 1 (by decide) lk15 (fun _ h9 => h9) rfl dX3_addByDistance_105 ?_
              refine lv_iload hx hb dX3_addByDistance_108 (lv_at hl 6 rfl) ?_
              refine lv_iconst (v := nI 1) hx hb dX3_addByDistance_110 (by decide) ?_
              refine lv_iadd hx hb dX3_addByDistance_111 ?_
              refine lv_topi (fun x_6 ex_6 => ?_)
              obtain rfl : x_6 = nI (0 + 1) := by
                rw [ex_6]
                exact nI_add _ _
              refine lv_iload hx hb dX3_addByDistance_112 (lv_at hl 0 rfl) ?_
              refine lv_iload hx hb dX3_addByDistance_114 (lv_at hl 6 rfl) ?_
              refine lv_isub hx hb dX3_addByDistance_116 ?_
              refine lv_topi (fun x_7 ex_7 => ?_)
              obtain rfl : x_7 = nI ((min R.length (mo - 1)) - 0) := by
                rw [ex_7]
                exact pk_sub (by omega)
              refine va_copyi hx hb (hml.trans hl.1.symm) hown (hts (.methodLink RX3 32 arraycopyName) (by decide +kernel)) (hts (.native arraycopyName) (by decide +kernel)) (hts (.static arraycopyName) (by decide +kernel)) (hts (.initialized "java/lang/System") (by decide +kernel)) hK hP hD hS 2 2 0 0 rfl rfl rfl rfl rfl (nI_pos (by omega)) (nI_pos (by omega)) (nI_pos (by omega)) (by rw [nI_clamp (by omega), nI_clamp (by omega)]; omega) (by rw [nI_clamp (by omega), nI_clamp (by omega)]; omega) (fun _ _ => rfl) (Nat.le_of_ble_eq_true rfl) (by decide) dX3_addByDistance_117 (fun H locs hP hD hS => ?_)
              rw [nI_clamp (n := 0) (by omega), nI_clamp (n := 0 + 1) (by omega), nI_clamp (n := (min R.length (mo - 1)) - 0) (by omega)] at hP hD
              have hP : va_P X.1 vwCl [(r, .inr (3, [.ref k, .ref v, .ref dd, .int (nI R.length)])), (k, .inl (X.2.1, 150, .inl (va_cpy kf kf 0 (0 + 1) ((min R.length (mo - 1)) - 0)))), (v, .inl (X.2.1, 150, .inl (va_cpy vf vf 0 (0 + 1) ((min R.length (mo - 1)) - 0)))), (dd, .inl (X.2.2, 150, .inr (.inl df)))] H := hP
              have hD : va_D A_ [(r, .inr (3, [.ref k, .ref v, .ref dd, .int (nI R.length)])), (k, .inl (X.2.1, 150, .inl (va_cpy kf kf 0 (0 + 1) ((min R.length (mo - 1)) - 0)))), (v, .inl (X.2.1, 150, .inl (va_cpy vf vf 0 (0 + 1) ((min R.length (mo - 1)) - 0)))), (dd, .inl (X.2.2, 150, .inr (.inl df)))] := hD
              refine lv_aload_n hx hb dX3_addByDistance_120 rfl (lv_at hl 1 rfl) ?_
              refine va_get (D := X.1) (ci := 3) (v := .ref dd) (C := RX3) (T := TX3) (N := 4) hx hb hts hin3 hown hK hP 0 rfl rfl 2 (by decide) lk18 (fun _ h9 => h9) rfl dX3_addByDistance_121 ?_
              refine lv_iload hx hb dX3_addByDistance_124 (lv_at hl 6 rfl) ?_
              refine lv_aload_n hx hb dX3_addByDistance_126 rfl (lv_at hl 1 rfl) ?_
              refine va_get (D := X.1) (ci := 3) (v := .ref dd) (C := RX3) (T := TX3) (N := 4) hx hb hts hin3 hown hK hP 0 rfl rfl 2 (by decide) lk18 (fun _ h9 => h9) rfl dX3_addByDistance_127 ?_
              refine lv_iload hx hb dX3_addByDistance_130 (lv_at hl 6 rfl) ?_
              refine lv_iconst (v := nI 1) hx hb dX3_addByDistance_132 (by decide) ?_
              refine lv_iadd hx hb dX3_addByDistance_133 ?_
              refine lv_topi (fun x_8 ex_8 => ?_)
              obtain rfl : x_8 = nI (0 + 1) := by
                rw [ex_8]
                exact nI_add _ _
              refine lv_iload hx hb dX3_addByDistance_134 (lv_at hl 0 rfl) ?_
              refine lv_iload hx hb dX3_addByDistance_136 (lv_at hl 6 rfl) ?_
              refine lv_isub hx hb dX3_addByDistance_138 ?_
              refine lv_topi (fun x_9 ex_9 => ?_)
              obtain rfl : x_9 = nI ((min R.length (mo - 1)) - 0) := by
                rw [ex_9]
                exact pk_sub (by omega)
              refine va_copyl hx hb (hml.trans hl.1.symm) hown (hts (.methodLink RX3 32 arraycopyName) (by decide +kernel)) (hts (.native arraycopyName) (by decide +kernel)) (hts (.static arraycopyName) (by decide +kernel)) (hts (.initialized "java/lang/System") (by decide +kernel)) hK hP hD hS 3 3 1 1 rfl rfl rfl rfl rfl (nI_pos (by omega)) (nI_pos (by omega)) (nI_pos (by omega)) (by rw [nI_clamp (by omega), nI_clamp (by omega)]; omega) (by rw [nI_clamp (by omega), nI_clamp (by omega)]; omega) (fun _ _ => rfl) (Nat.le_of_ble_eq_true rfl) (by decide) dX3_addByDistance_139 (fun H locs hP hD hS => ?_)
              rw [nI_clamp (n := 0) (by omega), nI_clamp (n := 0 + 1) (by omega), nI_clamp (n := (min R.length (mo - 1)) - 0) (by omega)] at hP hD
              have hP : va_P X.1 vwCl [(r, .inr (3, [.ref k, .ref v, .ref dd, .int (nI R.length)])), (k, .inl (X.2.1, 150, .inl (va_cpy kf kf 0 (0 + 1) ((min R.length (mo - 1)) - 0)))), (v, .inl (X.2.1, 150, .inl (va_cpy vf vf 0 (0 + 1) ((min R.length (mo - 1)) - 0)))), (dd, .inl (X.2.2, 150, .inr (.inl (va_cpy df df 0 (0 + 1) ((min R.length (mo - 1)) - 0)))))] H := hP
              have hD : va_D A_ [(r, .inr (3, [.ref k, .ref v, .ref dd, .int (nI R.length)])), (k, .inl (X.2.1, 150, .inl (va_cpy kf kf 0 (0 + 1) ((min R.length (mo - 1)) - 0)))), (v, .inl (X.2.1, 150, .inl (va_cpy vf vf 0 (0 + 1) ((min R.length (mo - 1)) - 0)))), (dd, .inl (X.2.2, 150, .inr (.inl (va_cpy df df 0 (0 + 1) ((min R.length (mo - 1)) - 0)))))] := hD
              refine lv_aload_n hx hb dX3_addByDistance_142 rfl (lv_at hl 1 rfl) ?_
              refine va_get (D := X.1) (ci := 3) (v := .ref k) (C := RX3) (T := TX3) (N := 4) hx hb hts hin3 hown hK hP 0 rfl rfl 0 (by decide) lk9 (fun _ h9 => h9) rfl dX3_addByDistance_143 ?_
              refine lv_iload hx hb dX3_addByDistance_146 (lv_at hl 6 rfl) ?_
              refine lv_iload_n hx hb dX3_addByDistance_148 rfl (lv_at hl 2 rfl) ?_
              have hi_10 : vp_in (nI 0) 150 := vp_in_nI (by omega) (by omega)
              refine va_iast hx hb hK hP hD hS 1 0 rfl rfl hi_10 dX3_addByDistance_149 (fun H locs hP hD hS => ?_)
              rw [nI_clamp (by omega)] at hP hD
              have hP : va_P X.1 vwCl [(r, .inr (3, [.ref k, .ref v, .ref dd, .int (nI R.length)])), (k, .inl (X.2.1, 150, .inl (upd (va_cpy kf kf 0 (0 + 1) ((min R.length (mo - 1)) - 0)) 0 (nI key)))), (v, .inl (X.2.1, 150, .inl (va_cpy vf vf 0 (0 + 1) ((min R.length (mo - 1)) - 0)))), (dd, .inl (X.2.2, 150, .inr (.inl (va_cpy df df 0 (0 + 1) ((min R.length (mo - 1)) - 0)))))] H := hP
              have hD : va_D A_ [(r, .inr (3, [.ref k, .ref v, .ref dd, .int (nI R.length)])), (k, .inl (X.2.1, 150, .inl (upd (va_cpy kf kf 0 (0 + 1) ((min R.length (mo - 1)) - 0)) 0 (nI key)))), (v, .inl (X.2.1, 150, .inl (va_cpy vf vf 0 (0 + 1) ((min R.length (mo - 1)) - 0)))), (dd, .inl (X.2.2, 150, .inr (.inl (va_cpy df df 0 (0 + 1) ((min R.length (mo - 1)) - 0)))))] := hD
              refine lv_aload_n hx hb dX3_addByDistance_150 rfl (lv_at hl 1 rfl) ?_
              refine va_get (D := X.1) (ci := 3) (v := .ref v) (C := RX3) (T := TX3) (N := 4) hx hb hts hin3 hown hK hP 0 rfl rfl 1 (by decide) lk15 (fun _ h9 => h9) rfl dX3_addByDistance_151 ?_
              refine lv_iload hx hb dX3_addByDistance_154 (lv_at hl 6 rfl) ?_
              refine lv_iload_n hx hb dX3_addByDistance_156 rfl (lv_at hl 3 rfl) ?_
              have hi_11 : vp_in (nI 0) 150 := vp_in_nI (by omega) (by omega)
              refine va_iast hx hb hK hP hD hS 2 0 rfl rfl hi_11 dX3_addByDistance_157 (fun H locs hP hD hS => ?_)
              rw [nI_clamp (by omega)] at hP hD
              have hP : va_P X.1 vwCl [(r, .inr (3, [.ref k, .ref v, .ref dd, .int (nI R.length)])), (k, .inl (X.2.1, 150, .inl (upd (va_cpy kf kf 0 (0 + 1) ((min R.length (mo - 1)) - 0)) 0 (nI key)))), (v, .inl (X.2.1, 150, .inl (upd (va_cpy vf vf 0 (0 + 1) ((min R.length (mo - 1)) - 0)) 0 x))), (dd, .inl (X.2.2, 150, .inr (.inl (va_cpy df df 0 (0 + 1) ((min R.length (mo - 1)) - 0)))))] H := hP
              have hD : va_D A_ [(r, .inr (3, [.ref k, .ref v, .ref dd, .int (nI R.length)])), (k, .inl (X.2.1, 150, .inl (upd (va_cpy kf kf 0 (0 + 1) ((min R.length (mo - 1)) - 0)) 0 (nI key)))), (v, .inl (X.2.1, 150, .inl (upd (va_cpy vf vf 0 (0 + 1) ((min R.length (mo - 1)) - 0)) 0 x))), (dd, .inl (X.2.2, 150, .inr (.inl (va_cpy df df 0 (0 + 1) ((min R.length (mo - 1)) - 0)))))] := hD
              refine lv_aload_n hx hb dX3_addByDistance_158 rfl (lv_at hl 1 rfl) ?_
              refine va_get (D := X.1) (ci := 3) (v := .ref dd) (C := RX3) (T := TX3) (N := 4) hx hb hts hin3 hown hK hP 0 rfl rfl 2 (by decide) lk18 (fun _ h9 => h9) rfl dX3_addByDistance_159 ?_
              refine lv_iload hx hb dX3_addByDistance_162 (lv_at hl 6 rfl) ?_
              refine lv_lload_n hx hb dX3_addByDistance_164 rfl (lv_at hl 4 rfl) ?_
              have hi_12 : vp_in (nI 0) 150 := vp_in_nI (by omega) (by omega)
              refine va_last hx hb hK hP hD hS 3 1 rfl rfl hi_12 dX3_addByDistance_165 (fun H locs hP hD hS => ?_)
              rw [nI_clamp (by omega)] at hP hD
              have hP : va_P X.1 vwCl [(r, .inr (3, [.ref k, .ref v, .ref dd, .int (nI R.length)])), (k, .inl (X.2.1, 150, .inl (upd (va_cpy kf kf 0 (0 + 1) ((min R.length (mo - 1)) - 0)) 0 (nI key)))), (v, .inl (X.2.1, 150, .inl (upd (va_cpy vf vf 0 (0 + 1) ((min R.length (mo - 1)) - 0)) 0 x))), (dd, .inl (X.2.2, 150, .inr (.inl (vp_updL (va_cpy df df 0 (0 + 1) ((min R.length (mo - 1)) - 0)) 0 ds))))] H := hP
              have hD : va_D A_ [(r, .inr (3, [.ref k, .ref v, .ref dd, .int (nI R.length)])), (k, .inl (X.2.1, 150, .inl (upd (va_cpy kf kf 0 (0 + 1) ((min R.length (mo - 1)) - 0)) 0 (nI key)))), (v, .inl (X.2.1, 150, .inl (upd (va_cpy vf vf 0 (0 + 1) ((min R.length (mo - 1)) - 0)) 0 x))), (dd, .inl (X.2.2, 150, .inr (.inl (vp_updL (va_cpy df df 0 (0 + 1) ((min R.length (mo - 1)) - 0)) 0 ds))))] := hD
              refine lv_aload_n hx hb dX3_addByDistance_166 rfl (lv_at hl 1 rfl) ?_
              refine lv_iload hx hb dX3_addByDistance_167 (lv_at hl 0 rfl) ?_
              refine lv_iconst (v := nI 1) hx hb dX3_addByDistance_169 (by decide) ?_
              refine lv_iadd hx hb dX3_addByDistance_170 ?_
              refine lv_topi (fun x_13 ex_13 => ?_)
              obtain rfl : x_13 = nI ((min R.length (mo - 1)) + 1) := by
                rw [ex_13]
                exact nI_add _ _
              refine va_put (D := X.1) (ci := 3) (v := .int (nI ((min R.length (mo - 1)) + 1))) (ty := .int) (C := RX3) (T := TX3) (N := 4) hx hb hts hin3 tyX3 tyX3_ok nmX3 hown hK hP hD hS 0 rfl rfl 3 (by decide) lk22 (fun _ h9 => h9) rfl (by decide +kernel) rfl rfl (Nat.le_of_ble_eq_true rfl) dX3_addByDistance_171 (fun H locs hP hD hS => ?_)
              have hP : va_P X.1 vwCl [(r, .inr (3, [.ref k, .ref v, .ref dd, .int (nI ((min R.length (mo - 1)) + 1))])), (k, .inl (X.2.1, 150, .inl (upd (va_cpy kf kf 0 (0 + 1) ((min R.length (mo - 1)) - 0)) 0 (nI key)))), (v, .inl (X.2.1, 150, .inl (upd (va_cpy vf vf 0 (0 + 1) ((min R.length (mo - 1)) - 0)) 0 x))), (dd, .inl (X.2.2, 150, .inr (.inl (vp_updL (va_cpy df df 0 (0 + 1) ((min R.length (mo - 1)) - 0)) 0 ds))))] H := hP
              have hD : va_D A_ [(r, .inr (3, [.ref k, .ref v, .ref dd, .int (nI ((min R.length (mo - 1)) + 1))])), (k, .inl (X.2.1, 150, .inl (upd (va_cpy kf kf 0 (0 + 1) ((min R.length (mo - 1)) - 0)) 0 (nI key)))), (v, .inl (X.2.1, 150, .inl (upd (va_cpy vf vf 0 (0 + 1) ((min R.length (mo - 1)) - 0)) 0 x))), (dd, .inl (X.2.2, 150, .inr (.inl (vp_updL (va_cpy df df 0 (0 + 1) ((min R.length (mo - 1)) - 0)) 0 ds))))] := hD
              have hfin := nr_ins (x := x) h hk hm hm2 (show posD R ds < mo by rw [hpos]; omega)
              rw [hpos] at hfin
              rw [← hfin.2] at hP
              refine wM hQ ?_
              exact rtV (upd (va_cpy kf kf 0 (0 + 1) ((min R.length (mo - 1)) - 0)) 0 (nI key), upd (va_cpy vf vf 0 (0 + 1) ((min R.length (mo - 1)) - 0)) 0 x, vp_updL (va_cpy df df 0 (0 + 1) ((min R.length (mo - 1)) - 0)) 0 ds) hx hb hr hlocks hP hS (hfin.1) dX3_addByDistance_174
            · exact absurd c_53 (by decide)
        · exact absurd c_16 (by decide)
      · skip
        obtain ⟨a, rfl⟩ : ∃ a, at_ = a + 1 := ⟨at_ - 1, by omega⟩
        rw [show im (a + 1) = nI a from nI_pred a] at hl
        refine lv_iload hx hb dX3_addByDistance_14 (lv_at hl 6 rfl) ?_
        refine lv_if_lt (tgt := 41) hx hb dX3_addByDistance_16 (by decide) (fun c_16 => ?_) (fun c_16 => ?_)
        · exact absurd c_16 (by first | exact nI_pos (by omega) | exact fun h9 => h9 (nI_pos' (by omega)))
        · change ¬ (nI a < nI 0) at c_16
          replace c_16 : ¬ a < 0 := fun h9 => c_16 ((nI_ltI (by omega) (by omega)).mpr h9)
          refine lv_aload_n hx hb dX3_addByDistance_19 rfl (lv_at hl 0 rfl) ?_
          refine va_get (D := X.1) (ci := 3) (v := .ref dd) (C := RX3) (T := TX3) (N := 4) hx hb hts hin3 hown hK hP 0 rfl rfl 2 (by decide) lk18 (fun _ h9 => h9) rfl dX3_addByDistance_20 ?_
          refine lv_iload hx hb dX3_addByDistance_23 (lv_at hl 6 rfl) ?_
          have hi_14 : vp_in (nI a) 150 := vp_in_nI (by omega) (by omega)
          refine va_lald hx hb hK hP 3 1 rfl rfl hi_14 dX3_addByDistance_25 ?_
          refine lv_topl (fun x_15 ex_15 => ?_)
          obtain rfl : x_15 = df a := by
            rw [ex_15]
            rw [nI_clamp (by omega)]
          refine lv_topl (fun x_16 ex_16 => ?_)
          obtain rfl : x_16 = (R.getD a nr0).2.2 := by
            rw [ex_16]
            exact (h.2.1 a (by omega)).2.2
          refine lv_lload_n hx hb dX3_addByDistance_26 rfl (lv_at hl 3 rfl) ?_
          refine W.lcmp hx hb dX3_addByDistance_27 ?_
          refine lv_if_le (tgt := 41) hx hb dX3_addByDistance_28 (by decide) (fun c_28 => ?_) (fun c_28 => ?_)
          · skip
            have hpos : posD R ds = a + 1 := posD_eq R ds (a + 1) h1 h2 (Or.inr (lg_le c_28))
            refine lv_iload hx hb dX3_addByDistance_41 (lv_at hl 5 rfl) ?_
            refine lv_iload hx hb dX3_addByDistance_43 (lv_at hl 4 rfl) ?_
            refine lv_icmp_ge (tgt := 56) hx hb dX3_addByDistance_45 (by decide) (fun c_45 => ?_) (fun c_45 => ?_)
            · replace c_45 : mo ≤ (a + 1) := (nI_leI (by omega) (by omega)).mp c_45
              have hsm : ((insD R (key, x, ds)).take mo) = R := nr_same hm (show mo ≤ posD R ds by rw [hpos]; omega)
              refine wM hQ ?_
              exact rtV (kf, vf, df) hx hb hr hlocks (by show va_P X.1 vwCl [(r, .inr (3, [.ref k, .ref v, .ref dd, .int (nI (((insD R (key, x, ds)).take mo).length))])), (k, .inl (X.2.1, 150, .inl kf)), (v, .inl (X.2.1, 150, .inl vf)), (dd, .inl (X.2.2, 150, .inr (.inl df)))] _; rw [hsm]; exact hP) hS ((by show nrOk kf vf df _; rw [hsm]; exact h)) dX3_addByDistance_56
            · replace c_45 : ¬ mo ≤ (a + 1) := fun h9 => c_45 ((nI_leI (by omega) (by omega)).mpr h9)
              refine lv_iload hx hb dX3_addByDistance_48 (lv_at hl 5 rfl) ?_
              refine lv_sipush (v := nI 150) hx hb dX3_addByDistance_50 (by decide) ?_
              refine lv_icmp_lt (tgt := 57) hx hb dX3_addByDistance_53 (by decide) (fun c_53 => ?_) (fun c_53 => ?_)
              · replace c_53 : (a + 1) < 150 := (nI_ltI (by omega) (by omega)).mp c_53
                refine lv_aload_n hx hb dX3_addByDistance_57 rfl (lv_at hl 0 rfl) ?_
                refine va_get (D := X.1) (ci := 3) (v := .int (nI R.length)) (C := RX3) (T := TX3) (N := 4) hx hb hts hin3 hown hK hP 0 rfl rfl 3 (by decide) lk22 (fun _ h9 => h9) rfl dX3_addByDistance_58 ?_
                refine lv_iload hx hb dX3_addByDistance_61 (lv_at hl 4 rfl) ?_
                refine lv_sipush (v := nI 150) hx hb dX3_addByDistance_63 (by decide) ?_
                refine va_mmin hx hb (hml.trans hl.1.symm) hown (hts (.methodLink RX3 26 Lib.Math.min.name) (by decide +kernel)) (hts (.static Lib.Math.min.name) (by decide +kernel)) (hts (.initialized "java/lang/Math") (by decide +kernel)) (hts (.code Lib.Math.min.name Lib.Math.min.code 2 (some .int)) (by decide +kernel)) (Nat.le_of_ble_eq_true rfl) (Nat.le_of_ble_eq_true rfl) (Nat.zero_le _) (Nat.zero_le _) dX3_addByDistance_66 ?_
                refine lv_topi (fun x_17 ex_17 => ?_)
                obtain rfl : x_17 = nI mo := by
                  rw [ex_17]
                  exact if_neg (nI_nlt (by omega) (by omega))
                refine lv_iconst (v := nI 1) hx hb dX3_addByDistance_69 (by decide) ?_
                refine lv_isub hx hb dX3_addByDistance_70 ?_
                refine lv_topi (fun x_18 ex_18 => ?_)
                obtain rfl : x_18 = nI (mo - 1) := by
                  rw [ex_18]
                  exact pk_sub (by omega)
                refine va_mmin hx hb (hml.trans hl.1.symm) hown (hts (.methodLink RX3 26 Lib.Math.min.name) (by decide +kernel)) (hts (.static Lib.Math.min.name) (by decide +kernel)) (hts (.initialized "java/lang/Math") (by decide +kernel)) (hts (.code Lib.Math.min.name Lib.Math.min.code 2 (some .int)) (by decide +kernel)) (Nat.le_of_ble_eq_true rfl) (Nat.le_of_ble_eq_true rfl) (Nat.zero_le _) (Nat.zero_le _) dX3_addByDistance_71 ?_
                refine lv_topi (fun x_19 ex_19 => ?_)
                obtain rfl : x_19 = nI (min R.length (mo - 1)) := by
                  rw [ex_19]
                  exact mmin_nI (by omega) (by omega)
                refine lv_istore (lv' := [(7, .int (nI (min R.length (mo - 1)))), (0, .ref r), (1, .int (nI key)), (2, .int x), (3, .long ds), (5, .int (nI mo)), (6, .int (nI (a + 1)))]) hx hb dX3_addByDistance_74 hl (by decide) rfl (fun ls hl => ?_)
                refine lv_aload_n hx hb dX3_addByDistance_76 rfl (lv_at hl 1 rfl) ?_
                refine va_get (D := X.1) (ci := 3) (v := .ref k) (C := RX3) (T := TX3) (N := 4) hx hb hts hin3 hown hK hP 0 rfl rfl 0 (by decide) lk9 (fun _ h9 => h9) rfl dX3_addByDistance_77 ?_
                refine lv_iload hx hb dX3_addByDistance_80 (lv_at hl 6 rfl) ?_
                refine lv_aload_n hx hb dX3_addByDistance_82 rfl (lv_at hl 1 rfl) ?_
                refine va_get (D := X.1) (ci := 3) (v := .ref k) (C := RX3) (T := TX3) (N := 4) hx hb hts hin3 hown hK hP 0 rfl rfl 0 (by decide) lk9 (fun _ h9 => h9) rfl dX3_addByDistance_83 ?_
                refine lv_iload hx hb dX3_addByDistance_86 (lv_at hl 6 rfl) ?_
                refine lv_iconst (v := nI 1) hx hb dX3_addByDistance_88 (by decide) ?_
                refine lv_iadd hx hb dX3_addByDistance_89 ?_
                refine lv_topi (fun x_20 ex_20 => ?_)
                obtain rfl : x_20 = nI ((a + 1) + 1) := by
                  rw [ex_20]
                  exact nI_add _ _
                refine lv_iload hx hb dX3_addByDistance_90 (lv_at hl 0 rfl) ?_
                refine lv_iload hx hb dX3_addByDistance_92 (lv_at hl 6 rfl) ?_
                refine lv_isub hx hb dX3_addByDistance_94 ?_
                refine lv_topi (fun x_21 ex_21 => ?_)
                obtain rfl : x_21 = nI ((min R.length (mo - 1)) - (a + 1)) := by
                  rw [ex_21]
                  exact pk_sub (by omega)
                refine va_copyi hx hb (hml.trans hl.1.symm) hown (hts (.methodLink RX3 32 arraycopyName) (by decide +kernel)) (hts (.native arraycopyName) (by decide +kernel)) (hts (.static arraycopyName) (by decide +kernel)) (hts (.initialized "java/lang/System") (by decide +kernel)) hK hP hD hS 1 1 0 0 rfl rfl rfl rfl rfl (nI_pos (by omega)) (nI_pos (by omega)) (nI_pos (by omega)) (by rw [nI_clamp (by omega), nI_clamp (by omega)]; omega) (by rw [nI_clamp (by omega), nI_clamp (by omega)]; omega) (fun _ _ => rfl) (Nat.le_of_ble_eq_true rfl) (by decide) dX3_addByDistance_95 (fun H locs hP hD hS => ?_)
                rw [nI_clamp (n := a + 1) (by omega), nI_clamp (n := (a + 1) + 1) (by omega), nI_clamp (n := (min R.length (mo - 1)) - (a + 1)) (by omega)] at hP hD
                have hP : va_P X.1 vwCl [(r, .inr (3, [.ref k, .ref v, .ref dd, .int (nI R.length)])), (k, .inl (X.2.1, 150, .inl (va_cpy kf kf (a + 1) ((a + 1) + 1) ((min R.length (mo - 1)) - (a + 1))))), (v, .inl (X.2.1, 150, .inl vf)), (dd, .inl (X.2.2, 150, .inr (.inl df)))] H := hP
                have hD : va_D A_ [(r, .inr (3, [.ref k, .ref v, .ref dd, .int (nI R.length)])), (k, .inl (X.2.1, 150, .inl (va_cpy kf kf (a + 1) ((a + 1) + 1) ((min R.length (mo - 1)) - (a + 1))))), (v, .inl (X.2.1, 150, .inl vf)), (dd, .inl (X.2.2, 150, .inr (.inl df)))] := hD
                refine lv_aload_n hx hb dX3_addByDistance_98 rfl (lv_at hl 1 rfl) ?_
                refine va_get (D := X.1) (ci := 3) (v := .ref v) (C := RX3) (T := TX3) (N := 4) hx hb hts hin3 hown hK hP 0 rfl rfl 1 (by decide) lk15 (fun _ h9 => h9) rfl dX3_addByDistance_99 ?_
                refine lv_iload hx hb dX3_addByDistance_102 (lv_at hl 6 rfl) ?_
                refine lv_aload_n hx hb dX3_addByDistance_104 rfl (lv_at hl 1 rfl) ?_
                refine va_get (D := X.1) (ci := 3) (v := .ref v) (C := RX3) (T := TX3) (N := 4) hx hb hts hin3 hown hK hP 0 rfl rfl 1 (by decide) lk15 (fun _ h9 => h9) rfl dX3_addByDistance_105 ?_
                refine lv_iload hx hb dX3_addByDistance_108 (lv_at hl 6 rfl) ?_
                refine lv_iconst (v := nI 1) hx hb dX3_addByDistance_110 (by decide) ?_
                refine lv_iadd hx hb dX3_addByDistance_111 ?_
                refine lv_topi (fun x_22 ex_22 => ?_)
                obtain rfl : x_22 = nI ((a + 1) + 1) := by
                  rw [ex_22]
                  exact nI_add _ _
                refine lv_iload hx hb dX3_addByDistance_112 (lv_at hl 0 rfl) ?_
                refine lv_iload hx hb dX3_addByDistance_114 (lv_at hl 6 rfl) ?_
                refine lv_isub hx hb dX3_addByDistance_116 ?_
                refine lv_topi (fun x_23 ex_23 => ?_)
                obtain rfl : x_23 = nI ((min R.length (mo - 1)) - (a + 1)) := by
                  rw [ex_23]
                  exact pk_sub (by omega)
                refine va_copyi hx hb (hml.trans hl.1.symm) hown (hts (.methodLink RX3 32 arraycopyName) (by decide +kernel)) (hts (.native arraycopyName) (by decide +kernel)) (hts (.static arraycopyName) (by decide +kernel)) (hts (.initialized "java/lang/System") (by decide +kernel)) hK hP hD hS 2 2 0 0 rfl rfl rfl rfl rfl (nI_pos (by omega)) (nI_pos (by omega)) (nI_pos (by omega)) (by rw [nI_clamp (by omega), nI_clamp (by omega)]; omega) (by rw [nI_clamp (by omega), nI_clamp (by omega)]; omega) (fun _ _ => rfl) (Nat.le_of_ble_eq_true rfl) (by decide) dX3_addByDistance_117 (fun H locs hP hD hS => ?_)
                rw [nI_clamp (n := a + 1) (by omega), nI_clamp (n := (a + 1) + 1) (by omega), nI_clamp (n := (min R.length (mo - 1)) - (a + 1)) (by omega)] at hP hD
                have hP : va_P X.1 vwCl [(r, .inr (3, [.ref k, .ref v, .ref dd, .int (nI R.length)])), (k, .inl (X.2.1, 150, .inl (va_cpy kf kf (a + 1) ((a + 1) + 1) ((min R.length (mo - 1)) - (a + 1))))), (v, .inl (X.2.1, 150, .inl (va_cpy vf vf (a + 1) ((a + 1) + 1) ((min R.length (mo - 1)) - (a + 1))))), (dd, .inl (X.2.2, 150, .inr (.inl df)))] H := hP
                have hD : va_D A_ [(r, .inr (3, [.ref k, .ref v, .ref dd, .int (nI R.length)])), (k, .inl (X.2.1, 150, .inl (va_cpy kf kf (a + 1) ((a + 1) + 1) ((min R.length (mo - 1)) - (a + 1))))), (v, .inl (X.2.1, 150, .inl (va_cpy vf vf (a + 1) ((a + 1) + 1) ((min R.length (mo - 1)) - (a + 1))))), (dd, .inl (X.2.2, 150, .inr (.inl df)))] := hD
                refine lv_aload_n hx hb dX3_addByDistance_120 rfl (lv_at hl 1 rfl) ?_
                refine va_get (D := X.1) (ci := 3) (v := .ref dd) (C := RX3) (T := TX3) (N := 4) hx hb hts hin3 hown hK hP 0 rfl rfl 2 (by decide) lk18 (fun _ h9 => h9) rfl dX3_addByDistance_121 ?_
                refine lv_iload hx hb dX3_addByDistance_124 (lv_at hl 6 rfl) ?_
                refine lv_aload_n hx hb dX3_addByDistance_126 rfl (lv_at hl 1 rfl) ?_
                refine va_get (D := X.1) (ci := 3) (v := .ref dd) (C := RX3) (T := TX3) (N := 4) hx hb hts hin3 hown hK hP 0 rfl rfl 2 (by decide) lk18 (fun _ h9 => h9) rfl dX3_addByDistance_127 ?_
                refine lv_iload hx hb dX3_addByDistance_130 (lv_at hl 6 rfl) ?_
                refine lv_iconst (v := nI 1) hx hb dX3_addByDistance_132 (by decide) ?_
                refine lv_iadd hx hb dX3_addByDistance_133 ?_
                refine lv_topi (fun x_24 ex_24 => ?_)
                obtain rfl : x_24 = nI ((a + 1) + 1) := by
                  rw [ex_24]
                  exact nI_add _ _
                refine lv_iload hx hb dX3_addByDistance_134 (lv_at hl 0 rfl) ?_
                refine lv_iload hx hb dX3_addByDistance_136 (lv_at hl 6 rfl) ?_
                refine lv_isub hx hb dX3_addByDistance_138 ?_
                refine lv_topi (fun x_25 ex_25 => ?_)
                obtain rfl : x_25 = nI ((min R.length (mo - 1)) - (a + 1)) := by
                  rw [ex_25]
                  exact pk_sub (by omega)
                refine va_copyl hx hb (hml.trans hl.1.symm) hown (hts (.methodLink RX3 32 arraycopyName) (by decide +kernel)) (hts (.native arraycopyName) (by decide +kernel)) (hts (.static arraycopyName) (by decide +kernel)) (hts (.initialized "java/lang/System") (by decide +kernel)) hK hP hD hS 3 3 1 1 rfl rfl rfl rfl rfl (nI_pos (by omega)) (nI_pos (by omega)) (nI_pos (by omega)) (by rw [nI_clamp (by omega), nI_clamp (by omega)]; omega) (by rw [nI_clamp (by omega), nI_clamp (by omega)]; omega) (fun _ _ => rfl) (Nat.le_of_ble_eq_true rfl) (by decide) dX3_addByDistance_139 (fun H locs hP hD hS => ?_)
                rw [nI_clamp (n := a + 1) (by omega), nI_clamp (n := (a + 1) + 1) (by omega), nI_clamp (n := (min R.length (mo - 1)) - (a + 1)) (by omega)] at hP hD
                have hP : va_P X.1 vwCl [(r, .inr (3, [.ref k, .ref v, .ref dd, .int (nI R.length)])), (k, .inl (X.2.1, 150, .inl (va_cpy kf kf (a + 1) ((a + 1) + 1) ((min R.length (mo - 1)) - (a + 1))))), (v, .inl (X.2.1, 150, .inl (va_cpy vf vf (a + 1) ((a + 1) + 1) ((min R.length (mo - 1)) - (a + 1))))), (dd, .inl (X.2.2, 150, .inr (.inl (va_cpy df df (a + 1) ((a + 1) + 1) ((min R.length (mo - 1)) - (a + 1))))))] H := hP
                have hD : va_D A_ [(r, .inr (3, [.ref k, .ref v, .ref dd, .int (nI R.length)])), (k, .inl (X.2.1, 150, .inl (va_cpy kf kf (a + 1) ((a + 1) + 1) ((min R.length (mo - 1)) - (a + 1))))), (v, .inl (X.2.1, 150, .inl (va_cpy vf vf (a + 1) ((a + 1) + 1) ((min R.length (mo - 1)) - (a + 1))))), (dd, .inl (X.2.2, 150, .inr (.inl (va_cpy df df (a + 1) ((a + 1) + 1) ((min R.length (mo - 1)) - (a + 1))))))] := hD
                refine lv_aload_n hx hb dX3_addByDistance_142 rfl (lv_at hl 1 rfl) ?_
                refine va_get (D := X.1) (ci := 3) (v := .ref k) (C := RX3) (T := TX3) (N := 4) hx hb hts hin3 hown hK hP 0 rfl rfl 0 (by decide) lk9 (fun _ h9 => h9) rfl dX3_addByDistance_143 ?_
                refine lv_iload hx hb dX3_addByDistance_146 (lv_at hl 6 rfl) ?_
                refine lv_iload_n hx hb dX3_addByDistance_148 rfl (lv_at hl 2 rfl) ?_
                have hi_26 : vp_in (nI (a + 1)) 150 := vp_in_nI (by omega) (by omega)
                refine va_iast hx hb hK hP hD hS 1 0 rfl rfl hi_26 dX3_addByDistance_149 (fun H locs hP hD hS => ?_)
                rw [nI_clamp (by omega)] at hP hD
                have hP : va_P X.1 vwCl [(r, .inr (3, [.ref k, .ref v, .ref dd, .int (nI R.length)])), (k, .inl (X.2.1, 150, .inl (upd (va_cpy kf kf (a + 1) ((a + 1) + 1) ((min R.length (mo - 1)) - (a + 1))) (a + 1) (nI key)))), (v, .inl (X.2.1, 150, .inl (va_cpy vf vf (a + 1) ((a + 1) + 1) ((min R.length (mo - 1)) - (a + 1))))), (dd, .inl (X.2.2, 150, .inr (.inl (va_cpy df df (a + 1) ((a + 1) + 1) ((min R.length (mo - 1)) - (a + 1))))))] H := hP
                have hD : va_D A_ [(r, .inr (3, [.ref k, .ref v, .ref dd, .int (nI R.length)])), (k, .inl (X.2.1, 150, .inl (upd (va_cpy kf kf (a + 1) ((a + 1) + 1) ((min R.length (mo - 1)) - (a + 1))) (a + 1) (nI key)))), (v, .inl (X.2.1, 150, .inl (va_cpy vf vf (a + 1) ((a + 1) + 1) ((min R.length (mo - 1)) - (a + 1))))), (dd, .inl (X.2.2, 150, .inr (.inl (va_cpy df df (a + 1) ((a + 1) + 1) ((min R.length (mo - 1)) - (a + 1))))))] := hD
                refine lv_aload_n hx hb dX3_addByDistance_150 rfl (lv_at hl 1 rfl) ?_
                refine va_get (D := X.1) (ci := 3) (v := .ref v) (C := RX3) (T := TX3) (N := 4) hx hb hts hin3 hown hK hP 0 rfl rfl 1 (by decide) lk15 (fun _ h9 => h9) rfl dX3_addByDistance_151 ?_
                refine lv_iload hx hb dX3_addByDistance_154 (lv_at hl 6 rfl) ?_
                refine lv_iload_n hx hb dX3_addByDistance_156 rfl (lv_at hl 3 rfl) ?_
                have hi_27 : vp_in (nI (a + 1)) 150 := vp_in_nI (by omega) (by omega)
                refine va_iast hx hb hK hP hD hS 2 0 rfl rfl hi_27 dX3_addByDistance_157 (fun H locs hP hD hS => ?_)
                rw [nI_clamp (by omega)] at hP hD
                have hP : va_P X.1 vwCl [(r, .inr (3, [.ref k, .ref v, .ref dd, .int (nI R.length)])), (k, .inl (X.2.1, 150, .inl (upd (va_cpy kf kf (a + 1) ((a + 1) + 1) ((min R.length (mo - 1)) - (a + 1))) (a + 1) (nI key)))), (v, .inl (X.2.1, 150, .inl (upd (va_cpy vf vf (a + 1) ((a + 1) + 1) ((min R.length (mo - 1)) - (a + 1))) (a + 1) x))), (dd, .inl (X.2.2, 150, .inr (.inl (va_cpy df df (a + 1) ((a + 1) + 1) ((min R.length (mo - 1)) - (a + 1))))))] H := hP
                have hD : va_D A_ [(r, .inr (3, [.ref k, .ref v, .ref dd, .int (nI R.length)])), (k, .inl (X.2.1, 150, .inl (upd (va_cpy kf kf (a + 1) ((a + 1) + 1) ((min R.length (mo - 1)) - (a + 1))) (a + 1) (nI key)))), (v, .inl (X.2.1, 150, .inl (upd (va_cpy vf vf (a + 1) ((a + 1) + 1) ((min R.length (mo - 1)) - (a + 1))) (a + 1) x))), (dd, .inl (X.2.2, 150, .inr (.inl (va_cpy df df (a + 1) ((a + 1) + 1) ((min R.length (mo - 1)) - (a + 1))))))] := hD
                refine lv_aload_n hx hb dX3_addByDistance_158 rfl (lv_at hl 1 rfl) ?_
                refine va_get (D := X.1) (ci := 3) (v := .ref dd) (C := RX3) (T := TX3) (N := 4) hx hb hts hin3 hown hK hP 0 rfl rfl 2 (by decide) lk18 (fun _ h9 => h9) rfl dX3_addByDistance_159 ?_
                refine lv_iload hx hb dX3_addByDistance_162 (lv_at hl 6 rfl) ?_
                refine lv_lload_n hx hb dX3_addByDistance_164 rfl (lv_at hl 4 rfl) ?_
                have hi_28 : vp_in (nI (a + 1)) 150 := vp_in_nI (by omega) (by omega)
                refine va_last hx hb hK hP hD hS 3 1 rfl rfl hi_28 dX3_addByDistance_165 (fun H locs hP hD hS => ?_)
                rw [nI_clamp (by omega)] at hP hD
                have hP : va_P X.1 vwCl [(r, .inr (3, [.ref k, .ref v, .ref dd, .int (nI R.length)])), (k, .inl (X.2.1, 150, .inl (upd (va_cpy kf kf (a + 1) ((a + 1) + 1) ((min R.length (mo - 1)) - (a + 1))) (a + 1) (nI key)))), (v, .inl (X.2.1, 150, .inl (upd (va_cpy vf vf (a + 1) ((a + 1) + 1) ((min R.length (mo - 1)) - (a + 1))) (a + 1) x))), (dd, .inl (X.2.2, 150, .inr (.inl (vp_updL (va_cpy df df (a + 1) ((a + 1) + 1) ((min R.length (mo - 1)) - (a + 1))) (a + 1) ds))))] H := hP
                have hD : va_D A_ [(r, .inr (3, [.ref k, .ref v, .ref dd, .int (nI R.length)])), (k, .inl (X.2.1, 150, .inl (upd (va_cpy kf kf (a + 1) ((a + 1) + 1) ((min R.length (mo - 1)) - (a + 1))) (a + 1) (nI key)))), (v, .inl (X.2.1, 150, .inl (upd (va_cpy vf vf (a + 1) ((a + 1) + 1) ((min R.length (mo - 1)) - (a + 1))) (a + 1) x))), (dd, .inl (X.2.2, 150, .inr (.inl (vp_updL (va_cpy df df (a + 1) ((a + 1) + 1) ((min R.length (mo - 1)) - (a + 1))) (a + 1) ds))))] := hD
                refine lv_aload_n hx hb dX3_addByDistance_166 rfl (lv_at hl 1 rfl) ?_
                refine lv_iload hx hb dX3_addByDistance_167 (lv_at hl 0 rfl) ?_
                refine lv_iconst (v := nI 1) hx hb dX3_addByDistance_169 (by decide) ?_
                refine lv_iadd hx hb dX3_addByDistance_170 ?_
                refine lv_topi (fun x_29 ex_29 => ?_)
                obtain rfl : x_29 = nI ((min R.length (mo - 1)) + 1) := by
                  rw [ex_29]
                  exact nI_add _ _
                refine va_put (D := X.1) (ci := 3) (v := .int (nI ((min R.length (mo - 1)) + 1))) (ty := .int) (C := RX3) (T := TX3) (N := 4) hx hb hts hin3 tyX3 tyX3_ok nmX3 hown hK hP hD hS 0 rfl rfl 3 (by decide) lk22 (fun _ h9 => h9) rfl (by decide +kernel) rfl rfl (Nat.le_of_ble_eq_true rfl) dX3_addByDistance_171 (fun H locs hP hD hS => ?_)
                have hP : va_P X.1 vwCl [(r, .inr (3, [.ref k, .ref v, .ref dd, .int (nI ((min R.length (mo - 1)) + 1))])), (k, .inl (X.2.1, 150, .inl (upd (va_cpy kf kf (a + 1) ((a + 1) + 1) ((min R.length (mo - 1)) - (a + 1))) (a + 1) (nI key)))), (v, .inl (X.2.1, 150, .inl (upd (va_cpy vf vf (a + 1) ((a + 1) + 1) ((min R.length (mo - 1)) - (a + 1))) (a + 1) x))), (dd, .inl (X.2.2, 150, .inr (.inl (vp_updL (va_cpy df df (a + 1) ((a + 1) + 1) ((min R.length (mo - 1)) - (a + 1))) (a + 1) ds))))] H := hP
                have hD : va_D A_ [(r, .inr (3, [.ref k, .ref v, .ref dd, .int (nI ((min R.length (mo - 1)) + 1))])), (k, .inl (X.2.1, 150, .inl (upd (va_cpy kf kf (a + 1) ((a + 1) + 1) ((min R.length (mo - 1)) - (a + 1))) (a + 1) (nI key)))), (v, .inl (X.2.1, 150, .inl (upd (va_cpy vf vf (a + 1) ((a + 1) + 1) ((min R.length (mo - 1)) - (a + 1))) (a + 1) x))), (dd, .inl (X.2.2, 150, .inr (.inl (vp_updL (va_cpy df df (a + 1) ((a + 1) + 1) ((min R.length (mo - 1)) - (a + 1))) (a + 1) ds))))] := hD
                have hfin := nr_ins (x := x) h hk hm hm2 (show posD R ds < mo by rw [hpos]; omega)
                rw [hpos] at hfin
                rw [← hfin.2] at hP
                refine wM hQ ?_
                exact rtV (upd (va_cpy kf kf (a + 1) ((a + 1) + 1) ((min R.length (mo - 1)) - (a + 1))) (a + 1) (nI key), upd (va_cpy vf vf (a + 1) ((a + 1) + 1) ((min R.length (mo - 1)) - (a + 1))) (a + 1) x, vp_updL (va_cpy df df (a + 1) ((a + 1) + 1) ((min R.length (mo - 1)) - (a + 1))) (a + 1) ds) hx hb hr hlocks hP hS (hfin.1) dX3_addByDistance_174
              · replace c_53 : ¬ (a + 1) < 150 := fun h9 => c_53 ((nI_ltI (by omega) (by omega)).mpr h9)
                have hsm : ((insD R (key, x, ds)).take mo) = R := nr_same hm (show mo ≤ posD R ds by rw [hpos]; omega)
                refine wM hQ ?_
                exact rtV (kf, vf, df) hx hb hr hlocks (by show va_P X.1 vwCl [(r, .inr (3, [.ref k, .ref v, .ref dd, .int (nI (((insD R (key, x, ds)).take mo).length))])), (k, .inl (X.2.1, 150, .inl kf)), (v, .inl (X.2.1, 150, .inl vf)), (dd, .inl (X.2.2, 150, .inr (.inl df)))] _; rw [hsm]; exact hP) hS ((by show nrOk kf vf df _; rw [hsm]; exact h)) dX3_addByDistance_56
          · skip
            have hgt := lg_gt c_28
            refine lv_iload hx hb dX3_addByDistance_31 (lv_at hl 6 rfl) ?_
            refine lv_istore (lv' := [(6, .int (nI a)), (0, .ref r), (1, .int (nI key)), (2, .int x), (3, .long ds), (5, .int (nI mo)), (7, .int (nI a))]) hx hb dX3_addByDistance_33 hl (by decide) rfl (fun ls hl => ?_)
            refine lv_iinc (v := im a) (lv' := [(7, .int (im a)), (6, .int (nI a)), (0, .ref r), (1, .int (nI key)), (2, .int x), (3, .long ds), (5, .int (nI mo))]) hx hb dX3_addByDistance_35 hl (k := 6) rfl (by show _ = nI a - nI 1; rw [show Int32.ofInt (-1) = -nI 1 from by decide, Int32.sub_eq_add_neg]) (by decide) rfl (fun ls hl => ?_)
            refine lv_goto (tgt := 14) hx hb dX3_addByDistance_38 (by decide) ?_
            have hstep : ∀ j, a ≤ j → j < R.length → ds < (R.getD j nr0).2.2 := fun j hj hl2 => by
              rcases Nat.eq_or_lt_of_le hj with z | z
              · rw [← z]; exact hgt
              · exact h2 j z hl2
            have hl : lv_has ls 8 [(7, .int (im a)), (6, .int (nI a)), (0, .ref r), (1, .int (nI key)), (2, .int x), (3, .long ds), (5, .int (nI mo))] := hl
            exact ih14 a (by omega) (by exact hstep) (by omega) ls (lv_sub hl [2, 3, 4, 5, 6, 1, 0] rfl)
  exact loop_14 _ R.length (by omega) (by exact fun j hj hl2 => absurd hl2 (by omega)) (Nat.lt_succ_self _) ls (lv_sub hl [2, 3, 4, 5, 6, 1, 0] rfl)
