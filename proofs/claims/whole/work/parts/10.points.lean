/-! Points: contracts, laid by program (wip/gen/spec_pts.py) -/
set_option maxHeartbeats 4000000 in
set_option maxRecDepth 100000 in
theorem c_X2_isFull (l : Launch) (X : kX) (p k v n w : Nat) (hn : n ≤ 512) : CRi l X yX2_isFull wsX2_isFull 0 [.ref p] [(p, .inr (2, [.ref k, .ref v, .int (nI n), .int (nI w)]))] (fun r => ((512 ≤ n) ∧ r = nI 1) ∨ (¬ (512 ≤ n) ∧ r = nI 0)) := by
  refine Met.ofW (cc := cX2_isFull) (maxL := 1) (ret := some (.boolean)) (by decide) rfl ?_
  intro pz ez sz mz args below meth cz s₁ Bz hml hv
  obtain ⟨rfl, hP, hK, hD0, hN⟩ := hv
  have hx := Bz.exec
  have hb := Bz.bytes
  have hr := Bz.returns
  have hts := atoms_spec (ws := wsX2_isFull) Bz.pre
  have hown : sz.vm.findClass RX2 = some mz.cls := findClass_of_methodNamed Bz.named
  have hlocks := Bz.notSynchronized
  have hD := inW.self hD0
  have hS : va_S (inW [(p, .inr (2, [.ref k, .ref v, .int (nI n), .int (nI w)]))]) sz.heap sz.heap [] := va_S.rf
  have hl := lv_entry ([.ref p]) (n := 1) (Nat.le_of_ble_eq_true rfl)
  rw [lg_entry_eq]
  generalize (lg_sl ([.ref p]) ++ List.replicate (1 - (lg_sl ([.ref p])).length) Slot.unset).toArray = ls at hl ⊢
  have hl : lv_has ls 1 [(0, .ref p)] := hl
  have lk18 := hts (.fieldLink RX2 18 "PointStore$Points" "total" "I") (by decide +kernel)
  have hin2 : ∀ w ∈ u_ws RX2 TX2 4, w ∈ wsX2_isFull := by decide +kernel
  refine wQ (fun Q hQ => ?_)
  generalize hAe : inW [(p, .inr (2, [.ref k, .ref v, .int (nI n), .int (nI w)]))] = A_ at hD hS
  refine lv_aload_n hx hb dX2_isFull_0 rfl (lv_at hl 0 rfl) ?_
  refine va_get (D := X.1) (ci := 2) (v := .int (nI n)) (C := RX2) (T := TX2) (N := 4) hx hb hts hin2 hown hK hP 0 rfl rfl 2 (by decide) lk18 (fun _ h9 => h9) rfl dX2_isFull_1 ?_
  refine lv_sipush (v := nI 512) hx hb dX2_isFull_4 (by decide) ?_
  refine lv_icmp_lt (tgt := 14) hx hb dX2_isFull_7 (by decide) (fun c_7 => ?_) (fun c_7 => ?_)
  · replace c_7 : n < 512 := (nI_ltI (by omega) (by omega)).mp c_7
    refine lv_iconst (v := nI 0) hx hb dX2_isFull_14 (by decide) ?_
    refine wM hQ ?_
    exact rtRZ hx hb hr hlocks (by decide) (Or.inr ⟨by omega, rfl⟩) dX2_isFull_15
  · replace c_7 : ¬ n < 512 := fun h9 => c_7 ((nI_ltI (by omega) (by omega)).mpr h9)
    refine lv_iconst (v := nI 1) hx hb dX2_isFull_10 (by decide) ?_
    refine lv_goto (tgt := 15) hx hb dX2_isFull_11 (by decide) ?_
    refine wM hQ ?_
    exact rtRZ hx hb hr hlocks (by decide) (Or.inl ⟨by omega, rfl⟩) dX2_isFull_15
set_option maxHeartbeats 4000000 in
set_option maxRecDepth 100000 in
theorem c_X2_keyAt (l : Launch) (X : kX) (p k v n w i : Nat) (kf : Nat → Int32) (hn : n ≤ 512) (hi : i < 2 ^ 31) : CRi l X yX2_keyAt wsX2_keyAt 0 [.ref p, .int (nI i)] [(p, .inr (2, [.ref k, .ref v, .int (nI n), .int (nI w)])), (k, .inl (X.2.1, 512, .inl kf))] (fun r => r = if i < n then kf i else nI 1073741824) := by
  refine Met.ofW (cc := cX2_keyAt) (maxL := 2) (ret := some (.int)) (by decide) rfl ?_
  intro pz ez sz mz args below meth cz s₁ Bz hml hv
  obtain ⟨rfl, hP, hK, hD0, hN⟩ := hv
  have hx := Bz.exec
  have hb := Bz.bytes
  have hr := Bz.returns
  have hts := atoms_spec (ws := wsX2_keyAt) Bz.pre
  have hown : sz.vm.findClass RX2 = some mz.cls := findClass_of_methodNamed Bz.named
  have hlocks := Bz.notSynchronized
  have hD := inW.self hD0
  have hS : va_S (inW [(p, .inr (2, [.ref k, .ref v, .int (nI n), .int (nI w)])), (k, .inl (X.2.1, 512, .inl kf))]) sz.heap sz.heap [] := va_S.rf
  have hl := lv_entry ([.ref p, .int (nI i)]) (n := 2) (Nat.le_of_ble_eq_true rfl)
  rw [lg_entry_eq]
  generalize (lg_sl ([.ref p, .int (nI i)]) ++ List.replicate (2 - (lg_sl ([.ref p, .int (nI i)])).length) Slot.unset).toArray = ls at hl ⊢
  have hl : lv_has ls 2 [(0, .ref p), (1, .int (nI i))] := hl
  have lk9 := hts (.fieldLink RX2 9 "PointStore$Points" "keys" "[I") (by decide +kernel)
  have lk18 := hts (.fieldLink RX2 18 "PointStore$Points" "total" "I") (by decide +kernel)
  have hin2 : ∀ w ∈ u_ws RX2 TX2 4, w ∈ wsX2_keyAt := by decide +kernel
  refine wQ (fun Q hQ => ?_)
  generalize hAe : inW [(p, .inr (2, [.ref k, .ref v, .int (nI n), .int (nI w)])), (k, .inl (X.2.1, 512, .inl kf))] = A_ at hD hS
  refine lv_iload_n hx hb dX2_keyAt_0 rfl (lv_at hl 1 rfl) ?_
  refine lv_if_lt (tgt := 21) hx hb dX2_keyAt_1 (by decide) (fun c_1 => ?_) (fun c_1 => ?_)
  · exact absurd c_1 (by first | exact nI_pos (by omega) | exact fun h9 => h9 (nI_pos' (by omega)))
  · change ¬ (nI i < nI 0) at c_1
    replace c_1 : ¬ i < 0 := fun h9 => c_1 ((nI_ltI (by omega) (by omega)).mpr h9)
    refine lv_iload_n hx hb dX2_keyAt_4 rfl (lv_at hl 1 rfl) ?_
    refine lv_aload_n hx hb dX2_keyAt_5 rfl (lv_at hl 0 rfl) ?_
    refine va_get (D := X.1) (ci := 2) (v := .int (nI n)) (C := RX2) (T := TX2) (N := 4) hx hb hts hin2 hown hK hP 0 rfl rfl 2 (by decide) lk18 (fun _ h9 => h9) rfl dX2_keyAt_6 ?_
    refine lv_icmp_ge (tgt := 21) hx hb dX2_keyAt_9 (by decide) (fun c_9 => ?_) (fun c_9 => ?_)
    · replace c_9 : n ≤ i := (nI_leI (by omega) (by omega)).mp c_9
      refine lv_ldc (v := 1073741824) hx hb hown (hts (.constant RX2 25 (1073741824)) (by decide +kernel)) dX2_keyAt_21 ?_
      refine lv_topi (fun x_1 ex_1 => ?_)
      obtain rfl : x_1 = nI 1073741824 := by
        rw [ex_1]
        rfl
      refine wM hQ ?_
      exact rtRI hx hb hr hlocks ((by show _ = _; first | rw [if_pos (by omega)] | rw [if_neg (by omega)])) dX2_keyAt_23
    · replace c_9 : ¬ n ≤ i := fun h9 => c_9 ((nI_leI (by omega) (by omega)).mpr h9)
      refine lv_aload_n hx hb dX2_keyAt_12 rfl (lv_at hl 0 rfl) ?_
      refine va_get (D := X.1) (ci := 2) (v := .ref k) (C := RX2) (T := TX2) (N := 4) hx hb hts hin2 hown hK hP 0 rfl rfl 0 (by decide) lk9 (fun _ h9 => h9) rfl dX2_keyAt_13 ?_
      refine lv_iload_n hx hb dX2_keyAt_16 rfl (lv_at hl 1 rfl) ?_
      have hi_2 : vp_in (nI i) 512 := vp_in_nI (by omega) (by omega)
      refine va_iald hx hb hK hP 1 0 rfl rfl hi_2 dX2_keyAt_17 ?_
      refine lv_topi (fun x_3 ex_3 => ?_)
      obtain rfl : x_3 = kf i := by
        rw [ex_3]
        rw [nI_clamp (by omega)]
      refine lv_goto (tgt := 23) hx hb dX2_keyAt_18 (by decide) ?_
      refine wM hQ ?_
      exact rtRI hx hb hr hlocks ((by show _ = _; first | rw [if_pos (by omega)] | rw [if_neg (by omega)])) dX2_keyAt_23
set_option maxHeartbeats 4000000 in
set_option maxRecDepth 100000 in
theorem c_X2_placeOf (l : Launch) (X : kX) (p k v w key : Nat) (kf vf : Nat → Int32) (L : PL) (h : ptOk kf vf L) (hk : key < 2 ^ 31) : CRi l X yX2_placeOf wsX2_placeOf 0 [.ref p, .int (nI key)] [(p, .inr (2, [.ref k, .ref v, .int (nI L.length), .int (nI w)])), (k, .inl (X.2.1, 512, .inl kf))] (fun r => r = nI (rk L key)) := by
  refine Met.ofW (cc := cX2_placeOf) (maxL := 4) (ret := some (.int)) (by decide) rfl ?_
  intro pz ez sz mz args below meth cz s₁ Bz hml hv
  obtain ⟨rfl, hP, hK, hD0, hN⟩ := hv
  have hx := Bz.exec
  have hb := Bz.bytes
  have hr := Bz.returns
  have hts := atoms_spec (ws := wsX2_placeOf) Bz.pre
  have hown : sz.vm.findClass RX2 = some mz.cls := findClass_of_methodNamed Bz.named
  have hlocks := Bz.notSynchronized
  have hD := inW.self hD0
  have hS : va_S (inW [(p, .inr (2, [.ref k, .ref v, .int (nI L.length), .int (nI w)])), (k, .inl (X.2.1, 512, .inl kf))]) sz.heap sz.heap [] := va_S.rf
  have hl := lv_entry ([.ref p, .int (nI key)]) (n := 4) (Nat.le_of_ble_eq_true rfl)
  rw [lg_entry_eq]
  generalize (lg_sl ([.ref p, .int (nI key)]) ++ List.replicate (4 - (lg_sl ([.ref p, .int (nI key)])).length) Slot.unset).toArray = ls at hl ⊢
  have hl : lv_has ls 4 [(0, .ref p), (1, .int (nI key))] := hl
  have lk9 := hts (.fieldLink RX2 9 "PointStore$Points" "keys" "[I") (by decide +kernel)
  have lk18 := hts (.fieldLink RX2 18 "PointStore$Points" "total" "I") (by decide +kernel)
  have hin2 : ∀ w ∈ u_ws RX2 TX2 4, w ∈ wsX2_placeOf := by decide +kernel
  refine wQ (fun Q hQ => ?_)
  generalize hAe : inW [(p, .inr (2, [.ref k, .ref v, .int (nI L.length), .int (nI w)])), (k, .inl (X.2.1, 512, .inl kf))] = A_ at hD hS
  have hL := h.1
  have hrl := rk_le L key
  refine lv_iconst (v := nI 0) hx hb dX2_placeOf_0 (by decide) ?_
  refine lv_istore_n (lv' := [(2, .int (nI 0)), (0, .ref p), (1, .int (nI key))]) hx hb dX2_placeOf_1 rfl hl (by decide) rfl (fun ls hl => ?_)
  refine lv_sipush (v := nI 512) hx hb dX2_placeOf_2 (by decide) ?_
  refine lv_istore_n (lv' := [(3, .int (nI 512)), (2, .int (nI 0)), (0, .ref p), (1, .int (nI key))]) hx hb dX2_placeOf_5 rfl hl (by decide) rfl (fun ls hl => ?_)
  have loop_6 : ∀ (fu : Nat) (at_ : Nat) (sp : Nat), (at_ ≤ rk L key) → ((sp = 0 ∧ rk L key = at_) ∨ (0 < sp ∧ rk L key < at_ + 2 * sp)) → (sp = 0 ∨ sp = 1 ∨ sp = 2 ∨ sp = 4 ∨ sp = 8 ∨ sp = 16 ∨ sp = 32 ∨ sp = 64 ∨ sp = 128 ∨ sp = 256 ∨ sp = 512) → sp < fu → ∀ (ls : Array Slot), lv_has ls 4 [(0, .ref p), (1, .int (nI key)), (2, .int (nI at_)), (3, .int (nI sp))] → W pz l ez (headSpec wsX2_placeOf (rmk 0)).room sz mz ([.ref p, .int (nI key)].toArray) below meth cz sz.heap [] 0 0 Q (F0 mz 6 ls []) := by
    intro fu
    induction fu with
    | zero => intro at_ sp h1 h2 h3 hfu; exact absurd hfu (Nat.not_lt_zero _)
    | succ fu ih6 =>
      intro at_ sp h1 h2 h3 hfu ls hl
      refine lv_iload_n hx hb dX2_placeOf_6 rfl (lv_at hl 3 rfl) ?_
      refine lv_if_le (tgt := 45) hx hb dX2_placeOf_7 (by decide) (fun c_7 => ?_) (fun c_7 => ?_)
      · change nI sp ≤ nI 0 at c_7
        replace c_7 : sp ≤ 0 := (nI_leI (by omega) (by omega)).mp c_7
        refine lv_iload_n hx hb dX2_placeOf_45 rfl (lv_at hl 2 rfl) ?_
        refine wM hQ ?_
        exact rtRI hx hb hr hlocks ((by show nI _ = nI _; congr 1; omega)) dX2_placeOf_46
      · change ¬ (nI sp ≤ nI 0) at c_7
        replace c_7 : ¬ sp ≤ 0 := fun h9 => c_7 ((nI_leI (by omega) (by omega)).mpr h9)
        refine lv_iload_n hx hb dX2_placeOf_10 rfl (lv_at hl 2 rfl) ?_
        refine lv_iload_n hx hb dX2_placeOf_11 rfl (lv_at hl 3 rfl) ?_
        refine lv_iadd hx hb dX2_placeOf_12 ?_
        refine lv_topi (fun x_1 ex_1 => ?_)
        obtain rfl : x_1 = nI (at_ + sp) := by
          rw [ex_1]
          exact nI_add _ _
        refine lv_aload_n hx hb dX2_placeOf_13 rfl (lv_at hl 0 rfl) ?_
        refine va_get (D := X.1) (ci := 2) (v := .int (nI L.length)) (C := RX2) (T := TX2) (N := 4) hx hb hts hin2 hown hK hP 0 rfl rfl 2 (by decide) lk18 (fun _ h9 => h9) rfl dX2_placeOf_14 ?_
        refine lv_icmp_gt (tgt := 38) hx hb dX2_placeOf_17 (by decide) (fun c_17 => ?_) (fun c_17 => ?_)
        · replace c_17 : L.length < (at_ + sp) := (nI_ltI (by omega) (by omega)).mp c_17
          refine lv_iload_n hx hb dX2_placeOf_38 rfl (lv_at hl 3 rfl) ?_
          refine lv_iconst (v := nI 1) hx hb dX2_placeOf_39 (by decide) ?_
          refine lv_ishr hx hb dX2_placeOf_40 ?_
          refine lv_topi (fun x_2 ex_2 => ?_)
          obtain rfl : x_2 = nI (sp / 2) := by
            rw [ex_2]
            exact pk_shrN (by omega) _ 1 (by decide)
          refine lv_istore_n (lv' := [(3, .int (nI (sp / 2))), (0, .ref p), (1, .int (nI key)), (2, .int (nI at_))]) hx hb dX2_placeOf_41 rfl hl (by decide) rfl (fun ls hl => ?_)
          refine lv_goto (tgt := 6) hx hb dX2_placeOf_42 (by decide) ?_
          exact ih6 at_ (sp / 2) (by omega) (by omega) (by omega) (by omega) ls (lv_sub hl [1, 2, 3, 0] rfl)
        · replace c_17 : ¬ L.length < (at_ + sp) := fun h9 => c_17 ((nI_ltI (by omega) (by omega)).mpr h9)
          refine lv_aload_n hx hb dX2_placeOf_20 rfl (lv_at hl 0 rfl) ?_
          refine va_get (D := X.1) (ci := 2) (v := .ref k) (C := RX2) (T := TX2) (N := 4) hx hb hts hin2 hown hK hP 0 rfl rfl 0 (by decide) lk9 (fun _ h9 => h9) rfl dX2_placeOf_21 ?_
          refine lv_iload_n hx hb dX2_placeOf_24 rfl (lv_at hl 2 rfl) ?_
          refine lv_iload_n hx hb dX2_placeOf_25 rfl (lv_at hl 3 rfl) ?_
          refine lv_iadd hx hb dX2_placeOf_26 ?_
          refine lv_topi (fun x_3 ex_3 => ?_)
          obtain rfl : x_3 = nI (at_ + sp) := by
            rw [ex_3]
            exact nI_add _ _
          refine lv_iconst (v := nI 1) hx hb dX2_placeOf_27 (by decide) ?_
          refine lv_isub hx hb dX2_placeOf_28 ?_
          refine lv_topi (fun x_4 ex_4 => ?_)
          obtain rfl : x_4 = nI ((at_ + sp) - 1) := by
            rw [ex_4]
            exact pk_sub (by omega)
          have hi_5 : vp_in (nI ((at_ + sp) - 1)) 512 := vp_in_nI (by omega) (by omega)
          refine va_iald hx hb hK hP 1 0 rfl rfl hi_5 dX2_placeOf_29 ?_
          refine lv_topi (fun x_6 ex_6 => ?_)
          obtain rfl : x_6 = kf ((at_ + sp) - 1) := by
            rw [ex_6]
            rw [nI_clamp (by omega)]
          refine lv_topi (fun x_7 ex_7 => ?_)
          obtain rfl : x_7 = nI (pK L (at_ + sp - 1)) := by
            rw [ex_7]
            exact h.k (by omega)
          refine lv_iload_n hx hb dX2_placeOf_30 rfl (lv_at hl 1 rfl) ?_
          have hkb := h.kb (i := at_ + sp - 1) (by omega)
          refine lv_icmp_ge (tgt := 38) hx hb dX2_placeOf_31 (by decide) (fun c_31 => ?_) (fun c_31 => ?_)
          · replace c_31 : key ≤ (pK L (at_ + sp - 1)) := (nI_leI (by omega) (by omega)).mp c_31
            have q1 : rk L key ≤ at_ + sp - 1 := by
              rcases Nat.lt_or_ge (at_ + sp - 1) (rk L key) with z | z
              · have := rk_lt L key _ z
                omega
              · exact z
            refine lv_iload_n hx hb dX2_placeOf_38 rfl (lv_at hl 3 rfl) ?_
            refine lv_iconst (v := nI 1) hx hb dX2_placeOf_39 (by decide) ?_
            refine lv_ishr hx hb dX2_placeOf_40 ?_
            refine lv_topi (fun x_8 ex_8 => ?_)
            obtain rfl : x_8 = nI (sp / 2) := by
              rw [ex_8]
              exact pk_shrN (by omega) _ 1 (by decide)
            refine lv_istore_n (lv' := [(3, .int (nI (sp / 2))), (0, .ref p), (1, .int (nI key)), (2, .int (nI at_))]) hx hb dX2_placeOf_41 rfl hl (by decide) rfl (fun ls hl => ?_)
            refine lv_goto (tgt := 6) hx hb dX2_placeOf_42 (by decide) ?_
            exact ih6 at_ (sp / 2) (by omega) (by omega) (by omega) (by omega) ls (lv_sub hl [1, 2, 3, 0] rfl)
          · replace c_31 : ¬ key ≤ (pK L (at_ + sp - 1)) := fun h9 => c_31 ((nI_leI (by omega) (by omega)).mpr h9)
            have q1 : at_ + sp - 1 < rk L key := by
              rcases Nat.lt_or_ge (at_ + sp - 1) (rk L key) with z | z
              · exact z
              · have := rk_ge L key _ h.2.2.1 z (by omega)
                omega
            refine lv_iload_n hx hb dX2_placeOf_34 rfl (lv_at hl 2 rfl) ?_
            refine lv_iload_n hx hb dX2_placeOf_35 rfl (lv_at hl 3 rfl) ?_
            refine lv_iadd hx hb dX2_placeOf_36 ?_
            refine lv_topi (fun x_9 ex_9 => ?_)
            obtain rfl : x_9 = nI (at_ + sp) := by
              rw [ex_9]
              exact nI_add _ _
            refine lv_istore_n (lv' := [(2, .int (nI (at_ + sp))), (0, .ref p), (1, .int (nI key)), (3, .int (nI sp))]) hx hb dX2_placeOf_37 rfl hl (by decide) rfl (fun ls hl => ?_)
            refine lv_iload_n hx hb dX2_placeOf_38 rfl (lv_at hl 3 rfl) ?_
            refine lv_iconst (v := nI 1) hx hb dX2_placeOf_39 (by decide) ?_
            refine lv_ishr hx hb dX2_placeOf_40 ?_
            refine lv_topi (fun x_10 ex_10 => ?_)
            obtain rfl : x_10 = nI (sp / 2) := by
              rw [ex_10]
              exact pk_shrN (by omega) _ 1 (by decide)
            refine lv_istore_n (lv' := [(3, .int (nI (sp / 2))), (2, .int (nI (at_ + sp))), (0, .ref p), (1, .int (nI key))]) hx hb dX2_placeOf_41 rfl hl (by decide) rfl (fun ls hl => ?_)
            refine lv_goto (tgt := 6) hx hb dX2_placeOf_42 (by decide) ?_
            exact ih6 (at_ + sp) (sp / 2) (by omega) (by omega) (by omega) (by omega) ls (lv_sub hl [2, 3, 1, 0] rfl)
  exact loop_6 _ 0 512 (by omega) (by omega) (by omega) (Nat.lt_succ_self _) ls (lv_sub hl [2, 3, 1, 0] rfl)
set_option maxHeartbeats 4000000 in
set_option maxRecDepth 100000 in
theorem c_X2_valueOf (l : Launch) (X : kX) (p k v w key : Nat) (kf vf : Nat → Int32) (L : PL) (h : ptOk kf vf L) (hk : key < 2 ^ 30) : CRi l X yX2_valueOf wsX2_valueOf 1 [.ref p, .int (nI key)] [(p, .inr (2, [.ref k, .ref v, .int (nI L.length), .int (nI w)])), (k, .inl (X.2.1, 512, .inl kf)), (v, .inl (X.2.1, 512, .inl vf))] (fun r => r = vOf L key) := by
  refine Met.ofW (cc := cX2_valueOf) (maxL := 3) (ret := some (.int)) (by decide) rfl ?_
  intro pz ez sz mz args below meth cz s₁ Bz hml hv
  obtain ⟨rfl, hP, hK, hD0, hN⟩ := hv
  have hx := Bz.exec
  have hb := Bz.bytes
  have hr := Bz.returns
  have hts := atoms_spec (ws := wsX2_valueOf) Bz.pre
  have hown : sz.vm.findClass RX2 = some mz.cls := findClass_of_methodNamed Bz.named
  have hlocks := Bz.notSynchronized
  have hD := inW.self hD0
  have hS : va_S (inW [(p, .inr (2, [.ref k, .ref v, .int (nI L.length), .int (nI w)])), (k, .inl (X.2.1, 512, .inl kf)), (v, .inl (X.2.1, 512, .inl vf))]) sz.heap sz.heap [] := va_S.rf
  have hl := lv_entry ([.ref p, .int (nI key)]) (n := 3) (Nat.le_of_ble_eq_true rfl)
  rw [lg_entry_eq]
  generalize (lg_sl ([.ref p, .int (nI key)]) ++ List.replicate (3 - (lg_sl ([.ref p, .int (nI key)])).length) Slot.unset).toArray = ls at hl ⊢
  have hl : lv_has ls 3 [(0, .ref p), (1, .int (nI key))] := hl
  have lk15 := hts (.fieldLink RX2 15 "PointStore$Points" "values" "[I") (by decide +kernel)
  have hin2 : ∀ w ∈ u_ws RX2 TX2 4, w ∈ wsX2_valueOf := by decide +kernel
  refine wQ (fun Q hQ => ?_)
  generalize hAe : inW [(p, .inr (2, [.ref k, .ref v, .int (nI L.length), .int (nI w)])), (k, .inl (X.2.1, 512, .inl kf)), (v, .inl (X.2.1, 512, .inl vf))] = A_ at hD hS
  have hL := h.1
  have hrl := rk_le L key
  have hlk := lkp_rk L key h.2.2.1
  refine lv_aload_n hx hb dX2_valueOf_0 rfl (lv_at hl 0 rfl) ?_
  refine lv_iload_n hx hb dX2_valueOf_1 rfl (lv_at hl 1 rfl) ?_
  refine ckVRi (As := [.int (nI key)]) (rest := []) 0 [0, 1] (c_X2_placeOf l X p k v w key kf vf L h (by omega)) ⟨hx, hb, hml, hown, hts⟩ (cwV 1 hts gX2_valueOf_X2_placeOf rfl rfl rfl (by decide +kernel) ⟨Nat.le_of_ble_eq_true rfl, Nat.le_of_ble_eq_true rfl⟩) hK hN hP hD (by decide) rfl (ci := 2) rfl rfl rfl hl.1 rfl (Nat.le_of_ble_eq_true rfl) dX2_valueOf_2 ⟨Nat.zero_le _, Nat.zero_le _⟩ (fun r_1 hc_2 => ?_)
  subst hc_2
  refine lv_istore_n (lv' := [(2, .int (nI (rk L key))), (0, .ref p), (1, .int (nI key))]) hx hb dX2_valueOf_5 rfl hl (by decide) rfl (fun ls hl => ?_)
  refine lv_aload_n hx hb dX2_valueOf_6 rfl (lv_at hl 1 rfl) ?_
  refine lv_iload_n hx hb dX2_valueOf_7 rfl (lv_at hl 0 rfl) ?_
  refine ckVRi (As := [.int (nI (rk L key))]) (rest := []) 0 [0, 1] (c_X2_keyAt l X p k v L.length w (rk L key) kf hL (by omega)) ⟨hx, hb, hml, hown, hts⟩ (cwV 1 hts gX2_valueOf_X2_keyAt rfl rfl rfl (by decide +kernel) ⟨Nat.le_of_ble_eq_true rfl, Nat.le_of_ble_eq_true rfl⟩) hK hN hP hD (by decide) rfl (ci := 2) rfl rfl rfl hl.1 rfl (Nat.le_of_ble_eq_true rfl) dX2_valueOf_8 ⟨Nat.zero_le _, Nat.zero_le _⟩ (fun r_2 hc_8 => ?_)
  by_cases hlt : rk L key < L.length
  · skip
    rw [if_pos hlt, h.k hlt] at hc_8
    subst hc_8
    have hkb := h.kb hlt
    refine lv_iload_n hx hb dX2_valueOf_11 rfl (lv_at hl 2 rfl) ?_
    refine lv_icmp_ne (tgt := 24) hx hb dX2_valueOf_12 (by decide) (fun c_12 => ?_) (fun c_12 => ?_)
    · replace c_12 : ¬ (pK L (rk L key)) = key := fun h9 => c_12 ((nI_eq (by omega) (by omega)).mpr h9)
      refine lv_iconst (v := (-1)) hx hb dX2_valueOf_24 (by decide) ?_
      refine wM hQ ?_
      exact rtRI hx hb hr hlocks ((by show _ = _; unfold vOf; first | rw [hlk, if_pos ⟨hlt, c_12⟩, h.v hlt] | rw [hlk, if_neg (fun z => by omega)])) dX2_valueOf_25
    · replace c_12 : (pK L (rk L key)) = key := (nI_eq (by omega) (by omega)).mp c_12
      refine lv_aload_n hx hb dX2_valueOf_15 rfl (lv_at hl 1 rfl) ?_
      refine va_get (D := X.1) (ci := 2) (v := .ref v) (C := RX2) (T := TX2) (N := 4) hx hb hts hin2 hown hK hP 0 rfl rfl 1 (by decide) lk15 (fun _ h9 => h9) rfl dX2_valueOf_16 ?_
      refine lv_iload_n hx hb dX2_valueOf_19 rfl (lv_at hl 0 rfl) ?_
      have hi_3 : vp_in (nI (rk L key)) 512 := vp_in_nI (by omega) (by omega)
      refine va_iald hx hb hK hP 2 0 rfl rfl hi_3 dX2_valueOf_20 ?_
      refine lv_topi (fun x_4 ex_4 => ?_)
      obtain rfl : x_4 = vf (rk L key) := by
        rw [ex_4]
        rw [nI_clamp (by omega)]
      refine lv_goto (tgt := 25) hx hb dX2_valueOf_21 (by decide) ?_
      refine wM hQ ?_
      exact rtRI hx hb hr hlocks ((by show _ = _; unfold vOf; first | rw [hlk, if_pos ⟨hlt, c_12⟩, h.v hlt] | rw [hlk, if_neg (fun z => by omega)])) dX2_valueOf_25
  · skip
    rw [if_neg hlt] at hc_8
    subst hc_8
    refine lv_iload_n hx hb dX2_valueOf_11 rfl (lv_at hl 2 rfl) ?_
    refine lv_icmp_ne (tgt := 24) hx hb dX2_valueOf_12 (by decide) (fun c_12 => ?_) (fun c_12 => ?_)
    · replace c_12 : ¬ 1073741824 = key := fun h9 => c_12 ((nI_eq (by omega) (by omega)).mpr h9)
      refine lv_iconst (v := (-1)) hx hb dX2_valueOf_24 (by decide) ?_
      refine wM hQ ?_
      exact rtRI hx hb hr hlocks ((by show _ = _; unfold vOf; first | rw [hlk, if_pos ⟨hlt, c_12⟩, h.v hlt] | rw [hlk, if_neg (fun z => by omega)])) dX2_valueOf_25
    · replace c_12 : 1073741824 = key := (nI_eq (by omega) (by omega)).mp c_12
      omega
set_option maxHeartbeats 4000000 in
set_option maxRecDepth 100000 in
theorem c_X2_put (l : Launch) (X : kX) (p k v w key x : Nat) (kf vf : Nat → Int32) (L : PL) (h : ptOk kf vf L) (hk : key < 2 ^ 30) (hx0 : x < 2 ^ 31) (hl0 : (pput L key x).length ≤ 512) : CWv l X yX2_put wsX2_put 1 [.ref p, .int (nI key), .int (nI x)] [(p, .inr (2, [.ref k, .ref v, .int (nI L.length), .int (nI w)])), (k, .inl (X.2.1, 512, .inl kf)), (v, .inl (X.2.1, 512, .inl vf))] (S := (Nat → Int32) × (Nat → Int32)) (fun u => ptOk u.1 u.2 (pput L key x)) (fun ⟨kf2, vf2⟩ => [(p, .inr (2, [.ref k, .ref v, .int (nI ((pput L key x).length)), .int (nI (w + 1))])), (k, .inl (X.2.1, 512, .inl kf2)), (v, .inl (X.2.1, 512, .inl vf2))]) := by
  refine Met.ofW (cc := cX2_put) (maxL := 4) (ret := none) (by decide) rfl ?_
  intro pz ez sz mz args below meth cz s₁ Bz hml hv
  obtain ⟨rfl, hP, hK, hD0, hN⟩ := hv
  have hx := Bz.exec
  have hb := Bz.bytes
  have hr := Bz.returns
  have hts := atoms_spec (ws := wsX2_put) Bz.pre
  have hown : sz.vm.findClass RX2 = some mz.cls := findClass_of_methodNamed Bz.named
  have hlocks := Bz.notSynchronized
  have hD := inW.self hD0
  have hS : va_S (inW [(p, .inr (2, [.ref k, .ref v, .int (nI L.length), .int (nI w)])), (k, .inl (X.2.1, 512, .inl kf)), (v, .inl (X.2.1, 512, .inl vf))]) sz.heap sz.heap [] := va_S.rf
  have hl := lv_entry ([.ref p, .int (nI key), .int (nI x)]) (n := 4) (Nat.le_of_ble_eq_true rfl)
  rw [lg_entry_eq]
  generalize (lg_sl ([.ref p, .int (nI key), .int (nI x)]) ++ List.replicate (4 - (lg_sl ([.ref p, .int (nI key), .int (nI x)])).length) Slot.unset).toArray = ls at hl ⊢
  have hl : lv_has ls 4 [(0, .ref p), (1, .int (nI key)), (2, .int (nI x))] := hl
  have lk9 := hts (.fieldLink RX2 9 "PointStore$Points" "keys" "[I") (by decide +kernel)
  have lk15 := hts (.fieldLink RX2 15 "PointStore$Points" "values" "[I") (by decide +kernel)
  have lk18 := hts (.fieldLink RX2 18 "PointStore$Points" "total" "I") (by decide +kernel)
  have lk22 := hts (.fieldLink RX2 22 "PointStore$Points" "version" "I") (by decide +kernel)
  have hin2 : ∀ w ∈ u_ws RX2 TX2 4, w ∈ wsX2_put := by decide +kernel
  refine wQ (fun Q hQ => ?_)
  generalize hAe : inW [(p, .inr (2, [.ref k, .ref v, .int (nI L.length), .int (nI w)])), (k, .inl (X.2.1, 512, .inl kf)), (v, .inl (X.2.1, 512, .inl vf))] = A_ at hD hS hQ
  have hL := h.1
  have hrl := rk_le L key
  have hnew := fun hn hl => pt_put_new (v := x) h (key := key) hn hl hk hx0
  have hold := fun hn hkk => pt_put_old (v := x) h (key := key) hn hkk hx0
  refine lv_aload_n hx hb dX2_put_0 rfl (lv_at hl 0 rfl) ?_
  refine lv_iload_n hx hb dX2_put_1 rfl (lv_at hl 1 rfl) ?_
  refine ckVRi (As := [.int (nI key)]) (rest := []) 0 [0, 1] (c_X2_placeOf l X p k v w key kf vf L h (by omega)) ⟨hx, hb, hml, hown, hts⟩ (cwV 1 hts gX2_put_X2_placeOf rfl rfl rfl (by decide +kernel) ⟨Nat.le_of_ble_eq_true rfl, Nat.le_of_ble_eq_true rfl⟩) hK hN hP hD (by decide) rfl (ci := 2) rfl rfl rfl hl.1 rfl (Nat.le_of_ble_eq_true rfl) dX2_put_2 ⟨Nat.zero_le _, Nat.zero_le _⟩ (fun r_1 hc_2 => ?_)
  subst hc_2
  refine lv_istore_n (lv' := [(3, .int (nI (rk L key))), (0, .ref p), (1, .int (nI key)), (2, .int (nI x))]) hx hb dX2_put_5 rfl hl (by decide) rfl (fun ls hl => ?_)
  refine lv_aload_n hx hb dX2_put_6 rfl (lv_at hl 1 rfl) ?_
  refine lv_iload_n hx hb dX2_put_7 rfl (lv_at hl 0 rfl) ?_
  refine ckVRi (As := [.int (nI (rk L key))]) (rest := []) 0 [0, 1] (c_X2_keyAt l X p k v L.length w (rk L key) kf hL (by omega)) ⟨hx, hb, hml, hown, hts⟩ (cwV 1 hts gX2_put_X2_keyAt rfl rfl rfl (by decide +kernel) ⟨Nat.le_of_ble_eq_true rfl, Nat.le_of_ble_eq_true rfl⟩) hK hN hP hD (by decide) rfl (ci := 2) rfl rfl rfl hl.1 rfl (Nat.le_of_ble_eq_true rfl) dX2_put_8 ⟨Nat.zero_le _, Nat.zero_le _⟩ (fun r_2 hc_8 => ?_)
  by_cases hlt : rk L key < L.length
  · skip
    rw [if_pos hlt, h.k hlt] at hc_8
    subst hc_8
    have hkb := h.kb hlt
    refine lv_iload_n hx hb dX2_put_11 rfl (lv_at hl 2 rfl) ?_
    refine lv_icmp_eq (tgt := 82) hx hb dX2_put_12 (by decide) (fun c_12 => ?_) (fun c_12 => ?_)
    · replace c_12 : (pK L (rk L key)) = key := (nI_eq (by omega) (by omega)).mp c_12
      refine lv_aload_n hx hb dX2_put_82 rfl (lv_at hl 1 rfl) ?_
      refine va_get (D := X.1) (ci := 2) (v := .ref v) (C := RX2) (T := TX2) (N := 4) hx hb hts hin2 hown hK hP 0 rfl rfl 1 (by decide) lk15 (fun _ h9 => h9) rfl dX2_put_83 ?_
      refine lv_iload_n hx hb dX2_put_86 rfl (lv_at hl 0 rfl) ?_
      refine lv_iload_n hx hb dX2_put_87 rfl (lv_at hl 3 rfl) ?_
      have hi_3 : vp_in (nI (rk L key)) 512 := vp_in_nI (by omega) (by omega)
      refine va_iast hx hb hK hP hD hS 2 0 rfl rfl hi_3 dX2_put_88 (fun H locs hP hD hS => ?_)
      rw [nI_clamp (by omega)] at hP hD
      have hP : va_P X.1 vwCl [(p, .inr (2, [.ref k, .ref v, .int (nI L.length), .int (nI w)])), (k, .inl (X.2.1, 512, .inl kf)), (v, .inl (X.2.1, 512, .inl (upd vf (rk L key) (nI x))))] H := hP
      have hD : va_D A_ [(p, .inr (2, [.ref k, .ref v, .int (nI L.length), .int (nI w)])), (k, .inl (X.2.1, 512, .inl kf)), (v, .inl (X.2.1, 512, .inl (upd vf (rk L key) (nI x))))] := hD
      refine lv_aload_n hx hb dX2_put_89 rfl (lv_at hl 1 rfl) ?_
      refine lv_dup hx hb dX2_put_90 rfl ?_
      refine va_get (D := X.1) (ci := 2) (v := .int (nI w)) (C := RX2) (T := TX2) (N := 4) hx hb hts hin2 hown hK hP 0 rfl rfl 3 (by decide) lk22 (fun _ h9 => h9) rfl dX2_put_91 ?_
      refine lv_iconst (v := nI 1) hx hb dX2_put_94 (by decide) ?_
      refine lv_iadd hx hb dX2_put_95 ?_
      refine lv_topi (fun x_4 ex_4 => ?_)
      obtain rfl : x_4 = nI (w + 1) := by
        rw [ex_4]
        exact nI_add _ _
      refine va_put (D := X.1) (ci := 2) (v := .int (nI (w + 1))) (ty := .int) (C := RX2) (T := TX2) (N := 4) hx hb hts hin2 tyX2 tyX2_ok nmX2 hown hK hP hD hS 0 rfl rfl 3 (by decide) lk22 (fun _ h9 => h9) rfl (by decide +kernel) rfl rfl (Nat.le_of_ble_eq_true rfl) dX2_put_96 (fun H locs hP hD hS => ?_)
      have hP : va_P X.1 vwCl [(p, .inr (2, [.ref k, .ref v, .int (nI L.length), .int (nI (w + 1))])), (k, .inl (X.2.1, 512, .inl kf)), (v, .inl (X.2.1, 512, .inl (upd vf (rk L key) (nI x))))] H := hP
      have hD : va_D A_ [(p, .inr (2, [.ref k, .ref v, .int (nI L.length), .int (nI (w + 1))])), (k, .inl (X.2.1, 512, .inl kf)), (v, .inl (X.2.1, 512, .inl (upd vf (rk L key) (nI x))))] := hD
      rw [← (hold hlt c_12).2] at hP
      refine wM hQ ?_
      exact rtV (kf, upd vf (rk L key) (nI x)) hx hb hr hlocks hP hS ((hold hlt c_12).1) dX2_put_99
    · replace c_12 : ¬ (pK L (rk L key)) = key := fun h9 => c_12 ((nI_eq (by omega) (by omega)).mpr h9)
      refine lv_aload_n hx hb dX2_put_15 rfl (lv_at hl 1 rfl) ?_
      refine ckVRi (As := []) (rest := []) 0 [0] (c_X2_isFull l X p k v L.length w hL) ⟨hx, hb, hml, hown, hts⟩ (cwV 0 hts gX2_put_X2_isFull rfl rfl rfl (by decide +kernel) ⟨Nat.le_of_ble_eq_true rfl, Nat.le_of_ble_eq_true rfl⟩) hK hN hP hD (by decide) rfl (ci := 2) rfl rfl rfl hl.1 rfl (Nat.le_of_ble_eq_true rfl) dX2_put_16 ⟨Nat.zero_le _, Nat.zero_le _⟩ (fun r_5 hc_16 => ?_)
      rcases hc_16 with ⟨hc_16, rfl⟩ | ⟨hc_16, rfl⟩
      · skip
        have hlen : (pput L key x).length = L.length + 1 := by
          rw [pput_new L key x h.2.2.1 (fun z => by omega)]
          simp
          omega
        omega
      · skip
        refine lv_if_eq (tgt := 23) hx hb dX2_put_19 (by decide) (fun c_19 => ?_) (fun c_19 => ?_)
        · skip
          refine lv_aload_n hx hb dX2_put_23 rfl (lv_at hl 1 rfl) ?_
          refine va_get (D := X.1) (ci := 2) (v := .ref k) (C := RX2) (T := TX2) (N := 4) hx hb hts hin2 hown hK hP 0 rfl rfl 0 (by decide) lk9 (fun _ h9 => h9) rfl dX2_put_24 ?_
          refine lv_iload_n hx hb dX2_put_27 rfl (lv_at hl 0 rfl) ?_
          refine lv_aload_n hx hb dX2_put_28 rfl (lv_at hl 1 rfl) ?_
          refine va_get (D := X.1) (ci := 2) (v := .ref k) (C := RX2) (T := TX2) (N := 4) hx hb hts hin2 hown hK hP 0 rfl rfl 0 (by decide) lk9 (fun _ h9 => h9) rfl dX2_put_29 ?_
          refine lv_iload_n hx hb dX2_put_32 rfl (lv_at hl 0 rfl) ?_
          refine lv_iconst (v := nI 1) hx hb dX2_put_33 (by decide) ?_
          refine lv_iadd hx hb dX2_put_34 ?_
          refine lv_topi (fun x_6 ex_6 => ?_)
          obtain rfl : x_6 = nI ((rk L key) + 1) := by
            rw [ex_6]
            exact nI_add _ _
          refine lv_aload_n hx hb dX2_put_35 rfl (lv_at hl 1 rfl) ?_
          refine va_get (D := X.1) (ci := 2) (v := .int (nI L.length)) (C := RX2) (T := TX2) (N := 4) hx hb hts hin2 hown hK hP 0 rfl rfl 2 (by decide) lk18 (fun _ h9 => h9) rfl dX2_put_36 ?_
          refine lv_iload_n hx hb dX2_put_39 rfl (lv_at hl 0 rfl) ?_
          refine lv_isub hx hb dX2_put_40 ?_
          refine lv_topi (fun x_7 ex_7 => ?_)
          obtain rfl : x_7 = nI (L.length - (rk L key)) := by
            rw [ex_7]
            exact pk_sub (by omega)
          refine va_copyi hx hb (hml.trans hl.1.symm) hown (hts (.methodLink RX2 37 arraycopyName) (by decide +kernel)) (hts (.native arraycopyName) (by decide +kernel)) (hts (.static arraycopyName) (by decide +kernel)) (hts (.initialized "java/lang/System") (by decide +kernel)) hK hP hD hS 1 1 0 0 rfl rfl rfl rfl rfl (nI_pos (by omega)) (nI_pos (by omega)) (nI_pos (by omega)) (by rw [nI_clamp (by omega), nI_clamp (by omega)]; omega) (by rw [nI_clamp (by omega), nI_clamp (by omega)]; omega) (fun _ _ => rfl) (Nat.le_of_ble_eq_true rfl) (by decide) dX2_put_41 (fun H locs hP hD hS => ?_)
          rw [nI_clamp (n := rk L key) (by omega), nI_clamp (n := (rk L key) + 1) (by omega), nI_clamp (n := L.length - (rk L key)) (by omega)] at hP hD
          have hP : va_P X.1 vwCl [(p, .inr (2, [.ref k, .ref v, .int (nI L.length), .int (nI w)])), (k, .inl (X.2.1, 512, .inl (va_cpy kf kf (rk L key) ((rk L key) + 1) (L.length - (rk L key))))), (v, .inl (X.2.1, 512, .inl vf))] H := hP
          have hD : va_D A_ [(p, .inr (2, [.ref k, .ref v, .int (nI L.length), .int (nI w)])), (k, .inl (X.2.1, 512, .inl (va_cpy kf kf (rk L key) ((rk L key) + 1) (L.length - (rk L key))))), (v, .inl (X.2.1, 512, .inl vf))] := hD
          refine lv_aload_n hx hb dX2_put_44 rfl (lv_at hl 1 rfl) ?_
          refine va_get (D := X.1) (ci := 2) (v := .ref v) (C := RX2) (T := TX2) (N := 4) hx hb hts hin2 hown hK hP 0 rfl rfl 1 (by decide) lk15 (fun _ h9 => h9) rfl dX2_put_45 ?_
          refine lv_iload_n hx hb dX2_put_48 rfl (lv_at hl 0 rfl) ?_
          refine lv_aload_n hx hb dX2_put_49 rfl (lv_at hl 1 rfl) ?_
          refine va_get (D := X.1) (ci := 2) (v := .ref v) (C := RX2) (T := TX2) (N := 4) hx hb hts hin2 hown hK hP 0 rfl rfl 1 (by decide) lk15 (fun _ h9 => h9) rfl dX2_put_50 ?_
          refine lv_iload_n hx hb dX2_put_53 rfl (lv_at hl 0 rfl) ?_
          refine lv_iconst (v := nI 1) hx hb dX2_put_54 (by decide) ?_
          refine lv_iadd hx hb dX2_put_55 ?_
          refine lv_topi (fun x_8 ex_8 => ?_)
          obtain rfl : x_8 = nI ((rk L key) + 1) := by
            rw [ex_8]
            exact nI_add _ _
          refine lv_aload_n hx hb dX2_put_56 rfl (lv_at hl 1 rfl) ?_
          refine va_get (D := X.1) (ci := 2) (v := .int (nI L.length)) (C := RX2) (T := TX2) (N := 4) hx hb hts hin2 hown hK hP 0 rfl rfl 2 (by decide) lk18 (fun _ h9 => h9) rfl dX2_put_57 ?_
          refine lv_iload_n hx hb dX2_put_60 rfl (lv_at hl 0 rfl) ?_
          refine lv_isub hx hb dX2_put_61 ?_
          refine lv_topi (fun x_9 ex_9 => ?_)
          obtain rfl : x_9 = nI (L.length - (rk L key)) := by
            rw [ex_9]
            exact pk_sub (by omega)
          refine va_copyi hx hb (hml.trans hl.1.symm) hown (hts (.methodLink RX2 37 arraycopyName) (by decide +kernel)) (hts (.native arraycopyName) (by decide +kernel)) (hts (.static arraycopyName) (by decide +kernel)) (hts (.initialized "java/lang/System") (by decide +kernel)) hK hP hD hS 2 2 0 0 rfl rfl rfl rfl rfl (nI_pos (by omega)) (nI_pos (by omega)) (nI_pos (by omega)) (by rw [nI_clamp (by omega), nI_clamp (by omega)]; omega) (by rw [nI_clamp (by omega), nI_clamp (by omega)]; omega) (fun _ _ => rfl) (Nat.le_of_ble_eq_true rfl) (by decide) dX2_put_62 (fun H locs hP hD hS => ?_)
          rw [nI_clamp (n := rk L key) (by omega), nI_clamp (n := (rk L key) + 1) (by omega), nI_clamp (n := L.length - (rk L key)) (by omega)] at hP hD
          have hP : va_P X.1 vwCl [(p, .inr (2, [.ref k, .ref v, .int (nI L.length), .int (nI w)])), (k, .inl (X.2.1, 512, .inl (va_cpy kf kf (rk L key) ((rk L key) + 1) (L.length - (rk L key))))), (v, .inl (X.2.1, 512, .inl (va_cpy vf vf (rk L key) ((rk L key) + 1) (L.length - (rk L key)))))] H := hP
          have hD : va_D A_ [(p, .inr (2, [.ref k, .ref v, .int (nI L.length), .int (nI w)])), (k, .inl (X.2.1, 512, .inl (va_cpy kf kf (rk L key) ((rk L key) + 1) (L.length - (rk L key))))), (v, .inl (X.2.1, 512, .inl (va_cpy vf vf (rk L key) ((rk L key) + 1) (L.length - (rk L key)))))] := hD
          refine lv_aload_n hx hb dX2_put_65 rfl (lv_at hl 1 rfl) ?_
          refine va_get (D := X.1) (ci := 2) (v := .ref k) (C := RX2) (T := TX2) (N := 4) hx hb hts hin2 hown hK hP 0 rfl rfl 0 (by decide) lk9 (fun _ h9 => h9) rfl dX2_put_66 ?_
          refine lv_iload_n hx hb dX2_put_69 rfl (lv_at hl 0 rfl) ?_
          refine lv_iload_n hx hb dX2_put_70 rfl (lv_at hl 2 rfl) ?_
          have hi_10 : vp_in (nI (rk L key)) 512 := vp_in_nI (by omega) (by omega)
          refine va_iast hx hb hK hP hD hS 1 0 rfl rfl hi_10 dX2_put_71 (fun H locs hP hD hS => ?_)
          rw [nI_clamp (by omega)] at hP hD
          have hP : va_P X.1 vwCl [(p, .inr (2, [.ref k, .ref v, .int (nI L.length), .int (nI w)])), (k, .inl (X.2.1, 512, .inl (upd (va_cpy kf kf (rk L key) ((rk L key) + 1) (L.length - (rk L key))) (rk L key) (nI key)))), (v, .inl (X.2.1, 512, .inl (va_cpy vf vf (rk L key) ((rk L key) + 1) (L.length - (rk L key)))))] H := hP
          have hD : va_D A_ [(p, .inr (2, [.ref k, .ref v, .int (nI L.length), .int (nI w)])), (k, .inl (X.2.1, 512, .inl (upd (va_cpy kf kf (rk L key) ((rk L key) + 1) (L.length - (rk L key))) (rk L key) (nI key)))), (v, .inl (X.2.1, 512, .inl (va_cpy vf vf (rk L key) ((rk L key) + 1) (L.length - (rk L key)))))] := hD
          refine lv_aload_n hx hb dX2_put_72 rfl (lv_at hl 1 rfl) ?_
          refine lv_dup hx hb dX2_put_73 rfl ?_
          refine va_get (D := X.1) (ci := 2) (v := .int (nI L.length)) (C := RX2) (T := TX2) (N := 4) hx hb hts hin2 hown hK hP 0 rfl rfl 2 (by decide) lk18 (fun _ h9 => h9) rfl dX2_put_74 ?_
          refine lv_iconst (v := nI 1) hx hb dX2_put_77 (by decide) ?_
          refine lv_iadd hx hb dX2_put_78 ?_
          refine lv_topi (fun x_11 ex_11 => ?_)
          obtain rfl : x_11 = nI (L.length + 1) := by
            rw [ex_11]
            exact nI_add _ _
          refine va_put (D := X.1) (ci := 2) (v := .int (nI (L.length + 1))) (ty := .int) (C := RX2) (T := TX2) (N := 4) hx hb hts hin2 tyX2 tyX2_ok nmX2 hown hK hP hD hS 0 rfl rfl 2 (by decide) lk18 (fun _ h9 => h9) rfl (by decide +kernel) rfl rfl (Nat.le_of_ble_eq_true rfl) dX2_put_79 (fun H locs hP hD hS => ?_)
          have hP : va_P X.1 vwCl [(p, .inr (2, [.ref k, .ref v, .int (nI (L.length + 1)), .int (nI w)])), (k, .inl (X.2.1, 512, .inl (upd (va_cpy kf kf (rk L key) ((rk L key) + 1) (L.length - (rk L key))) (rk L key) (nI key)))), (v, .inl (X.2.1, 512, .inl (va_cpy vf vf (rk L key) ((rk L key) + 1) (L.length - (rk L key)))))] H := hP
          have hD : va_D A_ [(p, .inr (2, [.ref k, .ref v, .int (nI (L.length + 1)), .int (nI w)])), (k, .inl (X.2.1, 512, .inl (upd (va_cpy kf kf (rk L key) ((rk L key) + 1) (L.length - (rk L key))) (rk L key) (nI key)))), (v, .inl (X.2.1, 512, .inl (va_cpy vf vf (rk L key) ((rk L key) + 1) (L.length - (rk L key)))))] := hD
          refine lv_aload_n hx hb dX2_put_82 rfl (lv_at hl 1 rfl) ?_
          refine va_get (D := X.1) (ci := 2) (v := .ref v) (C := RX2) (T := TX2) (N := 4) hx hb hts hin2 hown hK hP 0 rfl rfl 1 (by decide) lk15 (fun _ h9 => h9) rfl dX2_put_83 ?_
          refine lv_iload_n hx hb dX2_put_86 rfl (lv_at hl 0 rfl) ?_
          refine lv_iload_n hx hb dX2_put_87 rfl (lv_at hl 3 rfl) ?_
          have hi_12 : vp_in (nI (rk L key)) 512 := vp_in_nI (by omega) (by omega)
          refine va_iast hx hb hK hP hD hS 2 0 rfl rfl hi_12 dX2_put_88 (fun H locs hP hD hS => ?_)
          rw [nI_clamp (by omega)] at hP hD
          have hP : va_P X.1 vwCl [(p, .inr (2, [.ref k, .ref v, .int (nI (L.length + 1)), .int (nI w)])), (k, .inl (X.2.1, 512, .inl (upd (va_cpy kf kf (rk L key) ((rk L key) + 1) (L.length - (rk L key))) (rk L key) (nI key)))), (v, .inl (X.2.1, 512, .inl (upd (va_cpy vf vf (rk L key) ((rk L key) + 1) (L.length - (rk L key))) (rk L key) (nI x))))] H := hP
          have hD : va_D A_ [(p, .inr (2, [.ref k, .ref v, .int (nI (L.length + 1)), .int (nI w)])), (k, .inl (X.2.1, 512, .inl (upd (va_cpy kf kf (rk L key) ((rk L key) + 1) (L.length - (rk L key))) (rk L key) (nI key)))), (v, .inl (X.2.1, 512, .inl (upd (va_cpy vf vf (rk L key) ((rk L key) + 1) (L.length - (rk L key))) (rk L key) (nI x))))] := hD
          refine lv_aload_n hx hb dX2_put_89 rfl (lv_at hl 1 rfl) ?_
          refine lv_dup hx hb dX2_put_90 rfl ?_
          refine va_get (D := X.1) (ci := 2) (v := .int (nI w)) (C := RX2) (T := TX2) (N := 4) hx hb hts hin2 hown hK hP 0 rfl rfl 3 (by decide) lk22 (fun _ h9 => h9) rfl dX2_put_91 ?_
          refine lv_iconst (v := nI 1) hx hb dX2_put_94 (by decide) ?_
          refine lv_iadd hx hb dX2_put_95 ?_
          refine lv_topi (fun x_13 ex_13 => ?_)
          obtain rfl : x_13 = nI (w + 1) := by
            rw [ex_13]
            exact nI_add _ _
          refine va_put (D := X.1) (ci := 2) (v := .int (nI (w + 1))) (ty := .int) (C := RX2) (T := TX2) (N := 4) hx hb hts hin2 tyX2 tyX2_ok nmX2 hown hK hP hD hS 0 rfl rfl 3 (by decide) lk22 (fun _ h9 => h9) rfl (by decide +kernel) rfl rfl (Nat.le_of_ble_eq_true rfl) dX2_put_96 (fun H locs hP hD hS => ?_)
          have hP : va_P X.1 vwCl [(p, .inr (2, [.ref k, .ref v, .int (nI (L.length + 1)), .int (nI (w + 1))])), (k, .inl (X.2.1, 512, .inl (upd (va_cpy kf kf (rk L key) ((rk L key) + 1) (L.length - (rk L key))) (rk L key) (nI key)))), (v, .inl (X.2.1, 512, .inl (upd (va_cpy vf vf (rk L key) ((rk L key) + 1) (L.length - (rk L key))) (rk L key) (nI x))))] H := hP
          have hD : va_D A_ [(p, .inr (2, [.ref k, .ref v, .int (nI (L.length + 1)), .int (nI (w + 1))])), (k, .inl (X.2.1, 512, .inl (upd (va_cpy kf kf (rk L key) ((rk L key) + 1) (L.length - (rk L key))) (rk L key) (nI key)))), (v, .inl (X.2.1, 512, .inl (upd (va_cpy vf vf (rk L key) ((rk L key) + 1) (L.length - (rk L key))) (rk L key) (nI x))))] := hD
          rw [← (hnew (fun z => by omega) (by omega)).2] at hP
          refine wM hQ ?_
          exact rtV (upd (va_cpy kf kf (rk L key) ((rk L key) + 1) (L.length - (rk L key))) (rk L key) (nI key), upd (va_cpy vf vf (rk L key) ((rk L key) + 1) (L.length - (rk L key))) (rk L key) (nI x)) hx hb hr hlocks hP hS ((hnew (fun z => by omega) (by omega)).1) dX2_put_99
        · exact absurd c_19 (by decide)
  · skip
    rw [if_neg hlt] at hc_8
    subst hc_8
    refine lv_iload_n hx hb dX2_put_11 rfl (lv_at hl 2 rfl) ?_
    refine lv_icmp_eq (tgt := 82) hx hb dX2_put_12 (by decide) (fun c_12 => ?_) (fun c_12 => ?_)
    · replace c_12 : 1073741824 = key := (nI_eq (by omega) (by omega)).mp c_12
      omega
    · replace c_12 : ¬ 1073741824 = key := fun h9 => c_12 ((nI_eq (by omega) (by omega)).mpr h9)
      refine lv_aload_n hx hb dX2_put_15 rfl (lv_at hl 1 rfl) ?_
      refine ckVRi (As := []) (rest := []) 0 [0] (c_X2_isFull l X p k v L.length w hL) ⟨hx, hb, hml, hown, hts⟩ (cwV 0 hts gX2_put_X2_isFull rfl rfl rfl (by decide +kernel) ⟨Nat.le_of_ble_eq_true rfl, Nat.le_of_ble_eq_true rfl⟩) hK hN hP hD (by decide) rfl (ci := 2) rfl rfl rfl hl.1 rfl (Nat.le_of_ble_eq_true rfl) dX2_put_16 ⟨Nat.zero_le _, Nat.zero_le _⟩ (fun r_14 hc_16 => ?_)
      rcases hc_16 with ⟨hc_16, rfl⟩ | ⟨hc_16, rfl⟩
      · skip
        have hlen : (pput L key x).length = L.length + 1 := by
          rw [pput_new L key x h.2.2.1 (fun z => by omega)]
          simp
          omega
        omega
      · skip
        refine lv_if_eq (tgt := 23) hx hb dX2_put_19 (by decide) (fun c_19 => ?_) (fun c_19 => ?_)
        · skip
          refine lv_aload_n hx hb dX2_put_23 rfl (lv_at hl 1 rfl) ?_
          refine va_get (D := X.1) (ci := 2) (v := .ref k) (C := RX2) (T := TX2) (N := 4) hx hb hts hin2 hown hK hP 0 rfl rfl 0 (by decide) lk9 (fun _ h9 => h9) rfl dX2_put_24 ?_
          refine lv_iload_n hx hb dX2_put_27 rfl (lv_at hl 0 rfl) ?_
          refine lv_aload_n hx hb dX2_put_28 rfl (lv_at hl 1 rfl) ?_
          refine va_get (D := X.1) (ci := 2) (v := .ref k) (C := RX2) (T := TX2) (N := 4) hx hb hts hin2 hown hK hP 0 rfl rfl 0 (by decide) lk9 (fun _ h9 => h9) rfl dX2_put_29 ?_
          refine lv_iload_n hx hb dX2_put_32 rfl (lv_at hl 0 rfl) ?_
          refine lv_iconst (v := nI 1) hx hb dX2_put_33 (by decide) ?_
          refine lv_iadd hx hb dX2_put_34 ?_
          refine lv_topi (fun x_15 ex_15 => ?_)
          obtain rfl : x_15 = nI ((rk L key) + 1) := by
            rw [ex_15]
            exact nI_add _ _
          refine lv_aload_n hx hb dX2_put_35 rfl (lv_at hl 1 rfl) ?_
          refine va_get (D := X.1) (ci := 2) (v := .int (nI L.length)) (C := RX2) (T := TX2) (N := 4) hx hb hts hin2 hown hK hP 0 rfl rfl 2 (by decide) lk18 (fun _ h9 => h9) rfl dX2_put_36 ?_
          refine lv_iload_n hx hb dX2_put_39 rfl (lv_at hl 0 rfl) ?_
          refine lv_isub hx hb dX2_put_40 ?_
          refine lv_topi (fun x_16 ex_16 => ?_)
          obtain rfl : x_16 = nI (L.length - (rk L key)) := by
            rw [ex_16]
            exact pk_sub (by omega)
          refine va_copyi hx hb (hml.trans hl.1.symm) hown (hts (.methodLink RX2 37 arraycopyName) (by decide +kernel)) (hts (.native arraycopyName) (by decide +kernel)) (hts (.static arraycopyName) (by decide +kernel)) (hts (.initialized "java/lang/System") (by decide +kernel)) hK hP hD hS 1 1 0 0 rfl rfl rfl rfl rfl (nI_pos (by omega)) (nI_pos (by omega)) (nI_pos (by omega)) (by rw [nI_clamp (by omega), nI_clamp (by omega)]; omega) (by rw [nI_clamp (by omega), nI_clamp (by omega)]; omega) (fun _ _ => rfl) (Nat.le_of_ble_eq_true rfl) (by decide) dX2_put_41 (fun H locs hP hD hS => ?_)
          rw [nI_clamp (n := rk L key) (by omega), nI_clamp (n := (rk L key) + 1) (by omega), nI_clamp (n := L.length - (rk L key)) (by omega)] at hP hD
          have hP : va_P X.1 vwCl [(p, .inr (2, [.ref k, .ref v, .int (nI L.length), .int (nI w)])), (k, .inl (X.2.1, 512, .inl (va_cpy kf kf (rk L key) ((rk L key) + 1) (L.length - (rk L key))))), (v, .inl (X.2.1, 512, .inl vf))] H := hP
          have hD : va_D A_ [(p, .inr (2, [.ref k, .ref v, .int (nI L.length), .int (nI w)])), (k, .inl (X.2.1, 512, .inl (va_cpy kf kf (rk L key) ((rk L key) + 1) (L.length - (rk L key))))), (v, .inl (X.2.1, 512, .inl vf))] := hD
          refine lv_aload_n hx hb dX2_put_44 rfl (lv_at hl 1 rfl) ?_
          refine va_get (D := X.1) (ci := 2) (v := .ref v) (C := RX2) (T := TX2) (N := 4) hx hb hts hin2 hown hK hP 0 rfl rfl 1 (by decide) lk15 (fun _ h9 => h9) rfl dX2_put_45 ?_
          refine lv_iload_n hx hb dX2_put_48 rfl (lv_at hl 0 rfl) ?_
          refine lv_aload_n hx hb dX2_put_49 rfl (lv_at hl 1 rfl) ?_
          refine va_get (D := X.1) (ci := 2) (v := .ref v) (C := RX2) (T := TX2) (N := 4) hx hb hts hin2 hown hK hP 0 rfl rfl 1 (by decide) lk15 (fun _ h9 => h9) rfl dX2_put_50 ?_
          refine lv_iload_n hx hb dX2_put_53 rfl (lv_at hl 0 rfl) ?_
          refine lv_iconst (v := nI 1) hx hb dX2_put_54 (by decide) ?_
          refine lv_iadd hx hb dX2_put_55 ?_
          refine lv_topi (fun x_17 ex_17 => ?_)
          obtain rfl : x_17 = nI ((rk L key) + 1) := by
            rw [ex_17]
            exact nI_add _ _
          refine lv_aload_n hx hb dX2_put_56 rfl (lv_at hl 1 rfl) ?_
          refine va_get (D := X.1) (ci := 2) (v := .int (nI L.length)) (C := RX2) (T := TX2) (N := 4) hx hb hts hin2 hown hK hP 0 rfl rfl 2 (by decide) lk18 (fun _ h9 => h9) rfl dX2_put_57 ?_
          refine lv_iload_n hx hb dX2_put_60 rfl (lv_at hl 0 rfl) ?_
          refine lv_isub hx hb dX2_put_61 ?_
          refine lv_topi (fun x_18 ex_18 => ?_)
          obtain rfl : x_18 = nI (L.length - (rk L key)) := by
            rw [ex_18]
            exact pk_sub (by omega)
          refine va_copyi hx hb (hml.trans hl.1.symm) hown (hts (.methodLink RX2 37 arraycopyName) (by decide +kernel)) (hts (.native arraycopyName) (by decide +kernel)) (hts (.static arraycopyName) (by decide +kernel)) (hts (.initialized "java/lang/System") (by decide +kernel)) hK hP hD hS 2 2 0 0 rfl rfl rfl rfl rfl (nI_pos (by omega)) (nI_pos (by omega)) (nI_pos (by omega)) (by rw [nI_clamp (by omega), nI_clamp (by omega)]; omega) (by rw [nI_clamp (by omega), nI_clamp (by omega)]; omega) (fun _ _ => rfl) (Nat.le_of_ble_eq_true rfl) (by decide) dX2_put_62 (fun H locs hP hD hS => ?_)
          rw [nI_clamp (n := rk L key) (by omega), nI_clamp (n := (rk L key) + 1) (by omega), nI_clamp (n := L.length - (rk L key)) (by omega)] at hP hD
          have hP : va_P X.1 vwCl [(p, .inr (2, [.ref k, .ref v, .int (nI L.length), .int (nI w)])), (k, .inl (X.2.1, 512, .inl (va_cpy kf kf (rk L key) ((rk L key) + 1) (L.length - (rk L key))))), (v, .inl (X.2.1, 512, .inl (va_cpy vf vf (rk L key) ((rk L key) + 1) (L.length - (rk L key)))))] H := hP
          have hD : va_D A_ [(p, .inr (2, [.ref k, .ref v, .int (nI L.length), .int (nI w)])), (k, .inl (X.2.1, 512, .inl (va_cpy kf kf (rk L key) ((rk L key) + 1) (L.length - (rk L key))))), (v, .inl (X.2.1, 512, .inl (va_cpy vf vf (rk L key) ((rk L key) + 1) (L.length - (rk L key)))))] := hD
          refine lv_aload_n hx hb dX2_put_65 rfl (lv_at hl 1 rfl) ?_
          refine va_get (D := X.1) (ci := 2) (v := .ref k) (C := RX2) (T := TX2) (N := 4) hx hb hts hin2 hown hK hP 0 rfl rfl 0 (by decide) lk9 (fun _ h9 => h9) rfl dX2_put_66 ?_
          refine lv_iload_n hx hb dX2_put_69 rfl (lv_at hl 0 rfl) ?_
          refine lv_iload_n hx hb dX2_put_70 rfl (lv_at hl 2 rfl) ?_
          have hi_19 : vp_in (nI (rk L key)) 512 := vp_in_nI (by omega) (by omega)
          refine va_iast hx hb hK hP hD hS 1 0 rfl rfl hi_19 dX2_put_71 (fun H locs hP hD hS => ?_)
          rw [nI_clamp (by omega)] at hP hD
          have hP : va_P X.1 vwCl [(p, .inr (2, [.ref k, .ref v, .int (nI L.length), .int (nI w)])), (k, .inl (X.2.1, 512, .inl (upd (va_cpy kf kf (rk L key) ((rk L key) + 1) (L.length - (rk L key))) (rk L key) (nI key)))), (v, .inl (X.2.1, 512, .inl (va_cpy vf vf (rk L key) ((rk L key) + 1) (L.length - (rk L key)))))] H := hP
          have hD : va_D A_ [(p, .inr (2, [.ref k, .ref v, .int (nI L.length), .int (nI w)])), (k, .inl (X.2.1, 512, .inl (upd (va_cpy kf kf (rk L key) ((rk L key) + 1) (L.length - (rk L key))) (rk L key) (nI key)))), (v, .inl (X.2.1, 512, .inl (va_cpy vf vf (rk L key) ((rk L key) + 1) (L.length - (rk L key)))))] := hD
          refine lv_aload_n hx hb dX2_put_72 rfl (lv_at hl 1 rfl) ?_
          refine lv_dup hx hb dX2_put_73 rfl ?_
          refine va_get (D := X.1) (ci := 2) (v := .int (nI L.length)) (C := RX2) (T := TX2) (N := 4) hx hb hts hin2 hown hK hP 0 rfl rfl 2 (by decide) lk18 (fun _ h9 => h9) rfl dX2_put_74 ?_
          refine lv_iconst (v := nI 1) hx hb dX2_put_77 (by decide) ?_
          refine lv_iadd hx hb dX2_put_78 ?_
          refine lv_topi (fun x_20 ex_20 => ?_)
          obtain rfl : x_20 = nI (L.length + 1) := by
            rw [ex_20]
            exact nI_add _ _
          refine va_put (D := X.1) (ci := 2) (v := .int (nI (L.length + 1))) (ty := .int) (C := RX2) (T := TX2) (N := 4) hx hb hts hin2 tyX2 tyX2_ok nmX2 hown hK hP hD hS 0 rfl rfl 2 (by decide) lk18 (fun _ h9 => h9) rfl (by decide +kernel) rfl rfl (Nat.le_of_ble_eq_true rfl) dX2_put_79 (fun H locs hP hD hS => ?_)
          have hP : va_P X.1 vwCl [(p, .inr (2, [.ref k, .ref v, .int (nI (L.length + 1)), .int (nI w)])), (k, .inl (X.2.1, 512, .inl (upd (va_cpy kf kf (rk L key) ((rk L key) + 1) (L.length - (rk L key))) (rk L key) (nI key)))), (v, .inl (X.2.1, 512, .inl (va_cpy vf vf (rk L key) ((rk L key) + 1) (L.length - (rk L key)))))] H := hP
          have hD : va_D A_ [(p, .inr (2, [.ref k, .ref v, .int (nI (L.length + 1)), .int (nI w)])), (k, .inl (X.2.1, 512, .inl (upd (va_cpy kf kf (rk L key) ((rk L key) + 1) (L.length - (rk L key))) (rk L key) (nI key)))), (v, .inl (X.2.1, 512, .inl (va_cpy vf vf (rk L key) ((rk L key) + 1) (L.length - (rk L key)))))] := hD
          refine lv_aload_n hx hb dX2_put_82 rfl (lv_at hl 1 rfl) ?_
          refine va_get (D := X.1) (ci := 2) (v := .ref v) (C := RX2) (T := TX2) (N := 4) hx hb hts hin2 hown hK hP 0 rfl rfl 1 (by decide) lk15 (fun _ h9 => h9) rfl dX2_put_83 ?_
          refine lv_iload_n hx hb dX2_put_86 rfl (lv_at hl 0 rfl) ?_
          refine lv_iload_n hx hb dX2_put_87 rfl (lv_at hl 3 rfl) ?_
          have hi_21 : vp_in (nI (rk L key)) 512 := vp_in_nI (by omega) (by omega)
          refine va_iast hx hb hK hP hD hS 2 0 rfl rfl hi_21 dX2_put_88 (fun H locs hP hD hS => ?_)
          rw [nI_clamp (by omega)] at hP hD
          have hP : va_P X.1 vwCl [(p, .inr (2, [.ref k, .ref v, .int (nI (L.length + 1)), .int (nI w)])), (k, .inl (X.2.1, 512, .inl (upd (va_cpy kf kf (rk L key) ((rk L key) + 1) (L.length - (rk L key))) (rk L key) (nI key)))), (v, .inl (X.2.1, 512, .inl (upd (va_cpy vf vf (rk L key) ((rk L key) + 1) (L.length - (rk L key))) (rk L key) (nI x))))] H := hP
          have hD : va_D A_ [(p, .inr (2, [.ref k, .ref v, .int (nI (L.length + 1)), .int (nI w)])), (k, .inl (X.2.1, 512, .inl (upd (va_cpy kf kf (rk L key) ((rk L key) + 1) (L.length - (rk L key))) (rk L key) (nI key)))), (v, .inl (X.2.1, 512, .inl (upd (va_cpy vf vf (rk L key) ((rk L key) + 1) (L.length - (rk L key))) (rk L key) (nI x))))] := hD
          refine lv_aload_n hx hb dX2_put_89 rfl (lv_at hl 1 rfl) ?_
          refine lv_dup hx hb dX2_put_90 rfl ?_
          refine va_get (D := X.1) (ci := 2) (v := .int (nI w)) (C := RX2) (T := TX2) (N := 4) hx hb hts hin2 hown hK hP 0 rfl rfl 3 (by decide) lk22 (fun _ h9 => h9) rfl dX2_put_91 ?_
          refine lv_iconst (v := nI 1) hx hb dX2_put_94 (by decide) ?_
          refine lv_iadd hx hb dX2_put_95 ?_
          refine lv_topi (fun x_22 ex_22 => ?_)
          obtain rfl : x_22 = nI (w + 1) := by
            rw [ex_22]
            exact nI_add _ _
          refine va_put (D := X.1) (ci := 2) (v := .int (nI (w + 1))) (ty := .int) (C := RX2) (T := TX2) (N := 4) hx hb hts hin2 tyX2 tyX2_ok nmX2 hown hK hP hD hS 0 rfl rfl 3 (by decide) lk22 (fun _ h9 => h9) rfl (by decide +kernel) rfl rfl (Nat.le_of_ble_eq_true rfl) dX2_put_96 (fun H locs hP hD hS => ?_)
          have hP : va_P X.1 vwCl [(p, .inr (2, [.ref k, .ref v, .int (nI (L.length + 1)), .int (nI (w + 1))])), (k, .inl (X.2.1, 512, .inl (upd (va_cpy kf kf (rk L key) ((rk L key) + 1) (L.length - (rk L key))) (rk L key) (nI key)))), (v, .inl (X.2.1, 512, .inl (upd (va_cpy vf vf (rk L key) ((rk L key) + 1) (L.length - (rk L key))) (rk L key) (nI x))))] H := hP
          have hD : va_D A_ [(p, .inr (2, [.ref k, .ref v, .int (nI (L.length + 1)), .int (nI (w + 1))])), (k, .inl (X.2.1, 512, .inl (upd (va_cpy kf kf (rk L key) ((rk L key) + 1) (L.length - (rk L key))) (rk L key) (nI key)))), (v, .inl (X.2.1, 512, .inl (upd (va_cpy vf vf (rk L key) ((rk L key) + 1) (L.length - (rk L key))) (rk L key) (nI x))))] := hD
          rw [← (hnew (fun z => by omega) (by omega)).2] at hP
          refine wM hQ ?_
          exact rtV (upd (va_cpy kf kf (rk L key) ((rk L key) + 1) (L.length - (rk L key))) (rk L key) (nI key), upd (va_cpy vf vf (rk L key) ((rk L key) + 1) (L.length - (rk L key))) (rk L key) (nI x)) hx hb hr hlocks hP hS ((hnew (fun z => by omega) (by omega)).1) dX2_put_99
        · exact absurd c_19 (by decide)
set_option maxHeartbeats 4000000 in
set_option maxRecDepth 100000 in
theorem c_X2_takeOut (l : Launch) (X : kX) (p k v w key : Nat) (kf vf : Nat → Int32) (L : PL) (h : ptOk kf vf L) (hk : key < 2 ^ 30) : CWv l X yX2_takeOut wsX2_takeOut 1 [.ref p, .int (nI key)] [(p, .inr (2, [.ref k, .ref v, .int (nI L.length), .int (nI w)])), (k, .inl (X.2.1, 512, .inl kf)), (v, .inl (X.2.1, 512, .inl vf))] (S := (Nat → Int32) × (Nat → Int32)) (fun u => ptOk u.1 u.2 (pdel L key)) (fun ⟨kf2, vf2⟩ => [(p, .inr (2, [.ref k, .ref v, .int (nI ((pdel L key).length)), .int (nI (tv L key w))])), (k, .inl (X.2.1, 512, .inl kf2)), (v, .inl (X.2.1, 512, .inl vf2))]) := by
  refine Met.ofW (cc := cX2_takeOut) (maxL := 3) (ret := none) (by decide) rfl ?_
  intro pz ez sz mz args below meth cz s₁ Bz hml hv
  obtain ⟨rfl, hP, hK, hD0, hN⟩ := hv
  have hx := Bz.exec
  have hb := Bz.bytes
  have hr := Bz.returns
  have hts := atoms_spec (ws := wsX2_takeOut) Bz.pre
  have hown : sz.vm.findClass RX2 = some mz.cls := findClass_of_methodNamed Bz.named
  have hlocks := Bz.notSynchronized
  have hD := inW.self hD0
  have hS : va_S (inW [(p, .inr (2, [.ref k, .ref v, .int (nI L.length), .int (nI w)])), (k, .inl (X.2.1, 512, .inl kf)), (v, .inl (X.2.1, 512, .inl vf))]) sz.heap sz.heap [] := va_S.rf
  have hl := lv_entry ([.ref p, .int (nI key)]) (n := 3) (Nat.le_of_ble_eq_true rfl)
  rw [lg_entry_eq]
  generalize (lg_sl ([.ref p, .int (nI key)]) ++ List.replicate (3 - (lg_sl ([.ref p, .int (nI key)])).length) Slot.unset).toArray = ls at hl ⊢
  have hl : lv_has ls 3 [(0, .ref p), (1, .int (nI key))] := hl
  have lk9 := hts (.fieldLink RX2 9 "PointStore$Points" "keys" "[I") (by decide +kernel)
  have lk15 := hts (.fieldLink RX2 15 "PointStore$Points" "values" "[I") (by decide +kernel)
  have lk18 := hts (.fieldLink RX2 18 "PointStore$Points" "total" "I") (by decide +kernel)
  have lk22 := hts (.fieldLink RX2 22 "PointStore$Points" "version" "I") (by decide +kernel)
  have hin2 : ∀ w ∈ u_ws RX2 TX2 4, w ∈ wsX2_takeOut := by decide +kernel
  refine wQ (fun Q hQ => ?_)
  generalize hAe : inW [(p, .inr (2, [.ref k, .ref v, .int (nI L.length), .int (nI w)])), (k, .inl (X.2.1, 512, .inl kf)), (v, .inl (X.2.1, 512, .inl vf))] = A_ at hD hS hQ
  have hL := h.1
  have hrl := rk_le L key
  have hlk := lkp_rk L key h.2.2.1
  have hdel := fun hn hkk => pt_del h (key := key) hn hkk
  refine lv_aload_n hx hb dX2_takeOut_0 rfl (lv_at hl 0 rfl) ?_
  refine lv_iload_n hx hb dX2_takeOut_1 rfl (lv_at hl 1 rfl) ?_
  refine ckVRi (As := [.int (nI key)]) (rest := []) 0 [0, 1] (c_X2_placeOf l X p k v w key kf vf L h (by omega)) ⟨hx, hb, hml, hown, hts⟩ (cwV 1 hts gX2_takeOut_X2_placeOf rfl rfl rfl (by decide +kernel) ⟨Nat.le_of_ble_eq_true rfl, Nat.le_of_ble_eq_true rfl⟩) hK hN hP hD (by decide) rfl (ci := 2) rfl rfl rfl hl.1 rfl (Nat.le_of_ble_eq_true rfl) dX2_takeOut_2 ⟨Nat.zero_le _, Nat.zero_le _⟩ (fun r_1 hc_2 => ?_)
  subst hc_2
  refine lv_istore_n (lv' := [(2, .int (nI (rk L key))), (0, .ref p), (1, .int (nI key))]) hx hb dX2_takeOut_5 rfl hl (by decide) rfl (fun ls hl => ?_)
  refine lv_aload_n hx hb dX2_takeOut_6 rfl (lv_at hl 1 rfl) ?_
  refine lv_iload_n hx hb dX2_takeOut_7 rfl (lv_at hl 0 rfl) ?_
  refine ckVRi (As := [.int (nI (rk L key))]) (rest := []) 0 [0, 1] (c_X2_keyAt l X p k v L.length w (rk L key) kf hL (by omega)) ⟨hx, hb, hml, hown, hts⟩ (cwV 1 hts gX2_takeOut_X2_keyAt rfl rfl rfl (by decide +kernel) ⟨Nat.le_of_ble_eq_true rfl, Nat.le_of_ble_eq_true rfl⟩) hK hN hP hD (by decide) rfl (ci := 2) rfl rfl rfl hl.1 rfl (Nat.le_of_ble_eq_true rfl) dX2_takeOut_8 ⟨Nat.zero_le _, Nat.zero_le _⟩ (fun r_2 hc_8 => ?_)
  by_cases hlt : rk L key < L.length
  · skip
    rw [if_pos hlt, h.k hlt] at hc_8
    subst hc_8
    have hkb := h.kb hlt
    refine lv_iload_n hx hb dX2_takeOut_11 rfl (lv_at hl 2 rfl) ?_
    refine lv_icmp_eq (tgt := 16) hx hb dX2_takeOut_12 (by decide) (fun c_12 => ?_) (fun c_12 => ?_)
    · replace c_12 : (pK L (rk L key)) = key := (nI_eq (by omega) (by omega)).mp c_12
      refine lv_aload_n hx hb dX2_takeOut_16 rfl (lv_at hl 1 rfl) ?_
      refine va_get (D := X.1) (ci := 2) (v := .ref k) (C := RX2) (T := TX2) (N := 4) hx hb hts hin2 hown hK hP 0 rfl rfl 0 (by decide) lk9 (fun _ h9 => h9) rfl dX2_takeOut_17 ?_
      refine lv_iload_n hx hb dX2_takeOut_20 rfl (lv_at hl 0 rfl) ?_
      refine lv_iconst (v := nI 1) hx hb dX2_takeOut_21 (by decide) ?_
      refine lv_iadd hx hb dX2_takeOut_22 ?_
      refine lv_topi (fun x_3 ex_3 => ?_)
      obtain rfl : x_3 = nI ((rk L key) + 1) := by
        rw [ex_3]
        exact nI_add _ _
      refine lv_aload_n hx hb dX2_takeOut_23 rfl (lv_at hl 1 rfl) ?_
      refine va_get (D := X.1) (ci := 2) (v := .ref k) (C := RX2) (T := TX2) (N := 4) hx hb hts hin2 hown hK hP 0 rfl rfl 0 (by decide) lk9 (fun _ h9 => h9) rfl dX2_takeOut_24 ?_
      refine lv_iload_n hx hb dX2_takeOut_27 rfl (lv_at hl 0 rfl) ?_
      refine lv_aload_n hx hb dX2_takeOut_28 rfl (lv_at hl 1 rfl) ?_
      refine va_get (D := X.1) (ci := 2) (v := .int (nI L.length)) (C := RX2) (T := TX2) (N := 4) hx hb hts hin2 hown hK hP 0 rfl rfl 2 (by decide) lk18 (fun _ h9 => h9) rfl dX2_takeOut_29 ?_
      refine lv_iload_n hx hb dX2_takeOut_32 rfl (lv_at hl 0 rfl) ?_
      refine lv_isub hx hb dX2_takeOut_33 ?_
      refine lv_topi (fun x_4 ex_4 => ?_)
      obtain rfl : x_4 = nI (L.length - (rk L key)) := by
        rw [ex_4]
        exact pk_sub (by omega)
      refine lv_iconst (v := nI 1) hx hb dX2_takeOut_34 (by decide) ?_
      refine lv_isub hx hb dX2_takeOut_35 ?_
      refine lv_topi (fun x_5 ex_5 => ?_)
      obtain rfl : x_5 = nI ((L.length - (rk L key)) - 1) := by
        rw [ex_5]
        exact pk_sub (by omega)
      refine va_copyi hx hb (hml.trans hl.1.symm) hown (hts (.methodLink RX2 37 arraycopyName) (by decide +kernel)) (hts (.native arraycopyName) (by decide +kernel)) (hts (.static arraycopyName) (by decide +kernel)) (hts (.initialized "java/lang/System") (by decide +kernel)) hK hP hD hS 1 1 0 0 rfl rfl rfl rfl rfl (nI_pos (by omega)) (nI_pos (by omega)) (nI_pos (by omega)) (by rw [nI_clamp (by omega), nI_clamp (by omega)]; omega) (by rw [nI_clamp (by omega), nI_clamp (by omega)]; omega) (fun _ _ => rfl) (Nat.le_of_ble_eq_true rfl) (by decide) dX2_takeOut_36 (fun H locs hP hD hS => ?_)
      rw [nI_clamp (n := (rk L key) + 1) (by omega), nI_clamp (n := rk L key) (by omega), nI_clamp (n := (L.length - (rk L key)) - 1) (by omega)] at hP hD
      have hP : va_P X.1 vwCl [(p, .inr (2, [.ref k, .ref v, .int (nI L.length), .int (nI w)])), (k, .inl (X.2.1, 512, .inl (va_cpy kf kf ((rk L key) + 1) (rk L key) ((L.length - (rk L key)) - 1)))), (v, .inl (X.2.1, 512, .inl vf))] H := hP
      have hD : va_D A_ [(p, .inr (2, [.ref k, .ref v, .int (nI L.length), .int (nI w)])), (k, .inl (X.2.1, 512, .inl (va_cpy kf kf ((rk L key) + 1) (rk L key) ((L.length - (rk L key)) - 1)))), (v, .inl (X.2.1, 512, .inl vf))] := hD
      refine lv_aload_n hx hb dX2_takeOut_39 rfl (lv_at hl 1 rfl) ?_
      refine va_get (D := X.1) (ci := 2) (v := .ref v) (C := RX2) (T := TX2) (N := 4) hx hb hts hin2 hown hK hP 0 rfl rfl 1 (by decide) lk15 (fun _ h9 => h9) rfl dX2_takeOut_40 ?_
      refine lv_iload_n hx hb dX2_takeOut_43 rfl (lv_at hl 0 rfl) ?_
      refine lv_iconst (v := nI 1) hx hb dX2_takeOut_44 (by decide) ?_
      refine lv_iadd hx hb dX2_takeOut_45 ?_
      refine lv_topi (fun x_6 ex_6 => ?_)
      obtain rfl : x_6 = nI ((rk L key) + 1) := by
        rw [ex_6]
        exact nI_add _ _
      refine lv_aload_n hx hb dX2_takeOut_46 rfl (lv_at hl 1 rfl) ?_
      refine va_get (D := X.1) (ci := 2) (v := .ref v) (C := RX2) (T := TX2) (N := 4) hx hb hts hin2 hown hK hP 0 rfl rfl 1 (by decide) lk15 (fun _ h9 => h9) rfl dX2_takeOut_47 ?_
      refine lv_iload_n hx hb dX2_takeOut_50 rfl (lv_at hl 0 rfl) ?_
      refine lv_aload_n hx hb dX2_takeOut_51 rfl (lv_at hl 1 rfl) ?_
      refine va_get (D := X.1) (ci := 2) (v := .int (nI L.length)) (C := RX2) (T := TX2) (N := 4) hx hb hts hin2 hown hK hP 0 rfl rfl 2 (by decide) lk18 (fun _ h9 => h9) rfl dX2_takeOut_52 ?_
      refine lv_iload_n hx hb dX2_takeOut_55 rfl (lv_at hl 0 rfl) ?_
      refine lv_isub hx hb dX2_takeOut_56 ?_
      refine lv_topi (fun x_7 ex_7 => ?_)
      obtain rfl : x_7 = nI (L.length - (rk L key)) := by
        rw [ex_7]
        exact pk_sub (by omega)
      refine lv_iconst (v := nI 1) hx hb dX2_takeOut_57 (by decide) ?_
      refine lv_isub hx hb dX2_takeOut_58 ?_
      refine lv_topi (fun x_8 ex_8 => ?_)
      obtain rfl : x_8 = nI ((L.length - (rk L key)) - 1) := by
        rw [ex_8]
        exact pk_sub (by omega)
      refine va_copyi hx hb (hml.trans hl.1.symm) hown (hts (.methodLink RX2 37 arraycopyName) (by decide +kernel)) (hts (.native arraycopyName) (by decide +kernel)) (hts (.static arraycopyName) (by decide +kernel)) (hts (.initialized "java/lang/System") (by decide +kernel)) hK hP hD hS 2 2 0 0 rfl rfl rfl rfl rfl (nI_pos (by omega)) (nI_pos (by omega)) (nI_pos (by omega)) (by rw [nI_clamp (by omega), nI_clamp (by omega)]; omega) (by rw [nI_clamp (by omega), nI_clamp (by omega)]; omega) (fun _ _ => rfl) (Nat.le_of_ble_eq_true rfl) (by decide) dX2_takeOut_59 (fun H locs hP hD hS => ?_)
      rw [nI_clamp (n := (rk L key) + 1) (by omega), nI_clamp (n := rk L key) (by omega), nI_clamp (n := (L.length - (rk L key)) - 1) (by omega)] at hP hD
      have hP : va_P X.1 vwCl [(p, .inr (2, [.ref k, .ref v, .int (nI L.length), .int (nI w)])), (k, .inl (X.2.1, 512, .inl (va_cpy kf kf ((rk L key) + 1) (rk L key) ((L.length - (rk L key)) - 1)))), (v, .inl (X.2.1, 512, .inl (va_cpy vf vf ((rk L key) + 1) (rk L key) ((L.length - (rk L key)) - 1))))] H := hP
      have hD : va_D A_ [(p, .inr (2, [.ref k, .ref v, .int (nI L.length), .int (nI w)])), (k, .inl (X.2.1, 512, .inl (va_cpy kf kf ((rk L key) + 1) (rk L key) ((L.length - (rk L key)) - 1)))), (v, .inl (X.2.1, 512, .inl (va_cpy vf vf ((rk L key) + 1) (rk L key) ((L.length - (rk L key)) - 1))))] := hD
      refine lv_aload_n hx hb dX2_takeOut_62 rfl (lv_at hl 1 rfl) ?_
      refine lv_dup hx hb dX2_takeOut_63 rfl ?_
      refine va_get (D := X.1) (ci := 2) (v := .int (nI L.length)) (C := RX2) (T := TX2) (N := 4) hx hb hts hin2 hown hK hP 0 rfl rfl 2 (by decide) lk18 (fun _ h9 => h9) rfl dX2_takeOut_64 ?_
      refine lv_iconst (v := nI 1) hx hb dX2_takeOut_67 (by decide) ?_
      refine lv_isub hx hb dX2_takeOut_68 ?_
      refine lv_topi (fun x_9 ex_9 => ?_)
      obtain rfl : x_9 = nI (L.length - 1) := by
        rw [ex_9]
        exact pk_sub (by omega)
      refine va_put (D := X.1) (ci := 2) (v := .int (nI (L.length - 1))) (ty := .int) (C := RX2) (T := TX2) (N := 4) hx hb hts hin2 tyX2 tyX2_ok nmX2 hown hK hP hD hS 0 rfl rfl 2 (by decide) lk18 (fun _ h9 => h9) rfl (by decide +kernel) rfl rfl (Nat.le_of_ble_eq_true rfl) dX2_takeOut_69 (fun H locs hP hD hS => ?_)
      have hP : va_P X.1 vwCl [(p, .inr (2, [.ref k, .ref v, .int (nI (L.length - 1)), .int (nI w)])), (k, .inl (X.2.1, 512, .inl (va_cpy kf kf ((rk L key) + 1) (rk L key) ((L.length - (rk L key)) - 1)))), (v, .inl (X.2.1, 512, .inl (va_cpy vf vf ((rk L key) + 1) (rk L key) ((L.length - (rk L key)) - 1))))] H := hP
      have hD : va_D A_ [(p, .inr (2, [.ref k, .ref v, .int (nI (L.length - 1)), .int (nI w)])), (k, .inl (X.2.1, 512, .inl (va_cpy kf kf ((rk L key) + 1) (rk L key) ((L.length - (rk L key)) - 1)))), (v, .inl (X.2.1, 512, .inl (va_cpy vf vf ((rk L key) + 1) (rk L key) ((L.length - (rk L key)) - 1))))] := hD
      refine lv_aload_n hx hb dX2_takeOut_72 rfl (lv_at hl 1 rfl) ?_
      refine lv_dup hx hb dX2_takeOut_73 rfl ?_
      refine va_get (D := X.1) (ci := 2) (v := .int (nI w)) (C := RX2) (T := TX2) (N := 4) hx hb hts hin2 hown hK hP 0 rfl rfl 3 (by decide) lk22 (fun _ h9 => h9) rfl dX2_takeOut_74 ?_
      refine lv_iconst (v := nI 1) hx hb dX2_takeOut_77 (by decide) ?_
      refine lv_iadd hx hb dX2_takeOut_78 ?_
      refine lv_topi (fun x_10 ex_10 => ?_)
      obtain rfl : x_10 = nI (w + 1) := by
        rw [ex_10]
        exact nI_add _ _
      refine va_put (D := X.1) (ci := 2) (v := .int (nI (w + 1))) (ty := .int) (C := RX2) (T := TX2) (N := 4) hx hb hts hin2 tyX2 tyX2_ok nmX2 hown hK hP hD hS 0 rfl rfl 3 (by decide) lk22 (fun _ h9 => h9) rfl (by decide +kernel) rfl rfl (Nat.le_of_ble_eq_true rfl) dX2_takeOut_79 (fun H locs hP hD hS => ?_)
      have hP : va_P X.1 vwCl [(p, .inr (2, [.ref k, .ref v, .int (nI (L.length - 1)), .int (nI (w + 1))])), (k, .inl (X.2.1, 512, .inl (va_cpy kf kf ((rk L key) + 1) (rk L key) ((L.length - (rk L key)) - 1)))), (v, .inl (X.2.1, 512, .inl (va_cpy vf vf ((rk L key) + 1) (rk L key) ((L.length - (rk L key)) - 1))))] H := hP
      have hD : va_D A_ [(p, .inr (2, [.ref k, .ref v, .int (nI (L.length - 1)), .int (nI (w + 1))])), (k, .inl (X.2.1, 512, .inl (va_cpy kf kf ((rk L key) + 1) (rk L key) ((L.length - (rk L key)) - 1)))), (v, .inl (X.2.1, 512, .inl (va_cpy vf vf ((rk L key) + 1) (rk L key) ((L.length - (rk L key)) - 1))))] := hD
      rw [← (hdel hlt c_12).2, show w + 1 = tv L key w from by unfold tv; rw [hlk, if_pos ⟨hlt, c_12⟩]] at hP
      refine wM hQ ?_
      exact rtV (va_cpy kf kf ((rk L key) + 1) (rk L key) ((L.length - (rk L key)) - 1), va_cpy vf vf ((rk L key) + 1) (rk L key) ((L.length - (rk L key)) - 1)) hx hb hr hlocks hP hS ((hdel hlt c_12).1) dX2_takeOut_82
    · replace c_12 : ¬ (pK L (rk L key)) = key := fun h9 => c_12 ((nI_eq (by omega) (by omega)).mpr h9)
      rw [show nI w = nI (tv L key w) from by unfold tv; rw [hlk, if_neg (fun z => by omega)], show L.length = (pdel L key).length from by rw [pdel_new L key h.2.2.1 (fun z => by omega)]] at hP
      refine wM hQ ?_
      exact rtV (kf, vf) hx hb hr hlocks hP hS ((by show ptOk kf vf _; rw [pdel_new L key h.2.2.1 (fun z => by omega)]; exact h)) dX2_takeOut_15
  · skip
    rw [if_neg hlt] at hc_8
    subst hc_8
    refine lv_iload_n hx hb dX2_takeOut_11 rfl (lv_at hl 2 rfl) ?_
    refine lv_icmp_eq (tgt := 16) hx hb dX2_takeOut_12 (by decide) (fun c_12 => ?_) (fun c_12 => ?_)
    · replace c_12 : 1073741824 = key := (nI_eq (by omega) (by omega)).mp c_12
      omega
    · replace c_12 : ¬ 1073741824 = key := fun h9 => c_12 ((nI_eq (by omega) (by omega)).mpr h9)
      rw [show nI w = nI (tv L key w) from by unfold tv; rw [hlk, if_neg (fun z => by omega)], show L.length = (pdel L key).length from by rw [pdel_new L key h.2.2.1 (fun z => by omega)]] at hP
      refine wM hQ ?_
      exact rtV (kf, vf) hx hb hr hlocks hP hS ((by show ptOk kf vf _; rw [pdel_new L key h.2.2.1 (fun z => by omega)]; exact h)) dX2_takeOut_15
set_option maxHeartbeats 4000000 in
set_option maxRecDepth 100000 in
theorem c_X2_clear (l : Launch) (X : kX) (p k v n w : Nat) : CWv l X yX2_clear wsX2_clear 0 [.ref p] [(p, .inr (2, [.ref k, .ref v, .int (nI n), .int (nI w)]))] (S := Unit) (fun _ => True) (fun _ => [(p, .inr (2, [.ref k, .ref v, .int (nI 0), .int (nI (w + 1))]))]) := by
  refine Met.ofW (cc := cX2_clear) (maxL := 1) (ret := none) (by decide) rfl ?_
  intro pz ez sz mz args below meth cz s₁ Bz hml hv
  obtain ⟨rfl, hP, hK, hD0, hN⟩ := hv
  have hx := Bz.exec
  have hb := Bz.bytes
  have hr := Bz.returns
  have hts := atoms_spec (ws := wsX2_clear) Bz.pre
  have hown : sz.vm.findClass RX2 = some mz.cls := findClass_of_methodNamed Bz.named
  have hlocks := Bz.notSynchronized
  have hD := inW.self hD0
  have hS : va_S (inW [(p, .inr (2, [.ref k, .ref v, .int (nI n), .int (nI w)]))]) sz.heap sz.heap [] := va_S.rf
  have hl := lv_entry ([.ref p]) (n := 1) (Nat.le_of_ble_eq_true rfl)
  rw [lg_entry_eq]
  generalize (lg_sl ([.ref p]) ++ List.replicate (1 - (lg_sl ([.ref p])).length) Slot.unset).toArray = ls at hl ⊢
  have hl : lv_has ls 1 [(0, .ref p)] := hl
  have lk18 := hts (.fieldLink RX2 18 "PointStore$Points" "total" "I") (by decide +kernel)
  have lk22 := hts (.fieldLink RX2 22 "PointStore$Points" "version" "I") (by decide +kernel)
  have hin2 : ∀ w ∈ u_ws RX2 TX2 4, w ∈ wsX2_clear := by decide +kernel
  refine wQ (fun Q hQ => ?_)
  generalize hAe : inW [(p, .inr (2, [.ref k, .ref v, .int (nI n), .int (nI w)]))] = A_ at hD hS hQ
  refine lv_aload_n hx hb dX2_clear_0 rfl (lv_at hl 0 rfl) ?_
  refine lv_iconst (v := nI 0) hx hb dX2_clear_1 (by decide) ?_
  refine va_put (D := X.1) (ci := 2) (v := .int (nI 0)) (ty := .int) (C := RX2) (T := TX2) (N := 4) hx hb hts hin2 tyX2 tyX2_ok nmX2 hown hK hP hD hS 0 rfl rfl 2 (by decide) lk18 (fun _ h9 => h9) rfl (by decide +kernel) rfl rfl (Nat.le_of_ble_eq_true rfl) dX2_clear_2 (fun H locs hP hD hS => ?_)
  have hP : va_P X.1 vwCl [(p, .inr (2, [.ref k, .ref v, .int (nI 0), .int (nI w)]))] H := hP
  have hD : va_D A_ [(p, .inr (2, [.ref k, .ref v, .int (nI 0), .int (nI w)]))] := hD
  refine lv_aload_n hx hb dX2_clear_5 rfl (lv_at hl 0 rfl) ?_
  refine lv_dup hx hb dX2_clear_6 rfl ?_
  refine va_get (D := X.1) (ci := 2) (v := .int (nI w)) (C := RX2) (T := TX2) (N := 4) hx hb hts hin2 hown hK hP 0 rfl rfl 3 (by decide) lk22 (fun _ h9 => h9) rfl dX2_clear_7 ?_
  refine lv_iconst (v := nI 1) hx hb dX2_clear_10 (by decide) ?_
  refine lv_iadd hx hb dX2_clear_11 ?_
  refine lv_topi (fun x_1 ex_1 => ?_)
  obtain rfl : x_1 = nI (w + 1) := by
    rw [ex_1]
    exact nI_add _ _
  refine va_put (D := X.1) (ci := 2) (v := .int (nI (w + 1))) (ty := .int) (C := RX2) (T := TX2) (N := 4) hx hb hts hin2 tyX2 tyX2_ok nmX2 hown hK hP hD hS 0 rfl rfl 3 (by decide) lk22 (fun _ h9 => h9) rfl (by decide +kernel) rfl rfl (Nat.le_of_ble_eq_true rfl) dX2_clear_12 (fun H locs hP hD hS => ?_)
  have hP : va_P X.1 vwCl [(p, .inr (2, [.ref k, .ref v, .int (nI 0), .int (nI (w + 1))]))] H := hP
  have hD : va_D A_ [(p, .inr (2, [.ref k, .ref v, .int (nI 0), .int (nI (w + 1))]))] := hD
  refine wM hQ ?_
  exact rtV () hx hb hr hlocks hP hS (trivial) dX2_clear_15
set_option maxHeartbeats 4000000 in
set_option maxRecDepth 100000 in
theorem c_X2_copyFrom (l : Launch) (X : kX) (p k v n w q k2 v2 w2 : Nat) (kf vf kg vg : Nat → Int32) (L : PL) (h : ptOk kg vg L) : CWv l X yX2_copyFrom wsX2_copyFrom 0 [.ref p, .ref q] [(p, .inr (2, [.ref k, .ref v, .int (nI n), .int (nI w)])), (k, .inl (X.2.1, 512, .inl kf)), (v, .inl (X.2.1, 512, .inl vf)), (q, .inr (2, [.ref k2, .ref v2, .int (nI L.length), .int (nI w2)])), (k2, .inl (X.2.1, 512, .inl kg)), (v2, .inl (X.2.1, 512, .inl vg))] (S := (Nat → Int32) × (Nat → Int32)) (fun u => ptOk u.1 u.2 L) (fun ⟨kf2, vf2⟩ => [(p, .inr (2, [.ref k, .ref v, .int (nI L.length), .int (nI (w + 1))])), (k, .inl (X.2.1, 512, .inl kf2)), (v, .inl (X.2.1, 512, .inl vf2)), (q, .inr (2, [.ref k2, .ref v2, .int (nI L.length), .int (nI w2)])), (k2, .inl (X.2.1, 512, .inl kg)), (v2, .inl (X.2.1, 512, .inl vg))]) := by
  refine Met.ofW (cc := cX2_copyFrom) (maxL := 2) (ret := none) (by decide) rfl ?_
  intro pz ez sz mz args below meth cz s₁ Bz hml hv
  obtain ⟨rfl, hP, hK, hD0, hN⟩ := hv
  have hx := Bz.exec
  have hb := Bz.bytes
  have hr := Bz.returns
  have hts := atoms_spec (ws := wsX2_copyFrom) Bz.pre
  have hown : sz.vm.findClass RX2 = some mz.cls := findClass_of_methodNamed Bz.named
  have hlocks := Bz.notSynchronized
  have hD := inW.self hD0
  have hS : va_S (inW [(p, .inr (2, [.ref k, .ref v, .int (nI n), .int (nI w)])), (k, .inl (X.2.1, 512, .inl kf)), (v, .inl (X.2.1, 512, .inl vf)), (q, .inr (2, [.ref k2, .ref v2, .int (nI L.length), .int (nI w2)])), (k2, .inl (X.2.1, 512, .inl kg)), (v2, .inl (X.2.1, 512, .inl vg))]) sz.heap sz.heap [] := va_S.rf
  have hl := lv_entry ([.ref p, .ref q]) (n := 2) (Nat.le_of_ble_eq_true rfl)
  rw [lg_entry_eq]
  generalize (lg_sl ([.ref p, .ref q]) ++ List.replicate (2 - (lg_sl ([.ref p, .ref q])).length) Slot.unset).toArray = ls at hl ⊢
  have hl : lv_has ls 2 [(0, .ref p), (1, .ref q)] := hl
  have lk9 := hts (.fieldLink RX2 9 "PointStore$Points" "keys" "[I") (by decide +kernel)
  have lk15 := hts (.fieldLink RX2 15 "PointStore$Points" "values" "[I") (by decide +kernel)
  have lk18 := hts (.fieldLink RX2 18 "PointStore$Points" "total" "I") (by decide +kernel)
  have lk22 := hts (.fieldLink RX2 22 "PointStore$Points" "version" "I") (by decide +kernel)
  have hin2 : ∀ w ∈ u_ws RX2 TX2 4, w ∈ wsX2_copyFrom := by decide +kernel
  refine wQ (fun Q hQ => ?_)
  generalize hAe : inW [(p, .inr (2, [.ref k, .ref v, .int (nI n), .int (nI w)])), (k, .inl (X.2.1, 512, .inl kf)), (v, .inl (X.2.1, 512, .inl vf)), (q, .inr (2, [.ref k2, .ref v2, .int (nI L.length), .int (nI w2)])), (k2, .inl (X.2.1, 512, .inl kg)), (v2, .inl (X.2.1, 512, .inl vg))] = A_ at hD hS hQ
  have hL := h.1
  refine lv_aload_n hx hb dX2_copyFrom_0 rfl (lv_at hl 1 rfl) ?_
  refine va_get (D := X.1) (ci := 2) (v := .ref k2) (C := RX2) (T := TX2) (N := 4) hx hb hts hin2 hown hK hP 3 rfl rfl 0 (by decide) lk9 (fun _ h9 => h9) rfl dX2_copyFrom_1 ?_
  refine lv_iconst (v := nI 0) hx hb dX2_copyFrom_4 (by decide) ?_
  refine lv_aload_n hx hb dX2_copyFrom_5 rfl (lv_at hl 0 rfl) ?_
  refine va_get (D := X.1) (ci := 2) (v := .ref k) (C := RX2) (T := TX2) (N := 4) hx hb hts hin2 hown hK hP 0 rfl rfl 0 (by decide) lk9 (fun _ h9 => h9) rfl dX2_copyFrom_6 ?_
  refine lv_iconst (v := nI 0) hx hb dX2_copyFrom_9 (by decide) ?_
  refine lv_aload_n hx hb dX2_copyFrom_10 rfl (lv_at hl 1 rfl) ?_
  refine va_get (D := X.1) (ci := 2) (v := .int (nI L.length)) (C := RX2) (T := TX2) (N := 4) hx hb hts hin2 hown hK hP 3 rfl rfl 2 (by decide) lk18 (fun _ h9 => h9) rfl dX2_copyFrom_11 ?_
  refine va_copyi hx hb (hml.trans hl.1.symm) hown (hts (.methodLink RX2 37 arraycopyName) (by decide +kernel)) (hts (.native arraycopyName) (by decide +kernel)) (hts (.static arraycopyName) (by decide +kernel)) (hts (.initialized "java/lang/System") (by decide +kernel)) hK hP hD hS 4 1 0 0 rfl rfl rfl rfl rfl (nI_pos (by omega)) (nI_pos (by omega)) (nI_pos (by omega)) (by rw [nI_clamp (by omega), nI_clamp (by omega)]; omega) (by rw [nI_clamp (by omega), nI_clamp (by omega)]; omega) (fun _ _ => rfl) (Nat.le_of_ble_eq_true rfl) (by decide) dX2_copyFrom_14 (fun H locs hP hD hS => ?_)
  rw [nI_clamp (n := 0) (by omega), nI_clamp (n := L.length) (by omega)] at hP hD
  have hP : va_P X.1 vwCl [(p, .inr (2, [.ref k, .ref v, .int (nI n), .int (nI w)])), (k, .inl (X.2.1, 512, .inl (va_cpy kg kf 0 0 L.length))), (v, .inl (X.2.1, 512, .inl vf)), (q, .inr (2, [.ref k2, .ref v2, .int (nI L.length), .int (nI w2)])), (k2, .inl (X.2.1, 512, .inl kg)), (v2, .inl (X.2.1, 512, .inl vg))] H := hP
  have hD : va_D A_ [(p, .inr (2, [.ref k, .ref v, .int (nI n), .int (nI w)])), (k, .inl (X.2.1, 512, .inl (va_cpy kg kf 0 0 L.length))), (v, .inl (X.2.1, 512, .inl vf)), (q, .inr (2, [.ref k2, .ref v2, .int (nI L.length), .int (nI w2)])), (k2, .inl (X.2.1, 512, .inl kg)), (v2, .inl (X.2.1, 512, .inl vg))] := hD
  refine lv_aload_n hx hb dX2_copyFrom_17 rfl (lv_at hl 1 rfl) ?_
  refine va_get (D := X.1) (ci := 2) (v := .ref v2) (C := RX2) (T := TX2) (N := 4) hx hb hts hin2 hown hK hP 3 rfl rfl 1 (by decide) lk15 (fun _ h9 => h9) rfl dX2_copyFrom_18 ?_
  refine lv_iconst (v := nI 0) hx hb dX2_copyFrom_21 (by decide) ?_
  refine lv_aload_n hx hb dX2_copyFrom_22 rfl (lv_at hl 0 rfl) ?_
  refine va_get (D := X.1) (ci := 2) (v := .ref v) (C := RX2) (T := TX2) (N := 4) hx hb hts hin2 hown hK hP 0 rfl rfl 1 (by decide) lk15 (fun _ h9 => h9) rfl dX2_copyFrom_23 ?_
  refine lv_iconst (v := nI 0) hx hb dX2_copyFrom_26 (by decide) ?_
  refine lv_aload_n hx hb dX2_copyFrom_27 rfl (lv_at hl 1 rfl) ?_
  refine va_get (D := X.1) (ci := 2) (v := .int (nI L.length)) (C := RX2) (T := TX2) (N := 4) hx hb hts hin2 hown hK hP 3 rfl rfl 2 (by decide) lk18 (fun _ h9 => h9) rfl dX2_copyFrom_28 ?_
  refine va_copyi hx hb (hml.trans hl.1.symm) hown (hts (.methodLink RX2 37 arraycopyName) (by decide +kernel)) (hts (.native arraycopyName) (by decide +kernel)) (hts (.static arraycopyName) (by decide +kernel)) (hts (.initialized "java/lang/System") (by decide +kernel)) hK hP hD hS 5 2 0 0 rfl rfl rfl rfl rfl (nI_pos (by omega)) (nI_pos (by omega)) (nI_pos (by omega)) (by rw [nI_clamp (by omega), nI_clamp (by omega)]; omega) (by rw [nI_clamp (by omega), nI_clamp (by omega)]; omega) (fun _ _ => rfl) (Nat.le_of_ble_eq_true rfl) (by decide) dX2_copyFrom_31 (fun H locs hP hD hS => ?_)
  rw [nI_clamp (n := 0) (by omega), nI_clamp (n := L.length) (by omega)] at hP hD
  have hP : va_P X.1 vwCl [(p, .inr (2, [.ref k, .ref v, .int (nI n), .int (nI w)])), (k, .inl (X.2.1, 512, .inl (va_cpy kg kf 0 0 L.length))), (v, .inl (X.2.1, 512, .inl (va_cpy vg vf 0 0 L.length))), (q, .inr (2, [.ref k2, .ref v2, .int (nI L.length), .int (nI w2)])), (k2, .inl (X.2.1, 512, .inl kg)), (v2, .inl (X.2.1, 512, .inl vg))] H := hP
  have hD : va_D A_ [(p, .inr (2, [.ref k, .ref v, .int (nI n), .int (nI w)])), (k, .inl (X.2.1, 512, .inl (va_cpy kg kf 0 0 L.length))), (v, .inl (X.2.1, 512, .inl (va_cpy vg vf 0 0 L.length))), (q, .inr (2, [.ref k2, .ref v2, .int (nI L.length), .int (nI w2)])), (k2, .inl (X.2.1, 512, .inl kg)), (v2, .inl (X.2.1, 512, .inl vg))] := hD
  refine lv_aload_n hx hb dX2_copyFrom_34 rfl (lv_at hl 0 rfl) ?_
  refine lv_aload_n hx hb dX2_copyFrom_35 rfl (lv_at hl 1 rfl) ?_
  refine va_get (D := X.1) (ci := 2) (v := .int (nI L.length)) (C := RX2) (T := TX2) (N := 4) hx hb hts hin2 hown hK hP 3 rfl rfl 2 (by decide) lk18 (fun _ h9 => h9) rfl dX2_copyFrom_36 ?_
  refine va_put (D := X.1) (ci := 2) (v := .int (nI L.length)) (ty := .int) (C := RX2) (T := TX2) (N := 4) hx hb hts hin2 tyX2 tyX2_ok nmX2 hown hK hP hD hS 0 rfl rfl 2 (by decide) lk18 (fun _ h9 => h9) rfl (by decide +kernel) rfl rfl (Nat.le_of_ble_eq_true rfl) dX2_copyFrom_39 (fun H locs hP hD hS => ?_)
  have hP : va_P X.1 vwCl [(p, .inr (2, [.ref k, .ref v, .int (nI L.length), .int (nI w)])), (k, .inl (X.2.1, 512, .inl (va_cpy kg kf 0 0 L.length))), (v, .inl (X.2.1, 512, .inl (va_cpy vg vf 0 0 L.length))), (q, .inr (2, [.ref k2, .ref v2, .int (nI L.length), .int (nI w2)])), (k2, .inl (X.2.1, 512, .inl kg)), (v2, .inl (X.2.1, 512, .inl vg))] H := hP
  have hD : va_D A_ [(p, .inr (2, [.ref k, .ref v, .int (nI L.length), .int (nI w)])), (k, .inl (X.2.1, 512, .inl (va_cpy kg kf 0 0 L.length))), (v, .inl (X.2.1, 512, .inl (va_cpy vg vf 0 0 L.length))), (q, .inr (2, [.ref k2, .ref v2, .int (nI L.length), .int (nI w2)])), (k2, .inl (X.2.1, 512, .inl kg)), (v2, .inl (X.2.1, 512, .inl vg))] := hD
  refine lv_aload_n hx hb dX2_copyFrom_42 rfl (lv_at hl 0 rfl) ?_
  refine lv_dup hx hb dX2_copyFrom_43 rfl ?_
  refine va_get (D := X.1) (ci := 2) (v := .int (nI w)) (C := RX2) (T := TX2) (N := 4) hx hb hts hin2 hown hK hP 0 rfl rfl 3 (by decide) lk22 (fun _ h9 => h9) rfl dX2_copyFrom_44 ?_
  refine lv_iconst (v := nI 1) hx hb dX2_copyFrom_47 (by decide) ?_
  refine lv_iadd hx hb dX2_copyFrom_48 ?_
  refine lv_topi (fun x_1 ex_1 => ?_)
  obtain rfl : x_1 = nI (w + 1) := by
    rw [ex_1]
    exact nI_add _ _
  refine va_put (D := X.1) (ci := 2) (v := .int (nI (w + 1))) (ty := .int) (C := RX2) (T := TX2) (N := 4) hx hb hts hin2 tyX2 tyX2_ok nmX2 hown hK hP hD hS 0 rfl rfl 3 (by decide) lk22 (fun _ h9 => h9) rfl (by decide +kernel) rfl rfl (Nat.le_of_ble_eq_true rfl) dX2_copyFrom_49 (fun H locs hP hD hS => ?_)
  have hP : va_P X.1 vwCl [(p, .inr (2, [.ref k, .ref v, .int (nI L.length), .int (nI (w + 1))])), (k, .inl (X.2.1, 512, .inl (va_cpy kg kf 0 0 L.length))), (v, .inl (X.2.1, 512, .inl (va_cpy vg vf 0 0 L.length))), (q, .inr (2, [.ref k2, .ref v2, .int (nI L.length), .int (nI w2)])), (k2, .inl (X.2.1, 512, .inl kg)), (v2, .inl (X.2.1, 512, .inl vg))] H := hP
  have hD : va_D A_ [(p, .inr (2, [.ref k, .ref v, .int (nI L.length), .int (nI (w + 1))])), (k, .inl (X.2.1, 512, .inl (va_cpy kg kf 0 0 L.length))), (v, .inl (X.2.1, 512, .inl (va_cpy vg vf 0 0 L.length))), (q, .inr (2, [.ref k2, .ref v2, .int (nI L.length), .int (nI w2)])), (k2, .inl (X.2.1, 512, .inl kg)), (v2, .inl (X.2.1, 512, .inl vg))] := hD
  refine wM hQ ?_
  exact rtV (va_cpy kg kf 0 0 L.length, va_cpy vg vf 0 0 L.length) hx hb hr hlocks hP hS (pt_copy h) dX2_copyFrom_52
