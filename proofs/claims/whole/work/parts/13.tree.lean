/-! Tree: lowBitsOf, factOf, gather: contracts, laid by program (wip/gen/spec_tree.py) -/
set_option maxHeartbeats 4000000 in
set_option maxRecDepth 100000 in
theorem c_X4_lowBitsOf (l : Launch) (X : kX) (t p k v fa oa bk b N nn dd : Nat) (f_mo : Int32) (w fr to_ : Nat) (kf vf o : Nat → Int32) (L : PL) (A S B : List Nat) (h : ptOk kf vf L) (ho : oOk o (A ++ S ++ B) L.length) (hln : (A ++ S ++ B).length ≤ 512) (hfr : fr = A.length) (hto : to_ = A.length + S.length) : CRi l X yX4_lowBitsOf wsX4_lowBitsOf 0 [.ref t, .int (nI fr), .int (nI to_)] [(t, .inr (4, [.ref p, .int (nI bk), .int (nI b), .int (nI N), .ref fa, .ref oa, .int (nI nn), .int (nI dd), .int f_mo])), (p, .inr (2, [.ref k, .ref v, .int (nI L.length), .int (nI w)])), (v, .inl (X.2.1, 512, .inl vf)), (oa, .inl (X.2.1, 512, .inl o))] (fun r => r = nI (low (ps L S))) := by
  refine Met.ofW (cc := cX4_lowBitsOf) (maxL := 5) (ret := some (.int)) (by decide) rfl ?_
  intro pz ez sz mz args below meth cz s₁ Bz hml hv
  obtain ⟨rfl, hP, hK, hD0, hN⟩ := hv
  have hx := Bz.exec
  have hb := Bz.bytes
  have hr := Bz.returns
  have hts := atoms_spec (ws := wsX4_lowBitsOf) Bz.pre
  have hown : sz.vm.findClass RX4 = some mz.cls := findClass_of_methodNamed Bz.named
  have hlocks := Bz.notSynchronized
  have hD := inW.self hD0
  have hS : va_S (inW [(t, .inr (4, [.ref p, .int (nI bk), .int (nI b), .int (nI N), .ref fa, .ref oa, .int (nI nn), .int (nI dd), .int f_mo])), (p, .inr (2, [.ref k, .ref v, .int (nI L.length), .int (nI w)])), (v, .inl (X.2.1, 512, .inl vf)), (oa, .inl (X.2.1, 512, .inl o))]) sz.heap sz.heap [] := va_S.rf
  have hl := lv_entry ([.ref t, .int (nI fr), .int (nI to_)]) (n := 5) (Nat.le_of_ble_eq_true rfl)
  rw [lg_entry_eq]
  generalize (lg_sl ([.ref t, .int (nI fr), .int (nI to_)]) ++ List.replicate (5 - (lg_sl ([.ref t, .int (nI fr), .int (nI to_)])).length) Slot.unset).toArray = ls at hl ⊢
  have hl : lv_has ls 5 [(0, .ref t), (1, .int (nI fr)), (2, .int (nI to_))] := hl
  have lk9 := hts (.fieldLink RX4 9 "PointStore$Tree" "order" "[I") (by decide +kernel)
  have lk25 := hts (.fieldLink RX4 25 "PointStore$Tree" "points" "LPointStore$Points;") (by decide +kernel)
  have lk72 := hts (.fieldLink RX4 72 "PointStore$Points" "values" "[I") (by decide +kernel)
  have hin2 : ∀ w ∈ u_ws RX2 TX2 4, w ∈ wsX4_lowBitsOf := by decide +kernel
  have hin4 : ∀ w ∈ u_ws RX4 TX4 9, w ∈ wsX4_lowBitsOf := by decide +kernel
  refine wQ (fun Q hQ => ?_)
  generalize hAe : inW [(t, .inr (4, [.ref p, .int (nI bk), .int (nI b), .int (nI N), .ref fa, .ref oa, .int (nI nn), .int (nI dd), .int f_mo])), (p, .inr (2, [.ref k, .ref v, .int (nI L.length), .int (nI w)])), (v, .inl (X.2.1, 512, .inl vf)), (oa, .inl (X.2.1, 512, .inl o))] = A_ at hD hS
  subst hfr
  subst hto
  have hL := h.1
  simp only [List.length_append] at hln
  refine lv_iconst (v := nI 0) hx hb dX4_lowBitsOf_0 (by decide) ?_
  refine lv_istore_n (lv' := [(3, .int (nI 0)), (0, .ref t), (1, .int (nI A.length)), (2, .int (nI (A.length + S.length)))]) hx hb dX4_lowBitsOf_1 rfl hl (by decide) rfl (fun ls hl => ?_)
  refine lv_iload_n hx hb dX4_lowBitsOf_2 rfl (lv_at hl 2 rfl) ?_
  refine lv_istore (lv' := [(4, .int (nI A.length)), (3, .int (nI 0)), (0, .ref t), (1, .int (nI A.length)), (2, .int (nI (A.length + S.length)))]) hx hb dX4_lowBitsOf_3 hl (by decide) rfl (fun ls hl => ?_)
  have loop_5 : ∀ (fu : Nat) (j : Nat), (j ≤ S.length) → S.length - j < fu → ∀ (ls : Array Slot), lv_has ls 5 [(0, .ref t), (2, .int (nI (A.length + S.length))), (3, .int (nI (low (ps L (S.take j))))), (4, .int (nI (A.length + j)))] → W pz l ez (headSpec wsX4_lowBitsOf (rmk 0)).room sz mz ([.ref t, .int (nI A.length), .int (nI (A.length + S.length))].toArray) below meth cz sz.heap [] 0 0 Q (F0 mz 5 ls []) := by
    intro fu
    induction fu with
    | zero => intro j h1 hfu; exact absurd hfu (Nat.not_lt_zero _)
    | succ fu ih5 =>
      intro j h1 hfu ls hl
      have hoj := fun q => ho.at (get_mid (A := A) (B := B) (S := S) (j := j) q)
      refine lv_iload hx hb dX4_lowBitsOf_5 (lv_at hl 3 rfl) ?_
      refine lv_iload_n hx hb dX4_lowBitsOf_7 rfl (lv_at hl 1 rfl) ?_
      refine lv_icmp_ge (tgt := 38) hx hb dX4_lowBitsOf_8 (by decide) (fun c_8 => ?_) (fun c_8 => ?_)
      · replace c_8 : (A.length + S.length) ≤ (A.length + j) := (nI_leI (by omega) (by omega)).mp c_8
        refine lv_iload_n hx hb dX4_lowBitsOf_38 rfl (lv_at hl 2 rfl) ?_
        refine wM hQ ?_
        exact rtRI hx hb hr hlocks ((by show nI _ = nI _; rw [show j = S.length from by omega, List.take_length])) dX4_lowBitsOf_39
      · replace c_8 : ¬ (A.length + S.length) ≤ (A.length + j) := fun h9 => c_8 ((nI_leI (by omega) (by omega)).mpr h9)
        refine lv_iload_n hx hb dX4_lowBitsOf_11 rfl (lv_at hl 2 rfl) ?_
        refine lv_aload_n hx hb dX4_lowBitsOf_12 rfl (lv_at hl 0 rfl) ?_
        refine va_get (D := X.1) (ci := 4) (v := .ref p) (C := RX4) (T := TX4) (N := 9) hx hb hts hin4 hown hK hP 0 rfl rfl 0 (by decide) lk25 (fun _ h9 => h9) rfl dX4_lowBitsOf_13 ?_
        refine va_get (D := X.1) (ci := 2) (v := .ref v) (C := RX2) (T := TX2) (N := 4) hx hb hts hin2 hown hK hP 1 rfl rfl 1 (by decide) lk72 (fun _ h9 => h9) rfl dX4_lowBitsOf_16 ?_
        refine lv_aload_n hx hb dX4_lowBitsOf_19 rfl (lv_at hl 0 rfl) ?_
        refine va_get (D := X.1) (ci := 4) (v := .ref oa) (C := RX4) (T := TX4) (N := 9) hx hb hts hin4 hown hK hP 0 rfl rfl 5 (by decide) lk9 (fun _ h9 => h9) rfl dX4_lowBitsOf_20 ?_
        refine lv_iload hx hb dX4_lowBitsOf_23 (lv_at hl 3 rfl) ?_
        have hi_1 : vp_in (nI (A.length + j)) 512 := vp_in_nI (by omega) (by omega)
        refine va_iald hx hb hK hP 3 0 rfl rfl hi_1 dX4_lowBitsOf_25 ?_
        refine lv_topi (fun x_2 ex_2 => ?_)
        obtain rfl : x_2 = o (A.length + j) := by
          rw [ex_2]
          rw [nI_clamp (by omega)]
        refine lv_topi (fun x_3 ex_3 => ?_)
        obtain rfl : x_3 = nI (S.getD j 0) := by
          rw [ex_3]
          exact (hoj (by omega)).1
        have hob := (hoj (by omega)).2
        have hi_4 : vp_in (nI (S.getD j 0)) 512 := vp_in_nI (by omega) (by omega)
        refine va_iald hx hb hK hP 2 0 rfl rfl hi_4 dX4_lowBitsOf_26 ?_
        refine lv_topi (fun x_5 ex_5 => ?_)
        obtain rfl : x_5 = vf (S.getD j 0) := by
          rw [ex_5]
          rw [nI_clamp (by omega)]
        refine lv_topi (fun x_6 ex_6 => ?_)
        obtain rfl : x_6 = nI (pV L (S.getD j 0)) := by
          rw [ex_6]
          exact h.v (hoj (by omega)).2
        refine lv_ldc (v := 65535) hx hb hown (hts (.constant RX4 75 (65535)) (by decide +kernel)) dX4_lowBitsOf_27 ?_
        refine lv_topi (fun x_7 ex_7 => ?_)
        obtain rfl : x_7 = nI 65535 := by
          rw [ex_7]
          rfl
        have hvb := h.vb (hoj (by omega)).2
        refine lv_iand hx hb dX4_lowBitsOf_29 ?_
        refine lv_topi (fun x_8 ex_8 => ?_)
        obtain rfl : x_8 = nI (pV L (S.getD j 0) % 65536) := by
          rw [ex_8]
          exact pk_andN (by omega) 16 (by decide)
        refine lv_iadd hx hb dX4_lowBitsOf_30 ?_
        refine lv_topi (fun x_9 ex_9 => ?_)
        obtain rfl : x_9 = nI ((low (ps L (S.take j))) + (pV L (S.getD j 0) % 65536)) := by
          rw [ex_9]
          exact nI_add _ _
        refine lv_istore_n (lv' := [(3, .int (nI ((low (ps L (S.take j))) + (pV L (S.getD j 0) % 65536)))), (0, .ref t), (2, .int (nI (A.length + S.length))), (4, .int (nI (A.length + j)))]) hx hb dX4_lowBitsOf_31 rfl hl (by decide) rfl (fun ls hl => ?_)
        refine lv_iinc (v := nI (A.length + j + 1)) (lv' := [(4, .int (nI (A.length + j + 1))), (3, .int (nI ((low (ps L (S.take j))) + (pV L (S.getD j 0) % 65536)))), (0, .ref t), (2, .int (nI (A.length + S.length)))]) hx hb dX4_lowBitsOf_32 hl (k := 3) rfl (by rw [show Int32.ofInt 1 = nI 1 from by decide]; exact nI_add _ _) (by decide) rfl (fun ls hl => ?_)
        refine lv_goto (tgt := 5) hx hb dX4_lowBitsOf_35 (by decide) ?_
        rw [← low_take (by omega)] at hl
        have hl : lv_has ls 5 [(4, .int (nI (A.length + j + 1))), (3, .int (nI (low (ps L (S.take (j + 1)))))), (0, .ref t), (2, .int (nI (A.length + S.length)))] := hl
        exact ih5 (j + 1) (by omega) (by omega) ls (lv_sub hl [2, 3, 1, 0] rfl)
  exact loop_5 _ 0 (by omega) (Nat.lt_succ_self _) ls (lv_sub hl [2, 4, 1, 0] rfl)
set_option maxHeartbeats 4000000 in
set_option maxRecDepth 100000 in
theorem c_X4_factOf (l : Launch) (X : kX) (t p k v fa oa bk b N nn dd : Nat) (f_mo : Int32) (ff : Nat → Int32) (x y : Int32) (F : List Nd) (hF : fOk ff F) (hN : F.length ≤ N) (hN2 : N ≤ 401) (hnn : nn = F.length) : CRi l X yX4_factOf wsX4_factOf 0 [.ref t, .int x, .int y] [(t, .inr (4, [.ref p, .int (nI bk), .int (nI b), .int (nI N), .ref fa, .ref oa, .int (nI nn), .int (nI dd), .int f_mo])), (fa, .inl (X.2.1, 6 * N, .inl ff))] (fun r => r = fct F x y) := by
  refine Met.ofW (cc := cX4_factOf) (maxL := 3) (ret := some (.int)) (by decide) rfl ?_
  intro pz ez sz mz args below meth cz s₁ Bz hml hv
  obtain ⟨rfl, hP, hK, hD0, hN⟩ := hv
  have hx := Bz.exec
  have hb := Bz.bytes
  have hr := Bz.returns
  have hts := atoms_spec (ws := wsX4_factOf) Bz.pre
  have hown : sz.vm.findClass RX4 = some mz.cls := findClass_of_methodNamed Bz.named
  have hlocks := Bz.notSynchronized
  have hD := inW.self hD0
  have hS : va_S (inW [(t, .inr (4, [.ref p, .int (nI bk), .int (nI b), .int (nI N), .ref fa, .ref oa, .int (nI nn), .int (nI dd), .int f_mo])), (fa, .inl (X.2.1, 6 * N, .inl ff))]) sz.heap sz.heap [] := va_S.rf
  have hl := lv_entry ([.ref t, .int x, .int y]) (n := 3) (Nat.le_of_ble_eq_true rfl)
  rw [lg_entry_eq]
  generalize (lg_sl ([.ref t, .int x, .int y]) ++ List.replicate (3 - (lg_sl ([.ref t, .int x, .int y])).length) Slot.unset).toArray = ls at hl ⊢
  have hl : lv_has ls 3 [(0, .ref t), (1, .int x), (2, .int y)] := hl
  have lk15 := hts (.fieldLink RX4 15 "PointStore$Tree" "nodes" "I") (by decide +kernel)
  have lk38 := hts (.fieldLink RX4 38 "PointStore$Tree" "facts" "[I") (by decide +kernel)
  have hin4 : ∀ w ∈ u_ws RX4 TX4 9, w ∈ wsX4_factOf := by decide +kernel
  refine wQ (fun Q hQ => ?_)
  generalize hAe : inW [(t, .inr (4, [.ref p, .int (nI bk), .int (nI b), .int (nI N), .ref fa, .ref oa, .int (nI nn), .int (nI dd), .int f_mo])), (fa, .inl (X.2.1, 6 * N, .inl ff))] = A_ at hD hS
  subst hnn
  refine lv_iload_n hx hb dX4_factOf_0 rfl (lv_at hl 1 rfl) ?_
  refine lv_if_lt (tgt := 22) hx hb dX4_factOf_1 (by decide) (fun c_1 => ?_) (fun c_1 => ?_)
  · skip
    refine lv_iconst (v := (-1)) hx hb dX4_factOf_22 (by decide) ?_
    refine wM hQ ?_
    exact rtRI hx hb hr hlocks ((by show _ = _; unfold fct; exact (if_neg (fun z => by first | exact z.1 c_1 | exact z.2.1 c_9 | exact z.2.2.1 c_13 | exact c_19 z.2.2.2)).symm)) dX4_factOf_23
  · skip
    refine lv_iload_n hx hb dX4_factOf_4 rfl (lv_at hl 1 rfl) ?_
    refine lv_aload_n hx hb dX4_factOf_5 rfl (lv_at hl 0 rfl) ?_
    refine va_get (D := X.1) (ci := 4) (v := .int (nI F.length)) (C := RX4) (T := TX4) (N := 9) hx hb hts hin4 hown hK hP 0 rfl rfl 6 (by decide) lk15 (fun _ h9 => h9) rfl dX4_factOf_6 ?_
    refine lv_icmp_ge (tgt := 22) hx hb dX4_factOf_9 (by decide) (fun c_9 => ?_) (fun c_9 => ?_)
    · skip
      refine lv_iconst (v := (-1)) hx hb dX4_factOf_22 (by decide) ?_
      refine wM hQ ?_
      exact rtRI hx hb hr hlocks ((by show _ = _; unfold fct; exact (if_neg (fun z => by first | exact z.1 c_1 | exact z.2.1 c_9 | exact z.2.2.1 c_13 | exact c_19 z.2.2.2)).symm)) dX4_factOf_23
    · skip
      refine lv_iload_n hx hb dX4_factOf_12 rfl (lv_at hl 2 rfl) ?_
      refine lv_if_lt (tgt := 22) hx hb dX4_factOf_13 (by decide) (fun c_13 => ?_) (fun c_13 => ?_)
      · skip
        refine lv_iconst (v := (-1)) hx hb dX4_factOf_22 (by decide) ?_
        refine wM hQ ?_
        exact rtRI hx hb hr hlocks ((by show _ = _; unfold fct; exact (if_neg (fun z => by first | exact z.1 c_1 | exact z.2.1 c_9 | exact z.2.2.1 c_13 | exact c_19 z.2.2.2)).symm)) dX4_factOf_23
      · skip
        refine lv_iload_n hx hb dX4_factOf_16 rfl (lv_at hl 2 rfl) ?_
        refine lv_bipush (v := nI 6) hx hb dX4_factOf_17 (by decide) ?_
        refine lv_icmp_lt (tgt := 24) hx hb dX4_factOf_19 (by decide) (fun c_19 => ?_) (fun c_19 => ?_)
        · skip
          obtain ⟨j, hj, rfl⟩ := nI_of c_1
          obtain ⟨z, hz, rfl⟩ := nI_of c_13
          have hj2 : j < F.length := by
            rcases Nat.lt_or_ge j F.length with q | q
            · exact q
            · exact absurd (nI_le q hj) c_9
          have hz2 : z < 6 := (nI_ltI (by omega) (by omega)).mp c_19
          · skip
            refine lv_aload_n hx hb dX4_factOf_24 rfl (lv_at hl 0 rfl) ?_
            refine va_get (D := X.1) (ci := 4) (v := .ref fa) (C := RX4) (T := TX4) (N := 9) hx hb hts hin4 hown hK hP 0 rfl rfl 4 (by decide) lk38 (fun _ h9 => h9) rfl dX4_factOf_25 ?_
            refine lv_iload_n hx hb dX4_factOf_28 rfl (lv_at hl 1 rfl) ?_
            refine lv_bipush (v := nI 6) hx hb dX4_factOf_29 (by decide) ?_
            refine lv_imul hx hb dX4_factOf_31 ?_
            refine lv_topi (fun x_1 ex_1 => ?_)
            obtain rfl : x_1 = nI (j * 6) := by
              rw [ex_1]
              exact pk_mul _ _
            refine lv_iload_n hx hb dX4_factOf_32 rfl (lv_at hl 2 rfl) ?_
            refine lv_iadd hx hb dX4_factOf_33 ?_
            refine lv_topi (fun x_2 ex_2 => ?_)
            obtain rfl : x_2 = nI ((j * 6) + z) := by
              rw [ex_2]
              exact nI_add _ _
            have hi_3 : vp_in (nI ((j * 6) + z)) (6 * N) := vp_in_nI (by omega) (by omega)
            refine va_iald hx hb hK hP 1 0 rfl rfl hi_3 dX4_factOf_34 ?_
            refine lv_topi (fun x_4 ex_4 => ?_)
            obtain rfl : x_4 = ff ((j * 6) + z) := by
              rw [ex_4]
              rw [nI_clamp (by omega)]
            refine wM hQ ?_
            exact rtRI hx hb hr hlocks ((by show _ = _; unfold fct; rw [if_pos ⟨c_1, c_9, c_13, c_19⟩, nI_clamp hj, nI_clamp hz]; exact fOk_ndv hF hj2 hz2)) dX4_factOf_35
        · skip
          refine lv_iconst (v := (-1)) hx hb dX4_factOf_22 (by decide) ?_
          refine wM hQ ?_
          exact rtRI hx hb hr hlocks ((by show _ = _; unfold fct; exact (if_neg (fun z => by first | exact z.1 c_1 | exact z.2.1 c_9 | exact z.2.2.1 c_13 | exact c_19 z.2.2.2)).symm)) dX4_factOf_23
set_option maxHeartbeats 4000000 in
set_option maxRecDepth 100000 in
theorem c_X4_gather (l : Launch) (X : kX) (t p k v fa oa bk b N nn dd : Nat) (f_mo : Int32) (w fr to_ m wt : Nat) (kf vf o : Nat → Int32) (L : PL) (A S B : List Nat) (f : Nat → Bool) (h : ptOk kf vf L) (ho : oOk o (A ++ S ++ B) L.length) (hln : (A ++ S ++ B).length ≤ 512) (hwt : wt < 2 ^ 30) (hf : ∀ i ∈ S, (f i = true ↔ pK L i &&& m = wt)) (hfr : fr = A.length) (hto : to_ = A.length + S.length) : CWi l X yX4_gather wsX4_gather 2 [.ref t, .int (nI fr), .int (nI to_), .int (nI m), .int (nI wt)] [(t, .inr (4, [.ref p, .int (nI bk), .int (nI b), .int (nI N), .ref fa, .ref oa, .int (nI nn), .int (nI dd), .int f_mo])), (p, .inr (2, [.ref k, .ref v, .int (nI L.length), .int (nI w)])), (k, .inl (X.2.1, 512, .inl kf)), (oa, .inl (X.2.1, 512, .inl o))] (S := (Nat → Int32) × List Nat) (fun r u => r = nI (A.length + (S.filter f).length) ∧ oOk u.1 (A ++ S.filter f ++ u.2 ++ B) L.length ∧ u.2.Perm (S.filter (fun i => !f i))) (fun ⟨o2, R2⟩ => [(t, .inr (4, [.ref p, .int (nI bk), .int (nI b), .int (nI N), .ref fa, .ref oa, .int (nI nn), .int (nI dd), .int f_mo])), (p, .inr (2, [.ref k, .ref v, .int (nI L.length), .int (nI w)])), (k, .inl (X.2.1, 512, .inl kf)), (oa, .inl (X.2.1, 512, .inl o2))]) := by
  refine Met.ofW (cc := cX4_gather) (maxL := 8) (ret := some (.int)) (by decide) rfl ?_
  intro pz ez sz mz args below meth cz s₁ Bz hml hv
  obtain ⟨rfl, hP, hK, hD0, hN⟩ := hv
  have hx := Bz.exec
  have hb := Bz.bytes
  have hr := Bz.returns
  have hts := atoms_spec (ws := wsX4_gather) Bz.pre
  have hown : sz.vm.findClass RX4 = some mz.cls := findClass_of_methodNamed Bz.named
  have hlocks := Bz.notSynchronized
  have hD := inW.self hD0
  have hS : va_S (inW [(t, .inr (4, [.ref p, .int (nI bk), .int (nI b), .int (nI N), .ref fa, .ref oa, .int (nI nn), .int (nI dd), .int f_mo])), (p, .inr (2, [.ref k, .ref v, .int (nI L.length), .int (nI w)])), (k, .inl (X.2.1, 512, .inl kf)), (oa, .inl (X.2.1, 512, .inl o))]) sz.heap sz.heap [] := va_S.rf
  have hl := lv_entry ([.ref t, .int (nI fr), .int (nI to_), .int (nI m), .int (nI wt)]) (n := 8) (Nat.le_of_ble_eq_true rfl)
  rw [lg_entry_eq]
  generalize (lg_sl ([.ref t, .int (nI fr), .int (nI to_), .int (nI m), .int (nI wt)]) ++ List.replicate (8 - (lg_sl ([.ref t, .int (nI fr), .int (nI to_), .int (nI m), .int (nI wt)])).length) Slot.unset).toArray = ls at hl ⊢
  have hl : lv_has ls 8 [(0, .ref t), (1, .int (nI fr)), (2, .int (nI to_)), (3, .int (nI m)), (4, .int (nI wt))] := hl
  have lk9 := hts (.fieldLink RX4 9 "PointStore$Tree" "order" "[I") (by decide +kernel)
  have lk25 := hts (.fieldLink RX4 25 "PointStore$Tree" "points" "LPointStore$Points;") (by decide +kernel)
  have lk69 := hts (.fieldLink RX4 69 "PointStore$Points" "keys" "[I") (by decide +kernel)
  have hin2 : ∀ w ∈ u_ws RX2 TX2 4, w ∈ wsX4_gather := by decide +kernel
  have hin4 : ∀ w ∈ u_ws RX4 TX4 9, w ∈ wsX4_gather := by decide +kernel
  refine wQ (fun Q hQ => ?_)
  generalize hAe : inW [(t, .inr (4, [.ref p, .int (nI bk), .int (nI b), .int (nI N), .ref fa, .ref oa, .int (nI nn), .int (nI dd), .int f_mo])), (p, .inr (2, [.ref k, .ref v, .int (nI L.length), .int (nI w)])), (k, .inl (X.2.1, 512, .inl kf)), (oa, .inl (X.2.1, 512, .inl o))] = A_ at hD hS hQ
  subst hfr
  subst hto
  have hL := h.1
  simp only [List.length_append] at hln
  refine lv_iload_n hx hb dX4_gather_0 rfl (lv_at hl 1 rfl) ?_
  refine lv_istore (lv' := [(5, .int (nI A.length)), (0, .ref t), (1, .int (nI A.length)), (2, .int (nI (A.length + S.length))), (3, .int (nI m)), (4, .int (nI wt))]) hx hb dX4_gather_1 hl (by decide) rfl (fun ls hl => ?_)
  refine lv_iload_n hx hb dX4_gather_3 rfl (lv_at hl 2 rfl) ?_
  refine lv_istore (lv' := [(6, .int (nI A.length)), (5, .int (nI A.length)), (0, .ref t), (1, .int (nI A.length)), (2, .int (nI (A.length + S.length))), (3, .int (nI m)), (4, .int (nI wt))]) hx hb dX4_gather_4 hl (by decide) rfl (fun ls hl => ?_)
  have loop_6 : ∀ (fu : Nat) (j : Nat) (o1 : Nat → Int32) (O1 : List Nat), (j ≤ S.length) → (oOk o1 (A ++ (S.take j).filter f ++ O1 ++ S.drop j ++ B) L.length) → (O1.Perm ((S.take j).filter (fun i => !f i))) → (((S.take j).filter f).length + O1.length = j) → S.length - j < fu → ∀ (H : Heap) (locs : List Loc), va_P X.1 vwCl [(t, .inr (4, [.ref p, .int (nI bk), .int (nI b), .int (nI N), .ref fa, .ref oa, .int (nI nn), .int (nI dd), .int f_mo])), (p, .inr (2, [.ref k, .ref v, .int (nI L.length), .int (nI w)])), (k, .inl (X.2.1, 512, .inl kf)), (oa, .inl (X.2.1, 512, .inl o1))] H → va_D A_ [(t, .inr (4, [.ref p, .int (nI bk), .int (nI b), .int (nI N), .ref fa, .ref oa, .int (nI nn), .int (nI dd), .int f_mo])), (p, .inr (2, [.ref k, .ref v, .int (nI L.length), .int (nI w)])), (k, .inl (X.2.1, 512, .inl kf)), (oa, .inl (X.2.1, 512, .inl o1))] → va_S A_ sz.heap H locs → ∀ (ls : Array Slot), lv_has ls 8 [(0, .ref t), (2, .int (nI (A.length + S.length))), (3, .int (nI m)), (4, .int (nI wt)), (5, .int (nI (A.length + ((S.take j).filter f).length))), (6, .int (nI (A.length + j)))] → W pz l ez (headSpec wsX4_gather (rmk 2)).room sz mz ([.ref t, .int (nI A.length), .int (nI (A.length + S.length)), .int (nI m), .int (nI wt)].toArray) below meth cz H locs 0 0 Q (F0 mz 6 ls []) := by
    intro fu
    induction fu with
    | zero => intro j o1 O1 h1 h2 hO hlen hfu; exact absurd hfu (Nat.not_lt_zero _)
    | succ fu ih6 =>
      intro j o1 O1 h1 h2 hO hlen hfu H locs hP hD hS ls hl
      refine lv_iload hx hb dX4_gather_6 (lv_at hl 5 rfl) ?_
      refine lv_iload_n hx hb dX4_gather_8 rfl (lv_at hl 1 rfl) ?_
      refine lv_icmp_ge (tgt := 70) hx hb dX4_gather_9 (by decide) (fun c_9 => ?_) (fun c_9 => ?_)
      · replace c_9 : (A.length + S.length) ≤ (A.length + j) := (nI_leI (by omega) (by omega)).mp c_9
        refine lv_iload hx hb dX4_gather_70 (lv_at hl 4 rfl) ?_
        obtain rfl : j = S.length := by omega
        rw [List.take_length] at h2 hO
        rw [List.drop_length] at h2
        refine wM hQ ?_
        exact rtI (o1, O1) hx hb hr hlocks hP hS (⟨by rw [List.take_length], by simpa using h2, hO⟩) dX4_gather_72
      · replace c_9 : ¬ (A.length + S.length) ≤ (A.length + j) := fun h9 => c_9 ((nI_leI (by omega) (by omega)).mpr h9)
        have hj : j < S.length := by omega
        have hdr : S.drop j = S.getD j 0 :: S.drop (j + 1) := by
          rw [List.drop_eq_getElem_cons hj]; simp [hj]
        have htk : S.take (j + 1) = S.take j ++ [S.getD j 0] := by rw [List.take_succ]; simp [hj]
        have hmem : S.getD j 0 ∈ S := by
          rw [show S.getD j 0 = S[j] from by simp [hj]]
          exact List.getElem_mem hj
        have hat := h2.at (i := A.length + j) (a := S.getD j 0) (by
          have e9 := get_mid (A := A ++ (S.take j).filter f ++ O1) (S := S.drop j) (B := B) (j := 0) (by simp; omega)
          rw [show (A ++ (S.take j).filter f ++ O1).length + 0 = A.length + j from by simp; omega] at e9
          rw [e9, hdr]; rfl)
        have hkb := h.kb hat.2
        have hab : pK L (S.getD j 0) &&& m < 2 ^ 30 := Nat.lt_of_le_of_lt Nat.and_le_left hkb
        refine lv_aload_n hx hb dX4_gather_12 rfl (lv_at hl 0 rfl) ?_
        refine va_get (D := X.1) (ci := 4) (v := .ref oa) (C := RX4) (T := TX4) (N := 9) hx hb hts hin4 hown hK hP 0 rfl rfl 5 (by decide) lk9 (fun _ h9 => h9) rfl dX4_gather_13 ?_
        refine lv_iload hx hb dX4_gather_16 (lv_at hl 5 rfl) ?_
        have hi_1 : vp_in (nI (A.length + j)) 512 := vp_in_nI (by omega) (by omega)
        refine va_iald hx hb hK hP 3 0 rfl rfl hi_1 dX4_gather_18 ?_
        refine lv_topi (fun x_2 ex_2 => ?_)
        obtain rfl : x_2 = o1 (A.length + j) := by
          rw [ex_2]
          rw [nI_clamp (by omega)]
        refine lv_topi (fun x_3 ex_3 => ?_)
        obtain rfl : x_3 = nI (S.getD j 0) := by
          rw [ex_3]
          exact hat.1
        refine lv_istore (lv' := [(7, .int (nI (S.getD j 0))), (0, .ref t), (2, .int (nI (A.length + S.length))), (3, .int (nI m)), (4, .int (nI wt)), (5, .int (nI (A.length + ((S.take j).filter f).length))), (6, .int (nI (A.length + j)))]) hx hb dX4_gather_19 hl (by decide) rfl (fun ls hl => ?_)
        refine lv_aload_n hx hb dX4_gather_21 rfl (lv_at hl 1 rfl) ?_
        refine va_get (D := X.1) (ci := 4) (v := .ref p) (C := RX4) (T := TX4) (N := 9) hx hb hts hin4 hown hK hP 0 rfl rfl 0 (by decide) lk25 (fun _ h9 => h9) rfl dX4_gather_22 ?_
        refine va_get (D := X.1) (ci := 2) (v := .ref k) (C := RX2) (T := TX2) (N := 4) hx hb hts hin2 hown hK hP 1 rfl rfl 0 (by decide) lk69 (fun _ h9 => h9) rfl dX4_gather_25 ?_
        refine lv_iload hx hb dX4_gather_28 (lv_at hl 0 rfl) ?_
        have hi_4 : vp_in (nI (S.getD j 0)) 512 := vp_in_nI (by omega) (by omega)
        refine va_iald hx hb hK hP 2 0 rfl rfl hi_4 dX4_gather_30 ?_
        refine lv_topi (fun x_5 ex_5 => ?_)
        obtain rfl : x_5 = kf (S.getD j 0) := by
          rw [ex_5]
          rw [nI_clamp (by omega)]
        refine lv_topi (fun x_6 ex_6 => ?_)
        obtain rfl : x_6 = nI (pK L (S.getD j 0)) := by
          rw [ex_6]
          exact h.k hat.2
        refine lv_iload_n hx hb dX4_gather_31 rfl (lv_at hl 3 rfl) ?_
        refine lv_iand hx hb dX4_gather_32 ?_
        refine lv_topi (fun x_7 ex_7 => ?_)
        obtain rfl : x_7 = nI (pK L (S.getD j 0) &&& m) := by
          rw [ex_7]
          exact nx_and _ _
        refine lv_iload hx hb dX4_gather_33 (lv_at hl 4 rfl) ?_
        refine lv_icmp_ne (tgt := 64) hx hb dX4_gather_35 (by decide) (fun c_35 => ?_) (fun c_35 => ?_)
        · replace c_35 : ¬ (pK L (S.getD j 0) &&& m) = wt := fun h9 => c_35 ((nI_eq (by omega) (by omega)).mpr h9)
          have hin : f (S.getD j 0) = false := by
            cases hz : f (S.getD j 0) with
            | false => rfl
            | true => exact absurd ((hf _ hmem).mp hz) c_35
          have hfi : (S.take (j + 1)).filter f = (S.take j).filter f := by rw [htk]; exact filt_out hin
          have hfo : (S.take (j + 1)).filter (fun i => !f i) = (S.take j).filter (fun i => !f i) ++ [S.getD j 0] := by rw [htk]; exact filt_in (f := fun i => !f i) (by show (!_) = true; rw [hin]; rfl)
          refine lv_iinc (v := nI (A.length + j + 1)) (lv' := [(6, .int (nI (A.length + j + 1))), (7, .int (nI (S.getD j 0))), (0, .ref t), (2, .int (nI (A.length + S.length))), (3, .int (nI m)), (4, .int (nI wt)), (5, .int (nI (A.length + ((S.take j).filter f).length)))]) hx hb dX4_gather_64 hl (k := 6) rfl (by rw [show Int32.ofInt 1 = nI 1 from by decide]; exact nI_add _ _) (by decide) rfl (fun ls hl => ?_)
          refine lv_goto (tgt := 6) hx hb dX4_gather_67 (by decide) ?_
          have hl : lv_has ls 8 [(6, .int (nI (A.length + j + 1))), (7, .int (nI (S.getD j 0))), (0, .ref t), (2, .int (nI (A.length + S.length))), (3, .int (nI m)), (4, .int (nI wt)), (5, .int (nI (A.length + ((S.take (j + 1)).filter f).length)))] := by
            have hl := hl
            rw [hfi]
            exact hl
          exact ih6 (j + 1) o1 (O1 ++ [S.getD j 0]) (by omega) (by rw [hfi]; rw [hdr] at h2; simpa using h2) (by rw [hfo]; exact hO.append_right _) (by rw [hfi]; simp; omega) (by omega) _ _ hP hD hS ls (lv_sub hl [2, 3, 4, 5, 6, 0] rfl)
        · replace c_35 : (pK L (S.getD j 0) &&& m) = wt := (nI_eq (by omega) (by omega)).mp c_35
          have hin := (hf _ hmem).mpr c_35
          have hfi : (S.take (j + 1)).filter f = (S.take j).filter f ++ [S.getD j 0] := by rw [htk]; exact filt_in hin
          have hfo : (S.take (j + 1)).filter (fun i => !f i) = (S.take j).filter (fun i => !f i) := by rw [htk]; exact filt_out (f := fun i => !f i) (by show (!_) = false; rw [hin]; rfl)
          have h2s : oOk o1 ((A ++ (S.take j).filter f) ++ O1 ++ S.getD j 0 :: (S.drop (j + 1) ++ B)) L.length := by rw [hdr] at h2; simpa using h2
          obtain ⟨O2, hO2, ho2⟩ := o_swap h2s
          have ho2 : oOk (upd (upd o1 (A.length + j) (o1 (A.length + ((S.take j).filter f).length))) (A.length + ((S.take j).filter f).length) (nI (S.getD j 0))) (A ++ ((S.take j).filter f ++ [S.getD j 0]) ++ O2 ++ S.drop (j + 1) ++ B) L.length := by
            have e8 : (A ++ (S.take j).filter f).length + O1.length = A.length + j := by simp; omega
            have e7 : (A ++ (S.take j).filter f).length = A.length + ((S.take j).filter f).length := by simp
            rw [e8, e7] at ho2
            simpa using ho2
          refine lv_aload_n hx hb dX4_gather_38 rfl (lv_at hl 1 rfl) ?_
          refine va_get (D := X.1) (ci := 4) (v := .ref oa) (C := RX4) (T := TX4) (N := 9) hx hb hts hin4 hown hK hP 0 rfl rfl 5 (by decide) lk9 (fun _ h9 => h9) rfl dX4_gather_39 ?_
          refine lv_iload hx hb dX4_gather_42 (lv_at hl 6 rfl) ?_
          refine lv_aload_n hx hb dX4_gather_44 rfl (lv_at hl 1 rfl) ?_
          refine va_get (D := X.1) (ci := 4) (v := .ref oa) (C := RX4) (T := TX4) (N := 9) hx hb hts hin4 hown hK hP 0 rfl rfl 5 (by decide) lk9 (fun _ h9 => h9) rfl dX4_gather_45 ?_
          refine lv_iload hx hb dX4_gather_48 (lv_at hl 5 rfl) ?_
          have hi_8 : vp_in (nI (A.length + ((S.take j).filter f).length)) 512 := vp_in_nI (by omega) (by omega)
          refine va_iald hx hb hK hP 3 0 rfl rfl hi_8 dX4_gather_50 ?_
          refine lv_topi (fun x_9 ex_9 => ?_)
          obtain rfl : x_9 = o1 (A.length + ((S.take j).filter f).length) := by
            rw [ex_9]
            rw [nI_clamp (by omega)]
          have hi_10 : vp_in (nI (A.length + j)) 512 := vp_in_nI (by omega) (by omega)
          refine va_iast hx hb hK hP hD hS 3 0 rfl rfl hi_10 dX4_gather_51 (fun H locs hP hD hS => ?_)
          rw [nI_clamp (by omega)] at hP hD
          have hP : va_P X.1 vwCl [(t, .inr (4, [.ref p, .int (nI bk), .int (nI b), .int (nI N), .ref fa, .ref oa, .int (nI nn), .int (nI dd), .int f_mo])), (p, .inr (2, [.ref k, .ref v, .int (nI L.length), .int (nI w)])), (k, .inl (X.2.1, 512, .inl kf)), (oa, .inl (X.2.1, 512, .inl (upd o1 (A.length + j) (o1 (A.length + ((S.take j).filter f).length)))))] H := hP
          have hD : va_D A_ [(t, .inr (4, [.ref p, .int (nI bk), .int (nI b), .int (nI N), .ref fa, .ref oa, .int (nI nn), .int (nI dd), .int f_mo])), (p, .inr (2, [.ref k, .ref v, .int (nI L.length), .int (nI w)])), (k, .inl (X.2.1, 512, .inl kf)), (oa, .inl (X.2.1, 512, .inl (upd o1 (A.length + j) (o1 (A.length + ((S.take j).filter f).length)))))] := hD
          refine lv_aload_n hx hb dX4_gather_52 rfl (lv_at hl 1 rfl) ?_
          refine va_get (D := X.1) (ci := 4) (v := .ref oa) (C := RX4) (T := TX4) (N := 9) hx hb hts hin4 hown hK hP 0 rfl rfl 5 (by decide) lk9 (fun _ h9 => h9) rfl dX4_gather_53 ?_
          refine lv_iload hx hb dX4_gather_56 (lv_at hl 5 rfl) ?_
          refine lv_iload hx hb dX4_gather_58 (lv_at hl 0 rfl) ?_
          have hi_11 : vp_in (nI (A.length + ((S.take j).filter f).length)) 512 := vp_in_nI (by omega) (by omega)
          refine va_iast hx hb hK hP hD hS 3 0 rfl rfl hi_11 dX4_gather_60 (fun H locs hP hD hS => ?_)
          rw [nI_clamp (by omega)] at hP hD
          have hP : va_P X.1 vwCl [(t, .inr (4, [.ref p, .int (nI bk), .int (nI b), .int (nI N), .ref fa, .ref oa, .int (nI nn), .int (nI dd), .int f_mo])), (p, .inr (2, [.ref k, .ref v, .int (nI L.length), .int (nI w)])), (k, .inl (X.2.1, 512, .inl kf)), (oa, .inl (X.2.1, 512, .inl (upd (upd o1 (A.length + j) (o1 (A.length + ((S.take j).filter f).length))) (A.length + ((S.take j).filter f).length) (nI (S.getD j 0)))))] H := hP
          have hD : va_D A_ [(t, .inr (4, [.ref p, .int (nI bk), .int (nI b), .int (nI N), .ref fa, .ref oa, .int (nI nn), .int (nI dd), .int f_mo])), (p, .inr (2, [.ref k, .ref v, .int (nI L.length), .int (nI w)])), (k, .inl (X.2.1, 512, .inl kf)), (oa, .inl (X.2.1, 512, .inl (upd (upd o1 (A.length + j) (o1 (A.length + ((S.take j).filter f).length))) (A.length + ((S.take j).filter f).length) (nI (S.getD j 0)))))] := hD
          refine lv_iinc (v := nI (A.length + ((S.take j).filter f).length + 1)) (lv' := [(5, .int (nI (A.length + ((S.take j).filter f).length + 1))), (7, .int (nI (S.getD j 0))), (0, .ref t), (2, .int (nI (A.length + S.length))), (3, .int (nI m)), (4, .int (nI wt)), (6, .int (nI (A.length + j)))]) hx hb dX4_gather_61 hl (k := 5) rfl (by rw [show Int32.ofInt 1 = nI 1 from by decide]; exact nI_add _ _) (by decide) rfl (fun ls hl => ?_)
          refine lv_iinc (v := nI (A.length + j + 1)) (lv' := [(6, .int (nI (A.length + j + 1))), (5, .int (nI (A.length + ((S.take j).filter f).length + 1))), (7, .int (nI (S.getD j 0))), (0, .ref t), (2, .int (nI (A.length + S.length))), (3, .int (nI m)), (4, .int (nI wt))]) hx hb dX4_gather_64 hl (k := 6) rfl (by rw [show Int32.ofInt 1 = nI 1 from by decide]; exact nI_add _ _) (by decide) rfl (fun ls hl => ?_)
          refine lv_goto (tgt := 6) hx hb dX4_gather_67 (by decide) ?_
          have hl : lv_has ls 8 [(6, .int (nI (A.length + j + 1))), (5, .int (nI (A.length + ((S.take (j + 1)).filter f).length))), (7, .int (nI (S.getD j 0))), (0, .ref t), (2, .int (nI (A.length + S.length))), (3, .int (nI m)), (4, .int (nI wt))] := by
            have hl := hl
            rw [show ((S.take (j + 1)).filter f).length = ((S.take j).filter f).length + 1 from by rw [hfi]; simp]
            exact hl
          exact ih6 (j + 1) (upd (upd o1 (A.length + j) (o1 (A.length + ((S.take j).filter f).length))) (A.length + ((S.take j).filter f).length) (nI (S.getD j 0))) O2 (by omega) (by rw [hfi]; exact ho2) (by rw [hfo]; exact hO2.trans hO) (by rw [hfi, hO2.length_eq]; simp; omega) (by omega) _ _ hP hD hS ls (lv_sub hl [3, 4, 5, 6, 1, 0] rfl)
  exact loop_6 _ 0 o ([] : List Nat) (by omega) (by simpa using ho) (by simp) (by simp) (Nat.lt_succ_self _) _ _ hP hD hS ls (lv_sub hl [2, 4, 5, 6, 1, 0] rfl)
