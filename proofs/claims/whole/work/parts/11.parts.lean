/-! statics, Changes, Disk: contracts, laid by program (wip/gen/spec_cls.py) -/
set_option maxHeartbeats 4000000 in
set_option maxRecDepth 100000 in
theorem c_X5_xOf (l : Launch) (X : kX) (key : Nat) (hk : key < 2 ^ 30) : CRi l X yX5_xOf wsX5_xOf 0 [.int (nI key)] [] (fun r => r = nI (key / 32768)) := by
  refine Met.ofW (cc := cX5_xOf) (maxL := 1) (ret := some (.int)) (by decide) rfl ?_
  intro pz ez sz mz args below meth cz s₁ Bz hml hv
  obtain ⟨rfl, hP, hK, hD0, hN⟩ := hv
  have hx := Bz.exec
  have hb := Bz.bytes
  have hr := Bz.returns
  have hts := atoms_spec (ws := wsX5_xOf) Bz.pre
  have hown : sz.vm.findClass RX5 = some mz.cls := findClass_of_methodNamed Bz.named
  have hlocks := Bz.notSynchronized
  have hD := inW.self hD0
  have hS : va_S (inW []) sz.heap sz.heap [] := va_S.rf
  have hl := lv_entry ([.int (nI key)]) (n := 1) (Nat.le_of_ble_eq_true rfl)
  rw [lg_entry_eq]
  generalize (lg_sl ([.int (nI key)]) ++ List.replicate (1 - (lg_sl ([.int (nI key)])).length) Slot.unset).toArray = ls at hl ⊢
  have hl : lv_has ls 1 [(0, .int (nI key))] := hl
  refine wQ (fun Q hQ => ?_)
  generalize hAe : inW [] = A_ at hD hS
  refine lv_iload_n hx hb dX5_xOf_0 rfl (lv_at hl 0 rfl) ?_
  refine lv_bipush (v := nI 15) hx hb dX5_xOf_1 (by decide) ?_
  refine lv_ishr hx hb dX5_xOf_3 ?_
  refine lv_topi (fun x_1 ex_1 => ?_)
  obtain rfl : x_1 = nI (key / 32768) := by
    rw [ex_1]
    exact pk_shrN (by omega) _ 15 (by decide)
  refine wM hQ ?_
  exact rtRI hx hb hr hlocks (rfl) dX5_xOf_4
set_option maxHeartbeats 4000000 in
set_option maxRecDepth 100000 in
theorem c_X5_yOf (l : Launch) (X : kX) (key : Nat) (hk : key < 2 ^ 30) : CRi l X yX5_yOf wsX5_yOf 0 [.int (nI key)] [] (fun r => r = nI (key % 32768)) := by
  refine Met.ofW (cc := cX5_yOf) (maxL := 1) (ret := some (.int)) (by decide) rfl ?_
  intro pz ez sz mz args below meth cz s₁ Bz hml hv
  obtain ⟨rfl, hP, hK, hD0, hN⟩ := hv
  have hx := Bz.exec
  have hb := Bz.bytes
  have hr := Bz.returns
  have hts := atoms_spec (ws := wsX5_yOf) Bz.pre
  have hown : sz.vm.findClass RX5 = some mz.cls := findClass_of_methodNamed Bz.named
  have hlocks := Bz.notSynchronized
  have hD := inW.self hD0
  have hS : va_S (inW []) sz.heap sz.heap [] := va_S.rf
  have hl := lv_entry ([.int (nI key)]) (n := 1) (Nat.le_of_ble_eq_true rfl)
  rw [lg_entry_eq]
  generalize (lg_sl ([.int (nI key)]) ++ List.replicate (1 - (lg_sl ([.int (nI key)])).length) Slot.unset).toArray = ls at hl ⊢
  have hl : lv_has ls 1 [(0, .int (nI key))] := hl
  refine wQ (fun Q hQ => ?_)
  generalize hAe : inW [] = A_ at hD hS
  refine lv_iload_n hx hb dX5_yOf_0 rfl (lv_at hl 0 rfl) ?_
  refine lv_sipush (v := nI 32767) hx hb dX5_yOf_1 (by decide) ?_
  refine lv_iand hx hb dX5_yOf_4 ?_
  refine lv_topi (fun x_1 ex_1 => ?_)
  obtain rfl : x_1 = nI (key % 32768) := by
    rw [ex_1]
    exact pk_andN (by omega) 15 (by decide)
  refine wM hQ ?_
  exact rtRI hx hb hr hlocks (rfl) dX5_yOf_5
set_option maxHeartbeats 4000000 in
set_option maxRecDepth 100000 in
theorem c_X5_keyOf (l : Launch) (X : kX) (x y : Nat) (hx0 : x < 32768) (hy0 : y < 32768) : CRi l X yX5_keyOf wsX5_keyOf 0 [.int (nI x), .int (nI y)] [] (fun r => r = nI (x * 32768 + y)) := by
  refine Met.ofW (cc := cX5_keyOf) (maxL := 2) (ret := some (.int)) (by decide) rfl ?_
  intro pz ez sz mz args below meth cz s₁ Bz hml hv
  obtain ⟨rfl, hP, hK, hD0, hN⟩ := hv
  have hx := Bz.exec
  have hb := Bz.bytes
  have hr := Bz.returns
  have hts := atoms_spec (ws := wsX5_keyOf) Bz.pre
  have hown : sz.vm.findClass RX5 = some mz.cls := findClass_of_methodNamed Bz.named
  have hlocks := Bz.notSynchronized
  have hD := inW.self hD0
  have hS : va_S (inW []) sz.heap sz.heap [] := va_S.rf
  have hl := lv_entry ([.int (nI x), .int (nI y)]) (n := 2) (Nat.le_of_ble_eq_true rfl)
  rw [lg_entry_eq]
  generalize (lg_sl ([.int (nI x), .int (nI y)]) ++ List.replicate (2 - (lg_sl ([.int (nI x), .int (nI y)])).length) Slot.unset).toArray = ls at hl ⊢
  have hl : lv_has ls 2 [(0, .int (nI x)), (1, .int (nI y))] := hl
  refine wQ (fun Q hQ => ?_)
  generalize hAe : inW [] = A_ at hD hS
  refine lv_iload_n hx hb dX5_keyOf_0 rfl (lv_at hl 0 rfl) ?_
  refine lv_bipush (v := nI 15) hx hb dX5_keyOf_1 (by decide) ?_
  refine lv_ishl hx hb dX5_keyOf_3 ?_
  refine lv_iload_n hx hb dX5_keyOf_4 rfl (lv_at hl 1 rfl) ?_
  refine lv_ior hx hb dX5_keyOf_5 ?_
  refine lv_topi (fun x_1 ex_1 => ?_)
  obtain rfl : x_1 = nI (x * 32768 + y) := by
    rw [ex_1]
    exact bI_key hx0 hy0
  refine wM hQ ?_
  exact rtRI hx hb hr hlocks (rfl) dX5_keyOf_6
set_option maxHeartbeats 4000000 in
set_option maxRecDepth 100000 in
theorem c_X5_isWithin (l : Launch) (X : kX) (key : Nat) (x0 y0 x1 y1 : Int32) (hk : key < 2 ^ 30) : CRi l X yX5_isWithin wsX5_isWithin 1 [.int (nI key), .int x0, .int y0, .int x1, .int y1] [] (fun r => (win key x0 y0 x1 y1 ∧ r = nI 1) ∨ (¬ win key x0 y0 x1 y1 ∧ r = nI 0)) := by
  refine Met.ofW (cc := cX5_isWithin) (maxL := 7) (ret := some (.boolean)) (by decide) rfl ?_
  intro pz ez sz mz args below meth cz s₁ Bz hml hv
  obtain ⟨rfl, hP, hK, hD0, hN⟩ := hv
  have hx := Bz.exec
  have hb := Bz.bytes
  have hr := Bz.returns
  have hts := atoms_spec (ws := wsX5_isWithin) Bz.pre
  have hown : sz.vm.findClass RX5 = some mz.cls := findClass_of_methodNamed Bz.named
  have hlocks := Bz.notSynchronized
  have hD := inW.self hD0
  have hS : va_S (inW []) sz.heap sz.heap [] := va_S.rf
  have hl := lv_entry ([.int (nI key), .int x0, .int y0, .int x1, .int y1]) (n := 7) (Nat.le_of_ble_eq_true rfl)
  rw [lg_entry_eq]
  generalize (lg_sl ([.int (nI key), .int x0, .int y0, .int x1, .int y1]) ++ List.replicate (7 - (lg_sl ([.int (nI key), .int x0, .int y0, .int x1, .int y1])).length) Slot.unset).toArray = ls at hl ⊢
  have hl : lv_has ls 7 [(0, .int (nI key)), (1, .int x0), (2, .int y0), (3, .int x1), (4, .int y1)] := hl
  refine wQ (fun Q hQ => ?_)
  generalize hAe : inW [] = A_ at hD hS
  refine lv_iload_n hx hb dX5_isWithin_0 rfl (lv_at hl 0 rfl) ?_
  refine ckSRi (As := [.int (nI key)]) (rest := []) [] (c_X5_xOf l X key hk) ⟨hx, hb, hml, hown, hts⟩ (va_cwS 1 hts gX5_isWithin_X5_xOf rfl rfl rfl (by decide +kernel) ⟨Nat.le_of_ble_eq_true rfl, Nat.le_of_ble_eq_true rfl⟩) hK hN hP hD (by decide) rfl rfl hl.1 rfl (Nat.le_of_ble_eq_true rfl) dX5_isWithin_1 ⟨Nat.zero_le _, Nat.zero_le _⟩ (fun r_1 hc_1 => ?_)
  subst hc_1
  refine lv_istore (lv' := [(5, .int (nI (key / 32768))), (0, .int (nI key)), (1, .int x0), (2, .int y0), (3, .int x1), (4, .int y1)]) hx hb dX5_isWithin_4 hl (by decide) rfl (fun ls hl => ?_)
  refine lv_iload_n hx hb dX5_isWithin_6 rfl (lv_at hl 1 rfl) ?_
  refine ckSRi (As := [.int (nI key)]) (rest := []) [] (c_X5_yOf l X key hk) ⟨hx, hb, hml, hown, hts⟩ (va_cwS 1 hts gX5_isWithin_X5_yOf rfl rfl rfl (by decide +kernel) ⟨Nat.le_of_ble_eq_true rfl, Nat.le_of_ble_eq_true rfl⟩) hK hN hP hD (by decide) rfl rfl hl.1 rfl (Nat.le_of_ble_eq_true rfl) dX5_isWithin_7 ⟨Nat.zero_le _, Nat.zero_le _⟩ (fun r_2 hc_7 => ?_)
  subst hc_7
  refine lv_istore (lv' := [(6, .int (nI (key % 32768))), (5, .int (nI (key / 32768))), (0, .int (nI key)), (1, .int x0), (2, .int y0), (3, .int x1), (4, .int y1)]) hx hb dX5_isWithin_10 hl (by decide) rfl (fun ls hl => ?_)
  refine lv_iload_n hx hb dX5_isWithin_12 rfl (lv_at hl 3 rfl) ?_
  refine lv_iload hx hb dX5_isWithin_13 (lv_at hl 1 rfl) ?_
  refine lv_icmp_gt (tgt := 41) hx hb dX5_isWithin_15 (by decide) (fun c_15 => ?_) (fun c_15 => ?_)
  · skip
    refine lv_iconst (v := nI 0) hx hb dX5_isWithin_41 (by decide) ?_
    refine wM hQ ?_
    exact rtRZ hx hb hr hlocks (by decide) (Or.inr ⟨fun z => by first | exact z.1 c_15 | exact z.2.1 c_21 | exact z.2.2.1 c_27 | exact z.2.2.2 c_34, rfl⟩) dX5_isWithin_42
  · skip
    refine lv_iload hx hb dX5_isWithin_18 (lv_at hl 1 rfl) ?_
    refine lv_iload_n hx hb dX5_isWithin_20 rfl (lv_at hl 5 rfl) ?_
    refine lv_icmp_gt (tgt := 41) hx hb dX5_isWithin_21 (by decide) (fun c_21 => ?_) (fun c_21 => ?_)
    · skip
      refine lv_iconst (v := nI 0) hx hb dX5_isWithin_41 (by decide) ?_
      refine wM hQ ?_
      exact rtRZ hx hb hr hlocks (by decide) (Or.inr ⟨fun z => by first | exact z.1 c_15 | exact z.2.1 c_21 | exact z.2.2.1 c_27 | exact z.2.2.2 c_34, rfl⟩) dX5_isWithin_42
    · skip
      refine lv_iload_n hx hb dX5_isWithin_24 rfl (lv_at hl 4 rfl) ?_
      refine lv_iload hx hb dX5_isWithin_25 (lv_at hl 0 rfl) ?_
      refine lv_icmp_gt (tgt := 41) hx hb dX5_isWithin_27 (by decide) (fun c_27 => ?_) (fun c_27 => ?_)
      · skip
        refine lv_iconst (v := nI 0) hx hb dX5_isWithin_41 (by decide) ?_
        refine wM hQ ?_
        exact rtRZ hx hb hr hlocks (by decide) (Or.inr ⟨fun z => by first | exact z.1 c_15 | exact z.2.1 c_21 | exact z.2.2.1 c_27 | exact z.2.2.2 c_34, rfl⟩) dX5_isWithin_42
      · skip
        refine lv_iload hx hb dX5_isWithin_30 (lv_at hl 0 rfl) ?_
        refine lv_iload hx hb dX5_isWithin_32 (lv_at hl 6 rfl) ?_
        refine lv_icmp_gt (tgt := 41) hx hb dX5_isWithin_34 (by decide) (fun c_34 => ?_) (fun c_34 => ?_)
        · skip
          refine lv_iconst (v := nI 0) hx hb dX5_isWithin_41 (by decide) ?_
          refine wM hQ ?_
          exact rtRZ hx hb hr hlocks (by decide) (Or.inr ⟨fun z => by first | exact z.1 c_15 | exact z.2.1 c_21 | exact z.2.2.1 c_27 | exact z.2.2.2 c_34, rfl⟩) dX5_isWithin_42
        · skip
          refine lv_iconst (v := nI 1) hx hb dX5_isWithin_37 (by decide) ?_
          refine lv_goto (tgt := 42) hx hb dX5_isWithin_38 (by decide) ?_
          refine wM hQ ?_
          exact rtRZ hx hb hr hlocks (by decide) (Or.inl ⟨⟨c_15, c_21, c_27, c_34⟩, rfl⟩) dX5_isWithin_42
set_option maxHeartbeats 4000000 in
set_option maxRecDepth 100000 in
theorem c_X5_distance (l : Launch) (X : kX) (key : Nat) (x y : Int32) (hk : key < 2 ^ 30) : CRl l X yX5_distance wsX5_distance 1 [.int (nI key), .int x, .int y] [] (fun r => r = dst key x y) := by
  refine Met.ofW (cc := cX5_distance) (maxL := 7) (ret := some (.long)) (by decide) rfl ?_
  intro pz ez sz mz args below meth cz s₁ Bz hml hv
  obtain ⟨rfl, hP, hK, hD0, hN⟩ := hv
  have hx := Bz.exec
  have hb := Bz.bytes
  have hr := Bz.returns
  have hts := atoms_spec (ws := wsX5_distance) Bz.pre
  have hown : sz.vm.findClass RX5 = some mz.cls := findClass_of_methodNamed Bz.named
  have hlocks := Bz.notSynchronized
  have hD := inW.self hD0
  have hS : va_S (inW []) sz.heap sz.heap [] := va_S.rf
  have hl := lv_entry ([.int (nI key), .int x, .int y]) (n := 7) (Nat.le_of_ble_eq_true rfl)
  rw [lg_entry_eq]
  generalize (lg_sl ([.int (nI key), .int x, .int y]) ++ List.replicate (7 - (lg_sl ([.int (nI key), .int x, .int y])).length) Slot.unset).toArray = ls at hl ⊢
  have hl : lv_has ls 7 [(0, .int (nI key)), (1, .int x), (2, .int y)] := hl
  refine wQ (fun Q hQ => ?_)
  generalize hAe : inW [] = A_ at hD hS
  refine lv_iload_n hx hb dX5_distance_0 rfl (lv_at hl 0 rfl) ?_
  refine ckSRi (As := [.int (nI key)]) (rest := []) [] (c_X5_xOf l X key hk) ⟨hx, hb, hml, hown, hts⟩ (va_cwS 1 hts gX5_distance_X5_xOf rfl rfl rfl (by decide +kernel) ⟨Nat.le_of_ble_eq_true rfl, Nat.le_of_ble_eq_true rfl⟩) hK hN hP hD (by decide) rfl rfl hl.1 rfl (Nat.le_of_ble_eq_true rfl) dX5_distance_1 ⟨Nat.zero_le _, Nat.zero_le _⟩ (fun r_1 hc_1 => ?_)
  subst hc_1
  refine lv_iload_n hx hb dX5_distance_4 rfl (lv_at hl 1 rfl) ?_
  refine lv_isub hx hb dX5_distance_5 ?_
  refine lv_i2l (v := ((nI (key / 32768)) - x).toInt64) hx hb dX5_distance_6 rfl ?_
  refine lv_lstore_n (lv' := [(3, .long (((nI (key / 32768)) - x).toInt64)), (0, .int (nI key)), (1, .int x), (2, .int y)]) hx hb dX5_distance_7 rfl hl (by decide) rfl (fun ls hl => ?_)
  refine lv_iload_n hx hb dX5_distance_8 rfl (lv_at hl 1 rfl) ?_
  refine ckSRi (As := [.int (nI key)]) (rest := []) [] (c_X5_yOf l X key hk) ⟨hx, hb, hml, hown, hts⟩ (va_cwS 1 hts gX5_distance_X5_yOf rfl rfl rfl (by decide +kernel) ⟨Nat.le_of_ble_eq_true rfl, Nat.le_of_ble_eq_true rfl⟩) hK hN hP hD (by decide) rfl rfl hl.1 rfl (Nat.le_of_ble_eq_true rfl) dX5_distance_9 ⟨Nat.zero_le _, Nat.zero_le _⟩ (fun r_2 hc_9 => ?_)
  subst hc_9
  refine lv_iload_n hx hb dX5_distance_12 rfl (lv_at hl 3 rfl) ?_
  refine lv_isub hx hb dX5_distance_13 ?_
  refine lv_i2l (v := ((nI (key % 32768)) - y).toInt64) hx hb dX5_distance_14 rfl ?_
  refine lv_lstore (lv' := [(5, .long (((nI (key % 32768)) - y).toInt64)), (3, .long (((nI (key / 32768)) - x).toInt64)), (0, .int (nI key)), (1, .int x), (2, .int y)]) hx hb dX5_distance_15 hl (by decide) rfl (fun ls hl => ?_)
  refine lv_lload_n hx hb dX5_distance_17 rfl (lv_at hl 1 rfl) ?_
  refine lv_lload_n hx hb dX5_distance_18 rfl (lv_at hl 1 rfl) ?_
  refine lv_lmul hx hb dX5_distance_19 ?_
  refine lv_lload hx hb dX5_distance_20 (lv_at hl 0 rfl) ?_
  refine lv_lload hx hb dX5_distance_22 (lv_at hl 0 rfl) ?_
  refine lv_lmul hx hb dX5_distance_24 ?_
  refine lv_ladd hx hb dX5_distance_25 ?_
  refine wM hQ ?_
  exact rtRL hx hb hr hlocks (rfl) dX5_distance_26
set_option maxHeartbeats 4000000 in
set_option maxRecDepth 100000 in
theorem c_X5_isPlace (l : Launch) (X : kX) (x : Int32) : CRi l X yX5_isPlace wsX5_isPlace 0 [.int x] [] (fun r => (plc x ∧ r = nI 1) ∨ (¬ plc x ∧ r = nI 0)) := by
  refine Met.ofW (cc := cX5_isPlace) (maxL := 1) (ret := some (.boolean)) (by decide) rfl ?_
  intro pz ez sz mz args below meth cz s₁ Bz hml hv
  obtain ⟨rfl, hP, hK, hD0, hN⟩ := hv
  have hx := Bz.exec
  have hb := Bz.bytes
  have hr := Bz.returns
  have hts := atoms_spec (ws := wsX5_isPlace) Bz.pre
  have hown : sz.vm.findClass RX5 = some mz.cls := findClass_of_methodNamed Bz.named
  have hlocks := Bz.notSynchronized
  have hD := inW.self hD0
  have hS : va_S (inW []) sz.heap sz.heap [] := va_S.rf
  have hl := lv_entry ([.int x]) (n := 1) (Nat.le_of_ble_eq_true rfl)
  rw [lg_entry_eq]
  generalize (lg_sl ([.int x]) ++ List.replicate (1 - (lg_sl ([.int x])).length) Slot.unset).toArray = ls at hl ⊢
  have hl : lv_has ls 1 [(0, .int x)] := hl
  refine wQ (fun Q hQ => ?_)
  generalize hAe : inW [] = A_ at hD hS
  refine lv_iload_n hx hb dX5_isPlace_0 rfl (lv_at hl 0 rfl) ?_
  refine lv_if_lt (tgt := 14) hx hb dX5_isPlace_1 (by decide) (fun c_1 => ?_) (fun c_1 => ?_)
  · skip
    refine lv_iconst (v := nI 0) hx hb dX5_isPlace_14 (by decide) ?_
    refine wM hQ ?_
    exact rtRZ hx hb hr hlocks (by decide) (Or.inr ⟨fun z => by first | exact z.1 c_1 | exact z.2 c_7, rfl⟩) dX5_isPlace_15
  · skip
    refine lv_iload_n hx hb dX5_isPlace_4 rfl (lv_at hl 0 rfl) ?_
    refine lv_ldc (v := 65535) hx hb hown (hts (.constant RX5 205 (65535)) (by decide +kernel)) dX5_isPlace_5 ?_
    refine lv_topi (fun x_1 ex_1 => ?_)
    obtain rfl : x_1 = nI 65535 := by
      rw [ex_1]
      rfl
    refine lv_icmp_gt (tgt := 14) hx hb dX5_isPlace_7 (by decide) (fun c_7 => ?_) (fun c_7 => ?_)
    · skip
      refine lv_iconst (v := nI 0) hx hb dX5_isPlace_14 (by decide) ?_
      refine wM hQ ?_
      exact rtRZ hx hb hr hlocks (by decide) (Or.inr ⟨fun z => by first | exact z.1 c_1 | exact z.2 c_7, rfl⟩) dX5_isPlace_15
    · skip
      refine lv_iconst (v := nI 1) hx hb dX5_isPlace_10 (by decide) ?_
      refine lv_goto (tgt := 15) hx hb dX5_isPlace_11 (by decide) ?_
      refine wM hQ ?_
      exact rtRZ hx hb hr hlocks (by decide) (Or.inl ⟨⟨c_1, c_7⟩, rfl⟩) dX5_isPlace_15
set_option maxHeartbeats 4000000 in
set_option maxRecDepth 100000 in
theorem c_X5_fromOneTo (l : Launch) (X : kX) (mo ow : Nat) (a : Int32) : CRi l X yX5_fromOneTo wsX5_fromOneTo 0 [.int (nI mo), .int a, .int (nI ow)] [] (fun r => r = fot mo a ow) := by
  refine Met.ofW (cc := cX5_fromOneTo) (maxL := 3) (ret := some (.int)) (by decide) rfl ?_
  intro pz ez sz mz args below meth cz s₁ Bz hml hv
  obtain ⟨rfl, hP, hK, hD0, hN⟩ := hv
  have hx := Bz.exec
  have hb := Bz.bytes
  have hr := Bz.returns
  have hts := atoms_spec (ws := wsX5_fromOneTo) Bz.pre
  have hown : sz.vm.findClass RX5 = some mz.cls := findClass_of_methodNamed Bz.named
  have hlocks := Bz.notSynchronized
  have hD := inW.self hD0
  have hS : va_S (inW []) sz.heap sz.heap [] := va_S.rf
  have hl := lv_entry ([.int (nI mo), .int a, .int (nI ow)]) (n := 3) (Nat.le_of_ble_eq_true rfl)
  rw [lg_entry_eq]
  generalize (lg_sl ([.int (nI mo), .int a, .int (nI ow)]) ++ List.replicate (3 - (lg_sl ([.int (nI mo), .int a, .int (nI ow)])).length) Slot.unset).toArray = ls at hl ⊢
  have hl : lv_has ls 3 [(0, .int (nI mo)), (1, .int a), (2, .int (nI ow))] := hl
  refine wQ (fun Q hQ => ?_)
  generalize hAe : inW [] = A_ at hD hS
  refine lv_iload_n hx hb dX5_fromOneTo_0 rfl (lv_at hl 1 rfl) ?_
  refine lv_iconst (v := nI 1) hx hb dX5_fromOneTo_1 (by decide) ?_
  refine lv_icmp_lt (tgt := 14) hx hb dX5_fromOneTo_2 (by decide) (fun c_2 => ?_) (fun c_2 => ?_)
  · skip
    refine lv_iload_n hx hb dX5_fromOneTo_14 rfl (lv_at hl 2 rfl) ?_
    refine wM hQ ?_
    exact rtRI hx hb hr hlocks ((by show _ = _; unfold fot; first | exact (if_pos ⟨c_2, c_7⟩).symm | exact (if_neg (fun z => by first | exact z.1 c_2 | exact z.2 c_7)).symm)) dX5_fromOneTo_15
  · skip
    refine lv_iload_n hx hb dX5_fromOneTo_5 rfl (lv_at hl 1 rfl) ?_
    refine lv_iload_n hx hb dX5_fromOneTo_6 rfl (lv_at hl 0 rfl) ?_
    refine lv_icmp_gt (tgt := 14) hx hb dX5_fromOneTo_7 (by decide) (fun c_7 => ?_) (fun c_7 => ?_)
    · skip
      refine lv_iload_n hx hb dX5_fromOneTo_14 rfl (lv_at hl 2 rfl) ?_
      refine wM hQ ?_
      exact rtRI hx hb hr hlocks ((by show _ = _; unfold fot; first | exact (if_pos ⟨c_2, c_7⟩).symm | exact (if_neg (fun z => by first | exact z.1 c_2 | exact z.2 c_7)).symm)) dX5_fromOneTo_15
    · skip
      refine lv_iload_n hx hb dX5_fromOneTo_10 rfl (lv_at hl 1 rfl) ?_
      refine lv_goto (tgt := 15) hx hb dX5_fromOneTo_11 (by decide) ?_
      refine wM hQ ?_
      exact rtRI hx hb hr hlocks ((by show _ = _; unfold fot; first | exact (if_pos ⟨c_2, c_7⟩).symm | exact (if_neg (fun z => by first | exact z.1 c_2 | exact z.2 c_7)).symm)) dX5_fromOneTo_15
set_option maxHeartbeats 4000000 in
set_option maxRecDepth 100000 in
theorem c_X5_isOnPlane (l : Launch) (X : kX) (a d p t t2 ch rs sp : Nat) (f_bl f_bk f_pw f_ct f_cp : Int32) (x y : Int32) : CRi l X yX5_isOnPlane wsX5_isOnPlane 0 [.ref a, .int x, .int y] [(a, .inr (5, [.int f_bl, .int f_bk, .int (nI sp), .ref d, .ref p, .ref t, .ref t2, .ref ch, .ref rs, .int f_pw, .int f_ct, .int f_cp]))] (fun r => (onp x y sp ∧ r = nI 1) ∨ (¬ onp x y sp ∧ r = nI 0)) := by
  refine Met.ofW (cc := cX5_isOnPlane) (maxL := 3) (ret := some (.boolean)) (by decide) rfl ?_
  intro pz ez sz mz args below meth cz s₁ Bz hml hv
  obtain ⟨rfl, hP, hK, hD0, hN⟩ := hv
  have hx := Bz.exec
  have hb := Bz.bytes
  have hr := Bz.returns
  have hts := atoms_spec (ws := wsX5_isOnPlane) Bz.pre
  have hown : sz.vm.findClass RX5 = some mz.cls := findClass_of_methodNamed Bz.named
  have hlocks := Bz.notSynchronized
  have hD := inW.self hD0
  have hS : va_S (inW [(a, .inr (5, [.int f_bl, .int f_bk, .int (nI sp), .ref d, .ref p, .ref t, .ref t2, .ref ch, .ref rs, .int f_pw, .int f_ct, .int f_cp]))]) sz.heap sz.heap [] := va_S.rf
  have hl := lv_entry ([.ref a, .int x, .int y]) (n := 3) (Nat.le_of_ble_eq_true rfl)
  rw [lg_entry_eq]
  generalize (lg_sl ([.ref a, .int x, .int y]) ++ List.replicate (3 - (lg_sl ([.ref a, .int x, .int y])).length) Slot.unset).toArray = ls at hl ⊢
  have hl : lv_has ls 3 [(0, .ref a), (1, .int x), (2, .int y)] := hl
  have lk23 := hts (.fieldLink RX5 23 "PointStore" "span" "I") (by decide +kernel)
  have hin5 : ∀ w ∈ u_ws RX5 TX5 12, w ∈ wsX5_isOnPlane := by decide +kernel
  refine wQ (fun Q hQ => ?_)
  generalize hAe : inW [(a, .inr (5, [.int f_bl, .int f_bk, .int (nI sp), .ref d, .ref p, .ref t, .ref t2, .ref ch, .ref rs, .int f_pw, .int f_ct, .int f_cp]))] = A_ at hD hS
  refine lv_iload_n hx hb dX5_isOnPlane_0 rfl (lv_at hl 1 rfl) ?_
  refine lv_if_lt (tgt := 28) hx hb dX5_isOnPlane_1 (by decide) (fun c_1 => ?_) (fun c_1 => ?_)
  · skip
    refine lv_iconst (v := nI 0) hx hb dX5_isOnPlane_28 (by decide) ?_
    refine wM hQ ?_
    exact rtRZ hx hb hr hlocks (by decide) (Or.inr ⟨fun z => by first | exact z.1 c_1 | exact z.2.1 c_9 | exact z.2.2.1 c_13 | exact z.2.2.2 c_21, rfl⟩) dX5_isOnPlane_29
  · skip
    refine lv_iload_n hx hb dX5_isOnPlane_4 rfl (lv_at hl 1 rfl) ?_
    refine lv_aload_n hx hb dX5_isOnPlane_5 rfl (lv_at hl 0 rfl) ?_
    refine va_get (D := X.1) (ci := 5) (v := .int (nI sp)) (C := RX5) (T := TX5) (N := 12) hx hb hts hin5 hown hK hP 0 rfl rfl 2 (by decide) lk23 (fun _ h9 => h9) rfl dX5_isOnPlane_6 ?_
    refine lv_icmp_ge (tgt := 28) hx hb dX5_isOnPlane_9 (by decide) (fun c_9 => ?_) (fun c_9 => ?_)
    · skip
      refine lv_iconst (v := nI 0) hx hb dX5_isOnPlane_28 (by decide) ?_
      refine wM hQ ?_
      exact rtRZ hx hb hr hlocks (by decide) (Or.inr ⟨fun z => by first | exact z.1 c_1 | exact z.2.1 c_9 | exact z.2.2.1 c_13 | exact z.2.2.2 c_21, rfl⟩) dX5_isOnPlane_29
    · skip
      refine lv_iload_n hx hb dX5_isOnPlane_12 rfl (lv_at hl 2 rfl) ?_
      refine lv_if_lt (tgt := 28) hx hb dX5_isOnPlane_13 (by decide) (fun c_13 => ?_) (fun c_13 => ?_)
      · skip
        refine lv_iconst (v := nI 0) hx hb dX5_isOnPlane_28 (by decide) ?_
        refine wM hQ ?_
        exact rtRZ hx hb hr hlocks (by decide) (Or.inr ⟨fun z => by first | exact z.1 c_1 | exact z.2.1 c_9 | exact z.2.2.1 c_13 | exact z.2.2.2 c_21, rfl⟩) dX5_isOnPlane_29
      · skip
        refine lv_iload_n hx hb dX5_isOnPlane_16 rfl (lv_at hl 2 rfl) ?_
        refine lv_aload_n hx hb dX5_isOnPlane_17 rfl (lv_at hl 0 rfl) ?_
        refine va_get (D := X.1) (ci := 5) (v := .int (nI sp)) (C := RX5) (T := TX5) (N := 12) hx hb hts hin5 hown hK hP 0 rfl rfl 2 (by decide) lk23 (fun _ h9 => h9) rfl dX5_isOnPlane_18 ?_
        refine lv_icmp_ge (tgt := 28) hx hb dX5_isOnPlane_21 (by decide) (fun c_21 => ?_) (fun c_21 => ?_)
        · skip
          refine lv_iconst (v := nI 0) hx hb dX5_isOnPlane_28 (by decide) ?_
          refine wM hQ ?_
          exact rtRZ hx hb hr hlocks (by decide) (Or.inr ⟨fun z => by first | exact z.1 c_1 | exact z.2.1 c_9 | exact z.2.2.1 c_13 | exact z.2.2.2 c_21, rfl⟩) dX5_isOnPlane_29
        · skip
          refine lv_iconst (v := nI 1) hx hb dX5_isOnPlane_24 (by decide) ?_
          refine lv_goto (tgt := 29) hx hb dX5_isOnPlane_25 (by decide) ?_
          refine wM hQ ?_
          exact rtRZ hx hb hr hlocks (by decide) (Or.inl ⟨⟨c_1, c_9, c_13, c_21⟩, rfl⟩) dX5_isOnPlane_29
set_option maxHeartbeats 4000000 in
set_option maxRecDepth 100000 in
theorem c_X5_pointsOf (l : Launch) (X : kX) (a d p t t2 ch rs sp : Nat) (f_bl f_bk f_pw f_ct f_cp : Int32) (h lk lv se : Nat) (x : Int32) : CRq l X yX5_pointsOf wsX5_pointsOf 0 [.ref a, .int x] [(a, .inr (5, [.int f_bl, .int f_bk, .int (nI sp), .ref d, .ref p, .ref t, .ref t2, .ref ch, .ref rs, .int f_pw, .int f_ct, .int f_cp])), (d, .inr (1, [.ref h, .ref lk, .ref lv, .int (nI se)]))] (fun r => r = if x = 0 then some p else if x = nI 1 then some h else none) := by
  refine Met.ofW (cc := cX5_pointsOf) (maxL := 2) (ret := some ((.object "PointStore$Points"))) (by decide) rfl ?_
  intro pz ez sz mz args below meth cz s₁ Bz hml hv
  obtain ⟨rfl, hP, hK, hD0, hN⟩ := hv
  have hx := Bz.exec
  have hb := Bz.bytes
  have hr := Bz.returns
  have hts := atoms_spec (ws := wsX5_pointsOf) Bz.pre
  have hown : sz.vm.findClass RX5 = some mz.cls := findClass_of_methodNamed Bz.named
  have hlocks := Bz.notSynchronized
  have hD := inW.self hD0
  have hS : va_S (inW [(a, .inr (5, [.int f_bl, .int f_bk, .int (nI sp), .ref d, .ref p, .ref t, .ref t2, .ref ch, .ref rs, .int f_pw, .int f_ct, .int f_cp])), (d, .inr (1, [.ref h, .ref lk, .ref lv, .int (nI se)]))]) sz.heap sz.heap [] := va_S.rf
  have hl := lv_entry ([.ref a, .int x]) (n := 2) (Nat.le_of_ble_eq_true rfl)
  rw [lg_entry_eq]
  generalize (lg_sl ([.ref a, .int x]) ++ List.replicate (2 - (lg_sl ([.ref a, .int x])).length) Slot.unset).toArray = ls at hl ⊢
  have hl : lv_has ls 2 [(0, .ref a), (1, .int x)] := hl
  have lk31 := hts (.fieldLink RX5 31 "PointStore" "disk" "LPointStore$Disk;") (by decide +kernel)
  have lk35 := hts (.fieldLink RX5 35 "PointStore" "pending" "LPointStore$Points;") (by decide +kernel)
  have lk140 := hts (.fieldLink RX5 140 "PointStore$Disk" "home" "LPointStore$Points;") (by decide +kernel)
  have hin1 : ∀ w ∈ u_ws RX1 TX1 4, w ∈ wsX5_pointsOf := by decide +kernel
  have hin5 : ∀ w ∈ u_ws RX5 TX5 12, w ∈ wsX5_pointsOf := by decide +kernel
  refine wQ (fun Q hQ => ?_)
  generalize hAe : inW [(a, .inr (5, [.int f_bl, .int f_bk, .int (nI sp), .ref d, .ref p, .ref t, .ref t2, .ref ch, .ref rs, .int f_pw, .int f_ct, .int f_cp])), (d, .inr (1, [.ref h, .ref lk, .ref lv, .int (nI se)]))] = A_ at hD hS
  refine lv_iload_n hx hb dX5_pointsOf_0 rfl (lv_at hl 1 rfl) ?_
  refine lv_if_ne (tgt := 9) hx hb dX5_pointsOf_1 (by decide) (fun c_1 => ?_) (fun c_1 => ?_)
  · skip
    refine lv_iload_n hx hb dX5_pointsOf_9 rfl (lv_at hl 1 rfl) ?_
    refine lv_iconst (v := nI 1) hx hb dX5_pointsOf_10 (by decide) ?_
    refine lv_icmp_ne (tgt := 24) hx hb dX5_pointsOf_11 (by decide) (fun c_11 => ?_) (fun c_11 => ?_)
    · skip
      refine lv_null hx hb dX5_pointsOf_24 ?_
      refine wM hQ ?_
      exact rtRQ (v := none) rfl hx hb hr hlocks ((by show _ = _; first | rw [if_pos c_1] | rw [if_neg c_1, if_pos c_11] | rw [if_neg c_1, if_neg c_11])) dX5_pointsOf_25
    · skip
      refine lv_aload_n hx hb dX5_pointsOf_14 rfl (lv_at hl 0 rfl) ?_
      refine va_get (D := X.1) (ci := 5) (v := .ref d) (C := RX5) (T := TX5) (N := 12) hx hb hts hin5 hown hK hP 0 rfl rfl 3 (by decide) lk31 (fun _ h9 => h9) rfl dX5_pointsOf_15 ?_
      refine va_get (D := X.1) (ci := 1) (v := .ref h) (C := RX1) (T := TX1) (N := 4) hx hb hts hin1 hown hK hP 1 rfl rfl 0 (by decide) lk140 (fun _ h9 => h9) rfl dX5_pointsOf_18 ?_
      refine lv_goto (tgt := 25) hx hb dX5_pointsOf_21 (by decide) ?_
      refine wM hQ ?_
      exact rtRQ (v := some h) rfl hx hb hr hlocks ((by show _ = _; first | rw [if_pos c_1] | rw [if_neg c_1, if_pos c_11] | rw [if_neg c_1, if_neg c_11])) dX5_pointsOf_25
  · skip
    refine lv_aload_n hx hb dX5_pointsOf_4 rfl (lv_at hl 0 rfl) ?_
    refine va_get (D := X.1) (ci := 5) (v := .ref p) (C := RX5) (T := TX5) (N := 12) hx hb hts hin5 hown hK hP 0 rfl rfl 4 (by decide) lk35 (fun _ h9 => h9) rfl dX5_pointsOf_5 ?_
    refine wM hQ ?_
    exact rtRQ (v := some p) rfl hx hb hr hlocks ((by show _ = _; first | rw [if_pos c_1] | rw [if_neg c_1, if_pos c_11] | rw [if_neg c_1, if_neg c_11])) dX5_pointsOf_8
set_option maxHeartbeats 4000000 in
set_option maxRecDepth 100000 in
theorem c_X5_treeOf (l : Launch) (X : kX) (a d p t t2 ch rs sp : Nat) (f_bl f_bk f_pw f_ct f_cp : Int32) (x : Int32) : CRq l X yX5_treeOf wsX5_treeOf 0 [.ref a, .int x] [(a, .inr (5, [.int f_bl, .int f_bk, .int (nI sp), .ref d, .ref p, .ref t, .ref t2, .ref ch, .ref rs, .int f_pw, .int f_ct, .int f_cp]))] (fun r => r = if x = 0 then some t else if x = nI 1 then some t2 else none) := by
  refine Met.ofW (cc := cX5_treeOf) (maxL := 2) (ret := some ((.object "PointStore$Tree"))) (by decide) rfl ?_
  intro pz ez sz mz args below meth cz s₁ Bz hml hv
  obtain ⟨rfl, hP, hK, hD0, hN⟩ := hv
  have hx := Bz.exec
  have hb := Bz.bytes
  have hr := Bz.returns
  have hts := atoms_spec (ws := wsX5_treeOf) Bz.pre
  have hown : sz.vm.findClass RX5 = some mz.cls := findClass_of_methodNamed Bz.named
  have hlocks := Bz.notSynchronized
  have hD := inW.self hD0
  have hS : va_S (inW [(a, .inr (5, [.int f_bl, .int f_bk, .int (nI sp), .ref d, .ref p, .ref t, .ref t2, .ref ch, .ref rs, .int f_pw, .int f_ct, .int f_cp]))]) sz.heap sz.heap [] := va_S.rf
  have hl := lv_entry ([.ref a, .int x]) (n := 2) (Nat.le_of_ble_eq_true rfl)
  rw [lg_entry_eq]
  generalize (lg_sl ([.ref a, .int x]) ++ List.replicate (2 - (lg_sl ([.ref a, .int x])).length) Slot.unset).toArray = ls at hl ⊢
  have hl : lv_has ls 2 [(0, .ref a), (1, .int x)] := hl
  have lk44 := hts (.fieldLink RX5 44 "PointStore" "pendingTree" "LPointStore$Tree;") (by decide +kernel)
  have lk48 := hts (.fieldLink RX5 48 "PointStore" "committedTree" "LPointStore$Tree;") (by decide +kernel)
  have hin5 : ∀ w ∈ u_ws RX5 TX5 12, w ∈ wsX5_treeOf := by decide +kernel
  refine wQ (fun Q hQ => ?_)
  generalize hAe : inW [(a, .inr (5, [.int f_bl, .int f_bk, .int (nI sp), .ref d, .ref p, .ref t, .ref t2, .ref ch, .ref rs, .int f_pw, .int f_ct, .int f_cp]))] = A_ at hD hS
  refine lv_iload_n hx hb dX5_treeOf_0 rfl (lv_at hl 1 rfl) ?_
  refine lv_if_ne (tgt := 9) hx hb dX5_treeOf_1 (by decide) (fun c_1 => ?_) (fun c_1 => ?_)
  · skip
    refine lv_iload_n hx hb dX5_treeOf_9 rfl (lv_at hl 1 rfl) ?_
    refine lv_iconst (v := nI 1) hx hb dX5_treeOf_10 (by decide) ?_
    refine lv_icmp_ne (tgt := 21) hx hb dX5_treeOf_11 (by decide) (fun c_11 => ?_) (fun c_11 => ?_)
    · skip
      refine lv_null hx hb dX5_treeOf_21 ?_
      refine wM hQ ?_
      exact rtRQ (v := none) rfl hx hb hr hlocks ((by show _ = _; first | rw [if_pos c_1] | rw [if_neg c_1, if_pos c_11] | rw [if_neg c_1, if_neg c_11])) dX5_treeOf_22
    · skip
      refine lv_aload_n hx hb dX5_treeOf_14 rfl (lv_at hl 0 rfl) ?_
      refine va_get (D := X.1) (ci := 5) (v := .ref t2) (C := RX5) (T := TX5) (N := 12) hx hb hts hin5 hown hK hP 0 rfl rfl 6 (by decide) lk48 (fun _ h9 => h9) rfl dX5_treeOf_15 ?_
      refine lv_goto (tgt := 22) hx hb dX5_treeOf_18 (by decide) ?_
      refine wM hQ ?_
      exact rtRQ (v := some t2) rfl hx hb hr hlocks ((by show _ = _; first | rw [if_pos c_1] | rw [if_neg c_1, if_pos c_11] | rw [if_neg c_1, if_neg c_11])) dX5_treeOf_22
  · skip
    refine lv_aload_n hx hb dX5_treeOf_4 rfl (lv_at hl 0 rfl) ?_
    refine va_get (D := X.1) (ci := 5) (v := .ref t) (C := RX5) (T := TX5) (N := 12) hx hb hts hin5 hown hK hP 0 rfl rfl 5 (by decide) lk44 (fun _ h9 => h9) rfl dX5_treeOf_5 ?_
    refine wM hQ ?_
    exact rtRQ (v := some t) rfl hx hb hr hlocks ((by show _ = _; first | rw [if_pos c_1] | rw [if_neg c_1, if_pos c_11] | rw [if_neg c_1, if_neg c_11])) dX5_treeOf_8
set_option maxHeartbeats 4000000 in
set_option maxRecDepth 100000 in
theorem c_X0_isFull (l : Launch) (X : kX) (c k v n : Nat) (hn : n ≤ 60) : CRi l X yX0_isFull wsX0_isFull 0 [.ref c] [(c, .inr (0, [.ref k, .ref v, .int (nI n)]))] (fun r => ((60 ≤ n) ∧ r = nI 1) ∨ (¬ (60 ≤ n) ∧ r = nI 0)) := by
  refine Met.ofW (cc := cX0_isFull) (maxL := 1) (ret := some (.boolean)) (by decide) rfl ?_
  intro pz ez sz mz args below meth cz s₁ Bz hml hv
  obtain ⟨rfl, hP, hK, hD0, hN⟩ := hv
  have hx := Bz.exec
  have hb := Bz.bytes
  have hr := Bz.returns
  have hts := atoms_spec (ws := wsX0_isFull) Bz.pre
  have hown : sz.vm.findClass RX0 = some mz.cls := findClass_of_methodNamed Bz.named
  have hlocks := Bz.notSynchronized
  have hD := inW.self hD0
  have hS : va_S (inW [(c, .inr (0, [.ref k, .ref v, .int (nI n)]))]) sz.heap sz.heap [] := va_S.rf
  have hl := lv_entry ([.ref c]) (n := 1) (Nat.le_of_ble_eq_true rfl)
  rw [lg_entry_eq]
  generalize (lg_sl ([.ref c]) ++ List.replicate (1 - (lg_sl ([.ref c])).length) Slot.unset).toArray = ls at hl ⊢
  have hl : lv_has ls 1 [(0, .ref c)] := hl
  have lk18 := hts (.fieldLink RX0 18 "PointStore$Changes" "total" "I") (by decide +kernel)
  have hin0 : ∀ w ∈ u_ws RX0 TX0 3, w ∈ wsX0_isFull := by decide +kernel
  refine wQ (fun Q hQ => ?_)
  generalize hAe : inW [(c, .inr (0, [.ref k, .ref v, .int (nI n)]))] = A_ at hD hS
  refine lv_aload_n hx hb dX0_isFull_0 rfl (lv_at hl 0 rfl) ?_
  refine va_get (D := X.1) (ci := 0) (v := .int (nI n)) (C := RX0) (T := TX0) (N := 3) hx hb hts hin0 hown hK hP 0 rfl rfl 2 (by decide) lk18 (fun _ h9 => h9) rfl dX0_isFull_1 ?_
  refine lv_bipush (v := nI 60) hx hb dX0_isFull_4 (by decide) ?_
  refine lv_icmp_lt (tgt := 13) hx hb dX0_isFull_6 (by decide) (fun c_6 => ?_) (fun c_6 => ?_)
  · replace c_6 : n < 60 := (nI_ltI (by omega) (by omega)).mp c_6
    refine lv_iconst (v := nI 0) hx hb dX0_isFull_13 (by decide) ?_
    refine wM hQ ?_
    exact rtRZ hx hb hr hlocks (by decide) (Or.inr ⟨by omega, rfl⟩) dX0_isFull_14
  · replace c_6 : ¬ n < 60 := fun h9 => c_6 ((nI_ltI (by omega) (by omega)).mpr h9)
    refine lv_iconst (v := nI 1) hx hb dX0_isFull_9 (by decide) ?_
    refine lv_goto (tgt := 14) hx hb dX0_isFull_10 (by decide) ?_
    refine wM hQ ?_
    exact rtRZ hx hb hr hlocks (by decide) (Or.inl ⟨by omega, rfl⟩) dX0_isFull_14
set_option maxHeartbeats 4000000 in
set_option maxRecDepth 100000 in
theorem c_X0_clear (l : Launch) (X : kX) (c k v : Nat) (f_n : Int32) : CWv l X yX0_clear wsX0_clear 0 [.ref c] [(c, .inr (0, [.ref k, .ref v, .int f_n]))] (S := Unit) (fun _ => True) (fun _ => [(c, .inr (0, [.ref k, .ref v, .int (nI 0)]))]) := by
  refine Met.ofW (cc := cX0_clear) (maxL := 1) (ret := none) (by decide) rfl ?_
  intro pz ez sz mz args below meth cz s₁ Bz hml hv
  obtain ⟨rfl, hP, hK, hD0, hN⟩ := hv
  have hx := Bz.exec
  have hb := Bz.bytes
  have hr := Bz.returns
  have hts := atoms_spec (ws := wsX0_clear) Bz.pre
  have hown : sz.vm.findClass RX0 = some mz.cls := findClass_of_methodNamed Bz.named
  have hlocks := Bz.notSynchronized
  have hD := inW.self hD0
  have hS : va_S (inW [(c, .inr (0, [.ref k, .ref v, .int f_n]))]) sz.heap sz.heap [] := va_S.rf
  have hl := lv_entry ([.ref c]) (n := 1) (Nat.le_of_ble_eq_true rfl)
  rw [lg_entry_eq]
  generalize (lg_sl ([.ref c]) ++ List.replicate (1 - (lg_sl ([.ref c])).length) Slot.unset).toArray = ls at hl ⊢
  have hl : lv_has ls 1 [(0, .ref c)] := hl
  have lk18 := hts (.fieldLink RX0 18 "PointStore$Changes" "total" "I") (by decide +kernel)
  have hin0 : ∀ w ∈ u_ws RX0 TX0 3, w ∈ wsX0_clear := by decide +kernel
  refine wQ (fun Q hQ => ?_)
  generalize hAe : inW [(c, .inr (0, [.ref k, .ref v, .int f_n]))] = A_ at hD hS hQ
  refine lv_aload_n hx hb dX0_clear_0 rfl (lv_at hl 0 rfl) ?_
  refine lv_iconst (v := nI 0) hx hb dX0_clear_1 (by decide) ?_
  refine va_put (D := X.1) (ci := 0) (v := .int (nI 0)) (ty := .int) (C := RX0) (T := TX0) (N := 3) hx hb hts hin0 tyX0 tyX0_ok nmX0 hown hK hP hD hS 0 rfl rfl 2 (by decide) lk18 (fun _ h9 => h9) rfl (by decide +kernel) rfl rfl (Nat.le_of_ble_eq_true rfl) dX0_clear_2 (fun H locs hP hD hS => ?_)
  have hP : va_P X.1 vwCl [(c, .inr (0, [.ref k, .ref v, .int (nI 0)]))] H := hP
  have hD : va_D A_ [(c, .inr (0, [.ref k, .ref v, .int (nI 0)]))] := hD
  refine wM hQ ?_
  exact rtV () hx hb hr hlocks hP hS (trivial) dX0_clear_5
set_option maxHeartbeats 4000000 in
set_option maxRecDepth 100000 in
theorem c_X0_add (l : Launch) (X : kX) (c k v : Nat) (kf vf : Nat → Int32) (o : Op) (C : List Op) (h : chOk kf vf C) (hl0 : C.length < 60) (ho : opOk o) : CWv l X yX0_add wsX0_add 1 [.ref c, .int (opK o), .int (opV o)] [(c, .inr (0, [.ref k, .ref v, .int (nI C.length)])), (k, .inl (X.2.1, 60, .inl kf)), (v, .inl (X.2.1, 60, .inl vf))] (S := (Nat → Int32) × (Nat → Int32)) (fun u => chOk u.1 u.2 (C ++ [o])) (fun ⟨kf2, vf2⟩ => [(c, .inr (0, [.ref k, .ref v, .int (nI (C.length + 1))])), (k, .inl (X.2.1, 60, .inl kf2)), (v, .inl (X.2.1, 60, .inl vf2))]) := by
  refine Met.ofW (cc := cX0_add) (maxL := 3) (ret := none) (by decide) rfl ?_
  intro pz ez sz mz args below meth cz s₁ Bz hml hv
  obtain ⟨rfl, hP, hK, hD0, hN⟩ := hv
  have hx := Bz.exec
  have hb := Bz.bytes
  have hr := Bz.returns
  have hts := atoms_spec (ws := wsX0_add) Bz.pre
  have hown : sz.vm.findClass RX0 = some mz.cls := findClass_of_methodNamed Bz.named
  have hlocks := Bz.notSynchronized
  have hD := inW.self hD0
  have hS : va_S (inW [(c, .inr (0, [.ref k, .ref v, .int (nI C.length)])), (k, .inl (X.2.1, 60, .inl kf)), (v, .inl (X.2.1, 60, .inl vf))]) sz.heap sz.heap [] := va_S.rf
  have hl := lv_entry ([.ref c, .int (opK o), .int (opV o)]) (n := 3) (Nat.le_of_ble_eq_true rfl)
  rw [lg_entry_eq]
  generalize (lg_sl ([.ref c, .int (opK o), .int (opV o)]) ++ List.replicate (3 - (lg_sl ([.ref c, .int (opK o), .int (opV o)])).length) Slot.unset).toArray = ls at hl ⊢
  have hl : lv_has ls 3 [(0, .ref c), (1, .int (opK o)), (2, .int (opV o))] := hl
  have lk9 := hts (.fieldLink RX0 9 "PointStore$Changes" "keys" "[I") (by decide +kernel)
  have lk15 := hts (.fieldLink RX0 15 "PointStore$Changes" "values" "[I") (by decide +kernel)
  have lk18 := hts (.fieldLink RX0 18 "PointStore$Changes" "total" "I") (by decide +kernel)
  have hin0 : ∀ w ∈ u_ws RX0 TX0 3, w ∈ wsX0_add := by decide +kernel
  refine wQ (fun Q hQ => ?_)
  generalize hAe : inW [(c, .inr (0, [.ref k, .ref v, .int (nI C.length)])), (k, .inl (X.2.1, 60, .inl kf)), (v, .inl (X.2.1, 60, .inl vf))] = A_ at hD hS hQ
  refine lv_aload_n hx hb dX0_add_0 rfl (lv_at hl 0 rfl) ?_
  refine ckVRi (As := []) (rest := []) 0 [0] (c_X0_isFull l X c k v C.length h.1) ⟨hx, hb, hml, hown, hts⟩ (cwV 0 hts gX0_add_X0_isFull rfl rfl rfl (by decide +kernel) ⟨Nat.le_of_ble_eq_true rfl, Nat.le_of_ble_eq_true rfl⟩) hK hN hP hD (by decide) rfl (ci := 0) rfl rfl rfl hl.1 rfl (Nat.le_of_ble_eq_true rfl) dX0_add_1 ⟨Nat.zero_le _, Nat.zero_le _⟩ (fun r_1 hc_1 => ?_)
  rcases hc_1 with ⟨hc_1, rfl⟩ | ⟨hc_1, rfl⟩
  · skip
    omega
  · skip
    refine lv_if_eq (tgt := 8) hx hb dX0_add_4 (by decide) (fun c_4 => ?_) (fun c_4 => ?_)
    · skip
      refine lv_aload_n hx hb dX0_add_8 rfl (lv_at hl 0 rfl) ?_
      refine va_get (D := X.1) (ci := 0) (v := .ref k) (C := RX0) (T := TX0) (N := 3) hx hb hts hin0 hown hK hP 0 rfl rfl 0 (by decide) lk9 (fun _ h9 => h9) rfl dX0_add_9 ?_
      refine lv_aload_n hx hb dX0_add_12 rfl (lv_at hl 0 rfl) ?_
      refine va_get (D := X.1) (ci := 0) (v := .int (nI C.length)) (C := RX0) (T := TX0) (N := 3) hx hb hts hin0 hown hK hP 0 rfl rfl 2 (by decide) lk18 (fun _ h9 => h9) rfl dX0_add_13 ?_
      refine lv_iload_n hx hb dX0_add_16 rfl (lv_at hl 1 rfl) ?_
      have hi_2 : vp_in (nI C.length) 60 := vp_in_nI (by omega) (by omega)
      refine va_iast hx hb hK hP hD hS 1 0 rfl rfl hi_2 dX0_add_17 (fun H locs hP hD hS => ?_)
      rw [nI_clamp (by omega)] at hP hD
      have hP : va_P X.1 vwCl [(c, .inr (0, [.ref k, .ref v, .int (nI C.length)])), (k, .inl (X.2.1, 60, .inl (upd kf C.length (opK o)))), (v, .inl (X.2.1, 60, .inl vf))] H := hP
      have hD : va_D A_ [(c, .inr (0, [.ref k, .ref v, .int (nI C.length)])), (k, .inl (X.2.1, 60, .inl (upd kf C.length (opK o)))), (v, .inl (X.2.1, 60, .inl vf))] := hD
      refine lv_aload_n hx hb dX0_add_18 rfl (lv_at hl 0 rfl) ?_
      refine va_get (D := X.1) (ci := 0) (v := .ref v) (C := RX0) (T := TX0) (N := 3) hx hb hts hin0 hown hK hP 0 rfl rfl 1 (by decide) lk15 (fun _ h9 => h9) rfl dX0_add_19 ?_
      refine lv_aload_n hx hb dX0_add_22 rfl (lv_at hl 0 rfl) ?_
      refine va_get (D := X.1) (ci := 0) (v := .int (nI C.length)) (C := RX0) (T := TX0) (N := 3) hx hb hts hin0 hown hK hP 0 rfl rfl 2 (by decide) lk18 (fun _ h9 => h9) rfl dX0_add_23 ?_
      refine lv_iload_n hx hb dX0_add_26 rfl (lv_at hl 2 rfl) ?_
      have hi_3 : vp_in (nI C.length) 60 := vp_in_nI (by omega) (by omega)
      refine va_iast hx hb hK hP hD hS 2 0 rfl rfl hi_3 dX0_add_27 (fun H locs hP hD hS => ?_)
      rw [nI_clamp (by omega)] at hP hD
      have hP : va_P X.1 vwCl [(c, .inr (0, [.ref k, .ref v, .int (nI C.length)])), (k, .inl (X.2.1, 60, .inl (upd kf C.length (opK o)))), (v, .inl (X.2.1, 60, .inl (upd vf C.length (opV o))))] H := hP
      have hD : va_D A_ [(c, .inr (0, [.ref k, .ref v, .int (nI C.length)])), (k, .inl (X.2.1, 60, .inl (upd kf C.length (opK o)))), (v, .inl (X.2.1, 60, .inl (upd vf C.length (opV o))))] := hD
      refine lv_aload_n hx hb dX0_add_28 rfl (lv_at hl 0 rfl) ?_
      refine lv_dup hx hb dX0_add_29 rfl ?_
      refine va_get (D := X.1) (ci := 0) (v := .int (nI C.length)) (C := RX0) (T := TX0) (N := 3) hx hb hts hin0 hown hK hP 0 rfl rfl 2 (by decide) lk18 (fun _ h9 => h9) rfl dX0_add_30 ?_
      refine lv_iconst (v := nI 1) hx hb dX0_add_33 (by decide) ?_
      refine lv_iadd hx hb dX0_add_34 ?_
      refine lv_topi (fun x_4 ex_4 => ?_)
      obtain rfl : x_4 = nI (C.length + 1) := by
        rw [ex_4]
        exact nI_add _ _
      refine va_put (D := X.1) (ci := 0) (v := .int (nI (C.length + 1))) (ty := .int) (C := RX0) (T := TX0) (N := 3) hx hb hts hin0 tyX0 tyX0_ok nmX0 hown hK hP hD hS 0 rfl rfl 2 (by decide) lk18 (fun _ h9 => h9) rfl (by decide +kernel) rfl rfl (Nat.le_of_ble_eq_true rfl) dX0_add_35 (fun H locs hP hD hS => ?_)
      have hP : va_P X.1 vwCl [(c, .inr (0, [.ref k, .ref v, .int (nI (C.length + 1))])), (k, .inl (X.2.1, 60, .inl (upd kf C.length (opK o)))), (v, .inl (X.2.1, 60, .inl (upd vf C.length (opV o))))] H := hP
      have hD : va_D A_ [(c, .inr (0, [.ref k, .ref v, .int (nI (C.length + 1))])), (k, .inl (X.2.1, 60, .inl (upd kf C.length (opK o)))), (v, .inl (X.2.1, 60, .inl (upd vf C.length (opV o))))] := hD
      refine wM hQ ?_
      exact rtV (upd kf C.length (opK o), upd vf C.length (opV o)) hx hb hr hlocks hP hS (ch_add h hl0 ho) dX0_add_38
    · exact absurd c_4 (by decide)
set_option maxHeartbeats 4000000 in
set_option maxRecDepth 100000 in
theorem c_X1_seal (l : Launch) (X : kX) (d h lk lv : Nat) (f_se : Int32) (n : Nat) : CWv l X yX1_seal wsX1_seal 0 [.ref d, .int (nI n)] [(d, .inr (1, [.ref h, .ref lk, .ref lv, .int f_se]))] (S := Unit) (fun _ => True) (fun _ => [(d, .inr (1, [.ref h, .ref lk, .ref lv, .int (nI n)]))]) := by
  refine Met.ofW (cc := cX1_seal) (maxL := 2) (ret := none) (by decide) rfl ?_
  intro pz ez sz mz args below meth cz s₁ Bz hml hv
  obtain ⟨rfl, hP, hK, hD0, hN⟩ := hv
  have hx := Bz.exec
  have hb := Bz.bytes
  have hr := Bz.returns
  have hts := atoms_spec (ws := wsX1_seal) Bz.pre
  have hown : sz.vm.findClass RX1 = some mz.cls := findClass_of_methodNamed Bz.named
  have hlocks := Bz.notSynchronized
  have hD := inW.self hD0
  have hS : va_S (inW [(d, .inr (1, [.ref h, .ref lk, .ref lv, .int f_se]))]) sz.heap sz.heap [] := va_S.rf
  have hl := lv_entry ([.ref d, .int (nI n)]) (n := 2) (Nat.le_of_ble_eq_true rfl)
  rw [lg_entry_eq]
  generalize (lg_sl ([.ref d, .int (nI n)]) ++ List.replicate (2 - (lg_sl ([.ref d, .int (nI n)])).length) Slot.unset).toArray = ls at hl ⊢
  have hl : lv_has ls 2 [(0, .ref d), (1, .int (nI n))] := hl
  have lk18 := hts (.fieldLink RX1 18 "PointStore$Disk" "sealed" "I") (by decide +kernel)
  have hin1 : ∀ w ∈ u_ws RX1 TX1 4, w ∈ wsX1_seal := by decide +kernel
  refine wQ (fun Q hQ => ?_)
  generalize hAe : inW [(d, .inr (1, [.ref h, .ref lk, .ref lv, .int f_se]))] = A_ at hD hS hQ
  refine lv_aload_n hx hb dX1_seal_0 rfl (lv_at hl 0 rfl) ?_
  refine lv_iload_n hx hb dX1_seal_1 rfl (lv_at hl 1 rfl) ?_
  refine va_put (D := X.1) (ci := 1) (v := .int (nI n)) (ty := .int) (C := RX1) (T := TX1) (N := 4) hx hb hts hin1 tyX1 tyX1_ok nmX1 hown hK hP hD hS 0 rfl rfl 3 (by decide) lk18 (fun _ h9 => h9) rfl (by decide +kernel) rfl rfl (Nat.le_of_ble_eq_true rfl) dX1_seal_2 (fun H locs hP hD hS => ?_)
  have hP : va_P X.1 vwCl [(d, .inr (1, [.ref h, .ref lk, .ref lv, .int (nI n)]))] H := hP
  have hD : va_D A_ [(d, .inr (1, [.ref h, .ref lk, .ref lv, .int (nI n)]))] := hD
  refine wM hQ ?_
  exact rtV () hx hb hr hlocks hP hS (trivial) dX1_seal_5
set_option maxHeartbeats 4000000 in
set_option maxRecDepth 100000 in
theorem c_X1_end (l : Launch) (X : kX) (d h lk lv : Nat) (f_se : Int32) : CWv l X yX1_end wsX1_end 0 [.ref d] [(d, .inr (1, [.ref h, .ref lk, .ref lv, .int f_se]))] (S := Unit) (fun _ => True) (fun _ => [(d, .inr (1, [.ref h, .ref lk, .ref lv, .int (nI 0)]))]) := by
  refine Met.ofW (cc := cX1_end) (maxL := 1) (ret := none) (by decide) rfl ?_
  intro pz ez sz mz args below meth cz s₁ Bz hml hv
  obtain ⟨rfl, hP, hK, hD0, hN⟩ := hv
  have hx := Bz.exec
  have hb := Bz.bytes
  have hr := Bz.returns
  have hts := atoms_spec (ws := wsX1_end) Bz.pre
  have hown : sz.vm.findClass RX1 = some mz.cls := findClass_of_methodNamed Bz.named
  have hlocks := Bz.notSynchronized
  have hD := inW.self hD0
  have hS : va_S (inW [(d, .inr (1, [.ref h, .ref lk, .ref lv, .int f_se]))]) sz.heap sz.heap [] := va_S.rf
  have hl := lv_entry ([.ref d]) (n := 1) (Nat.le_of_ble_eq_true rfl)
  rw [lg_entry_eq]
  generalize (lg_sl ([.ref d]) ++ List.replicate (1 - (lg_sl ([.ref d])).length) Slot.unset).toArray = ls at hl ⊢
  have hl : lv_has ls 1 [(0, .ref d)] := hl
  have lk18 := hts (.fieldLink RX1 18 "PointStore$Disk" "sealed" "I") (by decide +kernel)
  have hin1 : ∀ w ∈ u_ws RX1 TX1 4, w ∈ wsX1_end := by decide +kernel
  refine wQ (fun Q hQ => ?_)
  generalize hAe : inW [(d, .inr (1, [.ref h, .ref lk, .ref lv, .int f_se]))] = A_ at hD hS hQ
  refine lv_aload_n hx hb dX1_end_0 rfl (lv_at hl 0 rfl) ?_
  refine lv_iconst (v := nI 0) hx hb dX1_end_1 (by decide) ?_
  refine va_put (D := X.1) (ci := 1) (v := .int (nI 0)) (ty := .int) (C := RX1) (T := TX1) (N := 4) hx hb hts hin1 tyX1 tyX1_ok nmX1 hown hK hP hD hS 0 rfl rfl 3 (by decide) lk18 (fun _ h9 => h9) rfl (by decide +kernel) rfl rfl (Nat.le_of_ble_eq_true rfl) dX1_end_2 (fun H locs hP hD hS => ?_)
  have hP : va_P X.1 vwCl [(d, .inr (1, [.ref h, .ref lk, .ref lv, .int (nI 0)]))] H := hP
  have hD : va_D A_ [(d, .inr (1, [.ref h, .ref lk, .ref lv, .int (nI 0)]))] := hD
  refine wM hQ ?_
  exact rtV () hx hb hr hlocks hP hS (trivial) dX1_end_5
set_option maxHeartbeats 4000000 in
set_option maxRecDepth 100000 in
theorem c_X1_writeLog (l : Launch) (X : kX) (d h lk lv se c k v pt : Nat) (lkf lvf kf vf : Nat → Int32) (C : List Op) (hc : chOk kf vf C) (hp : pt ≤ 256) : CWv l X yX1_writeLog wsX1_writeLog 0 [.ref d, .ref c, .int (nI pt)] [(d, .inr (1, [.ref h, .ref lk, .ref lv, .int (nI se)])), (lk, .inl (X.2.1, 60, .inl lkf)), (lv, .inl (X.2.1, 60, .inl lvf)), (c, .inr (0, [.ref k, .ref v, .int (nI C.length)])), (k, .inl (X.2.1, 60, .inl kf)), (v, .inl (X.2.1, 60, .inl vf))] (S := (Nat → Int32) × (Nat → Int32)) (fun u => pt = 256 → chOk u.1 u.2 C) (fun ⟨lk2, lv2⟩ => [(d, .inr (1, [.ref h, .ref lk, .ref lv, .int (nI se)])), (lk, .inl (X.2.1, 60, .inl lk2)), (lv, .inl (X.2.1, 60, .inl lv2)), (c, .inr (0, [.ref k, .ref v, .int (nI C.length)])), (k, .inl (X.2.1, 60, .inl kf)), (v, .inl (X.2.1, 60, .inl vf))]) := by
  refine Met.ofW (cc := cX1_writeLog) (maxL := 4) (ret := none) (by decide) rfl ?_
  intro pz ez sz mz args below meth cz s₁ Bz hml hv
  obtain ⟨rfl, hP, hK, hD0, hN⟩ := hv
  have hx := Bz.exec
  have hb := Bz.bytes
  have hr := Bz.returns
  have hts := atoms_spec (ws := wsX1_writeLog) Bz.pre
  have hown : sz.vm.findClass RX1 = some mz.cls := findClass_of_methodNamed Bz.named
  have hlocks := Bz.notSynchronized
  have hD := inW.self hD0
  have hS : va_S (inW [(d, .inr (1, [.ref h, .ref lk, .ref lv, .int (nI se)])), (lk, .inl (X.2.1, 60, .inl lkf)), (lv, .inl (X.2.1, 60, .inl lvf)), (c, .inr (0, [.ref k, .ref v, .int (nI C.length)])), (k, .inl (X.2.1, 60, .inl kf)), (v, .inl (X.2.1, 60, .inl vf))]) sz.heap sz.heap [] := va_S.rf
  have hl := lv_entry ([.ref d, .ref c, .int (nI pt)]) (n := 4) (Nat.le_of_ble_eq_true rfl)
  rw [lg_entry_eq]
  generalize (lg_sl ([.ref d, .ref c, .int (nI pt)]) ++ List.replicate (4 - (lg_sl ([.ref d, .ref c, .int (nI pt)])).length) Slot.unset).toArray = ls at hl ⊢
  have hl : lv_has ls 4 [(0, .ref d), (1, .ref c), (2, .int (nI pt))] := hl
  have lk9 := hts (.fieldLink RX1 9 "PointStore$Disk" "logKeys" "[I") (by decide +kernel)
  have lk15 := hts (.fieldLink RX1 15 "PointStore$Disk" "logValues" "[I") (by decide +kernel)
  have lk26 := hts (.fieldLink RX1 26 "PointStore$Changes" "total" "I") (by decide +kernel)
  have lk31 := hts (.fieldLink RX1 31 "PointStore$Changes" "keys" "[I") (by decide +kernel)
  have lk40 := hts (.fieldLink RX1 40 "PointStore$Changes" "values" "[I") (by decide +kernel)
  have hin0 : ∀ w ∈ u_ws RX0 TX0 3, w ∈ wsX1_writeLog := by decide +kernel
  have hin1 : ∀ w ∈ u_ws RX1 TX1 4, w ∈ wsX1_writeLog := by decide +kernel
  refine wQ (fun Q hQ => ?_)
  generalize hAe : inW [(d, .inr (1, [.ref h, .ref lk, .ref lv, .int (nI se)])), (lk, .inl (X.2.1, 60, .inl lkf)), (lv, .inl (X.2.1, 60, .inl lvf)), (c, .inr (0, [.ref k, .ref v, .int (nI C.length)])), (k, .inl (X.2.1, 60, .inl kf)), (v, .inl (X.2.1, 60, .inl vf))] = A_ at hD hS hQ
  have hC := hc.1
  have hm : C.length * pt ≤ 60 * 256 := Nat.mul_le_mul hC hp
  have hq : C.length * pt / 256 ≤ C.length := by
    have := Nat.mul_le_mul_left C.length hp
    omega
  have hq2 : pt = 256 → C.length * pt / 256 = C.length := fun z => by subst z; omega
  generalize hw0 : C.length * pt / 256 = wh at hq hq2
  refine lv_aload_n hx hb dX1_writeLog_0 rfl (lv_at hl 1 rfl) ?_
  refine va_get (D := X.1) (ci := 0) (v := .int (nI C.length)) (C := RX0) (T := TX0) (N := 3) hx hb hts hin0 hown hK hP 3 rfl rfl 2 (by decide) lk26 (fun _ h9 => h9) rfl dX1_writeLog_1 ?_
  refine lv_iload_n hx hb dX1_writeLog_4 rfl (lv_at hl 2 rfl) ?_
  refine lv_imul hx hb dX1_writeLog_5 ?_
  refine lv_topi (fun x_1 ex_1 => ?_)
  obtain rfl : x_1 = nI (C.length * pt) := by
    rw [ex_1]
    exact pk_mul _ _
  refine lv_sipush (v := nI 256) hx hb dX1_writeLog_6 (by decide) ?_
  refine lv_idiv hx hb dX1_writeLog_9 (by decide) ?_
  refine lv_topi (fun x_2 ex_2 => ?_)
  obtain rfl : x_2 = nI wh := by
    rw [ex_2]
    rw [← hw0]
    exact pk_div (by omega) (by omega) (by omega)
  refine lv_istore_n (lv' := [(3, .int (nI wh)), (0, .ref d), (1, .ref c), (2, .int (nI pt))]) hx hb dX1_writeLog_10 rfl hl (by decide) rfl (fun ls hl => ?_)
  refine lv_aload_n hx hb dX1_writeLog_11 rfl (lv_at hl 2 rfl) ?_
  refine va_get (D := X.1) (ci := 0) (v := .ref k) (C := RX0) (T := TX0) (N := 3) hx hb hts hin0 hown hK hP 3 rfl rfl 0 (by decide) lk31 (fun _ h9 => h9) rfl dX1_writeLog_12 ?_
  refine lv_iconst (v := nI 0) hx hb dX1_writeLog_15 (by decide) ?_
  refine lv_aload_n hx hb dX1_writeLog_16 rfl (lv_at hl 1 rfl) ?_
  refine va_get (D := X.1) (ci := 1) (v := .ref lk) (C := RX1) (T := TX1) (N := 4) hx hb hts hin1 hown hK hP 0 rfl rfl 1 (by decide) lk9 (fun _ h9 => h9) rfl dX1_writeLog_17 ?_
  refine lv_iconst (v := nI 0) hx hb dX1_writeLog_20 (by decide) ?_
  refine lv_iload_n hx hb dX1_writeLog_21 rfl (lv_at hl 0 rfl) ?_
  refine va_copyi hx hb (hml.trans hl.1.symm) hown (hts (.methodLink RX1 34 arraycopyName) (by decide +kernel)) (hts (.native arraycopyName) (by decide +kernel)) (hts (.static arraycopyName) (by decide +kernel)) (hts (.initialized "java/lang/System") (by decide +kernel)) hK hP hD hS 4 1 0 0 rfl rfl rfl rfl rfl (nI_pos (by omega)) (nI_pos (by omega)) (nI_pos (by omega)) (by rw [nI_clamp (by omega), nI_clamp (by omega)]; omega) (by rw [nI_clamp (by omega), nI_clamp (by omega)]; omega) (fun _ _ => rfl) (Nat.le_of_ble_eq_true rfl) (by decide) dX1_writeLog_22 (fun H locs hP hD hS => ?_)
  rw [nI_clamp (n := 0) (by omega), nI_clamp (n := wh) (by omega)] at hP hD
  have hP : va_P X.1 vwCl [(d, .inr (1, [.ref h, .ref lk, .ref lv, .int (nI se)])), (lk, .inl (X.2.1, 60, .inl (va_cpy kf lkf 0 0 wh))), (lv, .inl (X.2.1, 60, .inl lvf)), (c, .inr (0, [.ref k, .ref v, .int (nI C.length)])), (k, .inl (X.2.1, 60, .inl kf)), (v, .inl (X.2.1, 60, .inl vf))] H := hP
  have hD : va_D A_ [(d, .inr (1, [.ref h, .ref lk, .ref lv, .int (nI se)])), (lk, .inl (X.2.1, 60, .inl (va_cpy kf lkf 0 0 wh))), (lv, .inl (X.2.1, 60, .inl lvf)), (c, .inr (0, [.ref k, .ref v, .int (nI C.length)])), (k, .inl (X.2.1, 60, .inl kf)), (v, .inl (X.2.1, 60, .inl vf))] := hD
  refine lv_aload_n hx hb dX1_writeLog_25 rfl (lv_at hl 2 rfl) ?_
  refine va_get (D := X.1) (ci := 0) (v := .ref v) (C := RX0) (T := TX0) (N := 3) hx hb hts hin0 hown hK hP 3 rfl rfl 1 (by decide) lk40 (fun _ h9 => h9) rfl dX1_writeLog_26 ?_
  refine lv_iconst (v := nI 0) hx hb dX1_writeLog_29 (by decide) ?_
  refine lv_aload_n hx hb dX1_writeLog_30 rfl (lv_at hl 1 rfl) ?_
  refine va_get (D := X.1) (ci := 1) (v := .ref lv) (C := RX1) (T := TX1) (N := 4) hx hb hts hin1 hown hK hP 0 rfl rfl 2 (by decide) lk15 (fun _ h9 => h9) rfl dX1_writeLog_31 ?_
  refine lv_iconst (v := nI 0) hx hb dX1_writeLog_34 (by decide) ?_
  refine lv_iload_n hx hb dX1_writeLog_35 rfl (lv_at hl 0 rfl) ?_
  refine va_copyi hx hb (hml.trans hl.1.symm) hown (hts (.methodLink RX1 34 arraycopyName) (by decide +kernel)) (hts (.native arraycopyName) (by decide +kernel)) (hts (.static arraycopyName) (by decide +kernel)) (hts (.initialized "java/lang/System") (by decide +kernel)) hK hP hD hS 5 2 0 0 rfl rfl rfl rfl rfl (nI_pos (by omega)) (nI_pos (by omega)) (nI_pos (by omega)) (by rw [nI_clamp (by omega), nI_clamp (by omega)]; omega) (by rw [nI_clamp (by omega), nI_clamp (by omega)]; omega) (fun _ _ => rfl) (Nat.le_of_ble_eq_true rfl) (by decide) dX1_writeLog_36 (fun H locs hP hD hS => ?_)
  rw [nI_clamp (n := 0) (by omega), nI_clamp (n := wh) (by omega)] at hP hD
  have hP : va_P X.1 vwCl [(d, .inr (1, [.ref h, .ref lk, .ref lv, .int (nI se)])), (lk, .inl (X.2.1, 60, .inl (va_cpy kf lkf 0 0 wh))), (lv, .inl (X.2.1, 60, .inl (va_cpy vf lvf 0 0 wh))), (c, .inr (0, [.ref k, .ref v, .int (nI C.length)])), (k, .inl (X.2.1, 60, .inl kf)), (v, .inl (X.2.1, 60, .inl vf))] H := hP
  have hD : va_D A_ [(d, .inr (1, [.ref h, .ref lk, .ref lv, .int (nI se)])), (lk, .inl (X.2.1, 60, .inl (va_cpy kf lkf 0 0 wh))), (lv, .inl (X.2.1, 60, .inl (va_cpy vf lvf 0 0 wh))), (c, .inr (0, [.ref k, .ref v, .int (nI C.length)])), (k, .inl (X.2.1, 60, .inl kf)), (v, .inl (X.2.1, 60, .inl vf))] := hD
  refine lv_iload_n hx hb dX1_writeLog_39 rfl (lv_at hl 0 rfl) ?_
  refine lv_aload_n hx hb dX1_writeLog_40 rfl (lv_at hl 2 rfl) ?_
  refine va_get (D := X.1) (ci := 0) (v := .int (nI C.length)) (C := RX0) (T := TX0) (N := 3) hx hb hts hin0 hown hK hP 3 rfl rfl 2 (by decide) lk26 (fun _ h9 => h9) rfl dX1_writeLog_41 ?_
  refine lv_icmp_ge (tgt := 59) hx hb dX1_writeLog_44 (by decide) (fun c_44 => ?_) (fun c_44 => ?_)
  · replace c_44 : C.length ≤ wh := (nI_leI (by omega) (by omega)).mp c_44
    refine wM hQ ?_
    exact rtV (va_cpy kf lkf 0 0 wh, va_cpy vf lvf 0 0 wh) hx hb hr hlocks hP hS (fun z => by
        have hwz := hq2 z
        first | omega | (show chOk _ _ _; rw [hwz]; exact ch_copy hc)) dX1_writeLog_59
  · replace c_44 : ¬ C.length ≤ wh := fun h9 => c_44 ((nI_leI (by omega) (by omega)).mpr h9)
    refine lv_aload_n hx hb dX1_writeLog_47 rfl (lv_at hl 1 rfl) ?_
    refine va_get (D := X.1) (ci := 1) (v := .ref lk) (C := RX1) (T := TX1) (N := 4) hx hb hts hin1 hown hK hP 0 rfl rfl 1 (by decide) lk9 (fun _ h9 => h9) rfl dX1_writeLog_48 ?_
    refine lv_iload_n hx hb dX1_writeLog_51 rfl (lv_at hl 0 rfl) ?_
    refine lv_aload_n hx hb dX1_writeLog_52 rfl (lv_at hl 2 rfl) ?_
    refine va_get (D := X.1) (ci := 0) (v := .ref k) (C := RX0) (T := TX0) (N := 3) hx hb hts hin0 hown hK hP 3 rfl rfl 0 (by decide) lk31 (fun _ h9 => h9) rfl dX1_writeLog_53 ?_
    refine lv_iload_n hx hb dX1_writeLog_56 rfl (lv_at hl 0 rfl) ?_
    have hi_3 : vp_in (nI wh) 60 := vp_in_nI (by omega) (by omega)
    refine va_iald hx hb hK hP 4 0 rfl rfl hi_3 dX1_writeLog_57 ?_
    refine lv_topi (fun x_4 ex_4 => ?_)
    obtain rfl : x_4 = kf wh := by
      rw [ex_4]
      rw [nI_clamp (by omega)]
    have hi_5 : vp_in (nI wh) 60 := vp_in_nI (by omega) (by omega)
    refine va_iast hx hb hK hP hD hS 1 0 rfl rfl hi_5 dX1_writeLog_58 (fun H locs hP hD hS => ?_)
    rw [nI_clamp (by omega)] at hP hD
    have hP : va_P X.1 vwCl [(d, .inr (1, [.ref h, .ref lk, .ref lv, .int (nI se)])), (lk, .inl (X.2.1, 60, .inl (upd (va_cpy kf lkf 0 0 wh) wh (kf wh)))), (lv, .inl (X.2.1, 60, .inl (va_cpy vf lvf 0 0 wh))), (c, .inr (0, [.ref k, .ref v, .int (nI C.length)])), (k, .inl (X.2.1, 60, .inl kf)), (v, .inl (X.2.1, 60, .inl vf))] H := hP
    have hD : va_D A_ [(d, .inr (1, [.ref h, .ref lk, .ref lv, .int (nI se)])), (lk, .inl (X.2.1, 60, .inl (upd (va_cpy kf lkf 0 0 wh) wh (kf wh)))), (lv, .inl (X.2.1, 60, .inl (va_cpy vf lvf 0 0 wh))), (c, .inr (0, [.ref k, .ref v, .int (nI C.length)])), (k, .inl (X.2.1, 60, .inl kf)), (v, .inl (X.2.1, 60, .inl vf))] := hD
    refine wM hQ ?_
    exact rtV (upd (va_cpy kf lkf 0 0 wh) wh (kf wh), va_cpy vf lvf 0 0 wh) hx hb hr hlocks hP hS (fun z => by
        have hwz := hq2 z
        first | omega | (show chOk _ _ _; rw [hwz]; exact ch_copy hc)) dX1_writeLog_59
set_option maxHeartbeats 4000000 in
set_option maxRecDepth 100000 in
theorem c_X1_writeAtHome_ev (l : Launch) (X : kX) (d h lk lv se k v w : Nat) (kf vf : Nat → Int32) (L : PL) (hp : ptOk kf vf L) : CWv l X yX1_writeAtHome wsX1_writeAtHome 2 [.ref d, .int (-1), .int (-1)] [(d, .inr (1, [.ref h, .ref lk, .ref lv, .int (nI se)])), (h, .inr (2, [.ref k, .ref v, .int (nI L.length), .int (nI w)])), (k, .inl (X.2.1, 512, .inl kf)), (v, .inl (X.2.1, 512, .inl vf))] (S := (Nat → Int32) × (Nat → Int32)) (fun u => ptOk u.1 u.2 ([] : PL)) (fun ⟨kf2, vf2⟩ => [(d, .inr (1, [.ref h, .ref lk, .ref lv, .int (nI se)])), (h, .inr (2, [.ref k, .ref v, .int (nI 0), .int (nI (w + 1))])), (k, .inl (X.2.1, 512, .inl kf2)), (v, .inl (X.2.1, 512, .inl vf2))]) := by
  refine Met.ofW (cc := cX1_writeAtHome) (maxL := 3) (ret := none) (by decide) rfl ?_
  intro pz ez sz mz args below meth cz s₁ Bz hml hv
  obtain ⟨rfl, hP, hK, hD0, hN⟩ := hv
  have hx := Bz.exec
  have hb := Bz.bytes
  have hr := Bz.returns
  have hts := atoms_spec (ws := wsX1_writeAtHome) Bz.pre
  have hown : sz.vm.findClass RX1 = some mz.cls := findClass_of_methodNamed Bz.named
  have hlocks := Bz.notSynchronized
  have hD := inW.self hD0
  have hS : va_S (inW [(d, .inr (1, [.ref h, .ref lk, .ref lv, .int (nI se)])), (h, .inr (2, [.ref k, .ref v, .int (nI L.length), .int (nI w)])), (k, .inl (X.2.1, 512, .inl kf)), (v, .inl (X.2.1, 512, .inl vf))]) sz.heap sz.heap [] := va_S.rf
  have hl := lv_entry ([.ref d, .int (-1), .int (-1)]) (n := 3) (Nat.le_of_ble_eq_true rfl)
  rw [lg_entry_eq]
  generalize (lg_sl ([.ref d, .int (-1), .int (-1)]) ++ List.replicate (3 - (lg_sl ([.ref d, .int (-1), .int (-1)])).length) Slot.unset).toArray = ls at hl ⊢
  have hl : lv_has ls 3 [(0, .ref d), (1, .int (-1)), (2, .int (-1))] := hl
  have lk22 := hts (.fieldLink RX1 22 "PointStore$Disk" "home" "LPointStore$Points;") (by decide +kernel)
  have hin1 : ∀ w ∈ u_ws RX1 TX1 4, w ∈ wsX1_writeAtHome := by decide +kernel
  refine wQ (fun Q hQ => ?_)
  generalize hAe : inW [(d, .inr (1, [.ref h, .ref lk, .ref lv, .int (nI se)])), (h, .inr (2, [.ref k, .ref v, .int (nI L.length), .int (nI w)])), (k, .inl (X.2.1, 512, .inl kf)), (v, .inl (X.2.1, 512, .inl vf))] = A_ at hD hS hQ
  refine lv_iload_n hx hb dX1_writeAtHome_0 rfl (lv_at hl 1 rfl) ?_
  refine lv_iconst (v := (-1)) hx hb dX1_writeAtHome_1 (by decide) ?_
  refine lv_icmp_ne (tgt := 15) hx hb dX1_writeAtHome_2 (by decide) (fun c_2 => ?_) (fun c_2 => ?_)
  · skip
    exact absurd rfl c_2
  · skip
    refine lv_aload_n hx hb dX1_writeAtHome_5 rfl (lv_at hl 0 rfl) ?_
    refine va_get (D := X.1) (ci := 1) (v := .ref h) (C := RX1) (T := TX1) (N := 4) hx hb hts hin1 hown hK hP 0 rfl rfl 0 (by decide) lk22 (fun _ h9 => h9) rfl dX1_writeAtHome_6 ?_
    refine ckVv (As := []) (rest := []) 0 [1] (c_X2_clear l X h k v L.length w) ⟨hx, hb, hml, hown, hts⟩ (cwV 0 hts gX1_writeAtHome_X2_clear rfl rfl rfl (by decide +kernel) ⟨Nat.le_of_ble_eq_true rfl, Nat.le_of_ble_eq_true rfl⟩) hK hN hP hD hS (by decide) rfl (ci := 2) rfl rfl (fun _ => rfl) rfl hl.1 rfl (Nat.le_of_ble_eq_true rfl) dX1_writeAtHome_9 ⟨Nat.zero_le _, Nat.zero_le _⟩ (fun u_1 H locs hc_9 hP hD hS => ?_)
    have hP : va_P X.1 vwCl [(d, .inr (1, [.ref h, .ref lk, .ref lv, .int (nI se)])), (h, .inr (2, [.ref k, .ref v, .int (nI 0), .int (nI (w + 1))])), (k, .inl (X.2.1, 512, .inl kf)), (v, .inl (X.2.1, 512, .inl vf))] H := hP
    have hD : va_D A_ [(d, .inr (1, [.ref h, .ref lk, .ref lv, .int (nI se)])), (h, .inr (2, [.ref k, .ref v, .int (nI 0), .int (nI (w + 1))])), (k, .inl (X.2.1, 512, .inl kf)), (v, .inl (X.2.1, 512, .inl vf))] := hD
    refine lv_goto (tgt := 40) hx hb dX1_writeAtHome_12 (by decide) ?_
    refine wM hQ ?_
    exact rtV (kf, vf) hx hb hr hlocks hP hS (pt_nil) dX1_writeAtHome_40
set_option maxHeartbeats 4000000 in
set_option maxRecDepth 100000 in
theorem c_X1_writeAtHome_del (l : Launch) (X : kX) (d h lk lv se k v w : Nat) (kf vf : Nat → Int32) (L : PL) (key : Nat) (hk : key < 2 ^ 30) (hp : ptOk kf vf L) : CWv l X yX1_writeAtHome wsX1_writeAtHome 2 [.ref d, .int (nI key), .int (-1)] [(d, .inr (1, [.ref h, .ref lk, .ref lv, .int (nI se)])), (h, .inr (2, [.ref k, .ref v, .int (nI L.length), .int (nI w)])), (k, .inl (X.2.1, 512, .inl kf)), (v, .inl (X.2.1, 512, .inl vf))] (S := (Nat → Int32) × (Nat → Int32)) (fun u => ptOk u.1 u.2 (pdel L key)) (fun ⟨kf2, vf2⟩ => [(d, .inr (1, [.ref h, .ref lk, .ref lv, .int (nI se)])), (h, .inr (2, [.ref k, .ref v, .int (nI ((pdel L key).length)), .int (nI (tv L key w))])), (k, .inl (X.2.1, 512, .inl kf2)), (v, .inl (X.2.1, 512, .inl vf2))]) := by
  refine Met.ofW (cc := cX1_writeAtHome) (maxL := 3) (ret := none) (by decide) rfl ?_
  intro pz ez sz mz args below meth cz s₁ Bz hml hv
  obtain ⟨rfl, hP, hK, hD0, hN⟩ := hv
  have hx := Bz.exec
  have hb := Bz.bytes
  have hr := Bz.returns
  have hts := atoms_spec (ws := wsX1_writeAtHome) Bz.pre
  have hown : sz.vm.findClass RX1 = some mz.cls := findClass_of_methodNamed Bz.named
  have hlocks := Bz.notSynchronized
  have hD := inW.self hD0
  have hS : va_S (inW [(d, .inr (1, [.ref h, .ref lk, .ref lv, .int (nI se)])), (h, .inr (2, [.ref k, .ref v, .int (nI L.length), .int (nI w)])), (k, .inl (X.2.1, 512, .inl kf)), (v, .inl (X.2.1, 512, .inl vf))]) sz.heap sz.heap [] := va_S.rf
  have hl := lv_entry ([.ref d, .int (nI key), .int (-1)]) (n := 3) (Nat.le_of_ble_eq_true rfl)
  rw [lg_entry_eq]
  generalize (lg_sl ([.ref d, .int (nI key), .int (-1)]) ++ List.replicate (3 - (lg_sl ([.ref d, .int (nI key), .int (-1)])).length) Slot.unset).toArray = ls at hl ⊢
  have hl : lv_has ls 3 [(0, .ref d), (1, .int (nI key)), (2, .int (-1))] := hl
  have lk22 := hts (.fieldLink RX1 22 "PointStore$Disk" "home" "LPointStore$Points;") (by decide +kernel)
  have hin1 : ∀ w ∈ u_ws RX1 TX1 4, w ∈ wsX1_writeAtHome := by decide +kernel
  refine wQ (fun Q hQ => ?_)
  generalize hAe : inW [(d, .inr (1, [.ref h, .ref lk, .ref lv, .int (nI se)])), (h, .inr (2, [.ref k, .ref v, .int (nI L.length), .int (nI w)])), (k, .inl (X.2.1, 512, .inl kf)), (v, .inl (X.2.1, 512, .inl vf))] = A_ at hD hS hQ
  refine lv_iload_n hx hb dX1_writeAtHome_0 rfl (lv_at hl 1 rfl) ?_
  refine lv_iconst (v := (-1)) hx hb dX1_writeAtHome_1 (by decide) ?_
  refine lv_icmp_ne (tgt := 15) hx hb dX1_writeAtHome_2 (by decide) (fun c_2 => ?_) (fun c_2 => ?_)
  · skip
    refine lv_iload_n hx hb dX1_writeAtHome_15 rfl (lv_at hl 2 rfl) ?_
    refine lv_iconst (v := (-1)) hx hb dX1_writeAtHome_16 (by decide) ?_
    refine lv_icmp_ne (tgt := 31) hx hb dX1_writeAtHome_17 (by decide) (fun c_17 => ?_) (fun c_17 => ?_)
    · skip
      exact absurd rfl c_17
    · skip
      refine lv_aload_n hx hb dX1_writeAtHome_20 rfl (lv_at hl 0 rfl) ?_
      refine va_get (D := X.1) (ci := 1) (v := .ref h) (C := RX1) (T := TX1) (N := 4) hx hb hts hin1 hown hK hP 0 rfl rfl 0 (by decide) lk22 (fun _ h9 => h9) rfl dX1_writeAtHome_21 ?_
      refine lv_iload_n hx hb dX1_writeAtHome_24 rfl (lv_at hl 1 rfl) ?_
      refine ckVv (As := [.int (nI key)]) (rest := []) 0 [1, 2, 3] (c_X2_takeOut l X h k v w key kf vf L hp hk) ⟨hx, hb, hml, hown, hts⟩ (cwV 1 hts gX1_writeAtHome_X2_takeOut rfl rfl rfl (by decide +kernel) ⟨Nat.le_of_ble_eq_true rfl, Nat.le_of_ble_eq_true rfl⟩) hK hN hP hD hS (by decide) rfl (ci := 2) rfl rfl (fun _ => rfl) rfl hl.1 rfl (Nat.le_of_ble_eq_true rfl) dX1_writeAtHome_25 ⟨Nat.zero_le _, Nat.zero_le _⟩ (fun u_1 H locs hc_25 hP hD hS => ?_)
      obtain ⟨kf2, vf2⟩ := u_1
      have hP : va_P X.1 vwCl [(d, .inr (1, [.ref h, .ref lk, .ref lv, .int (nI se)])), (h, .inr (2, [.ref k, .ref v, .int (nI ((pdel L key).length)), .int (nI (tv L key w))])), (k, .inl (X.2.1, 512, .inl kf2)), (v, .inl (X.2.1, 512, .inl vf2))] H := hP
      have hD : va_D A_ [(d, .inr (1, [.ref h, .ref lk, .ref lv, .int (nI se)])), (h, .inr (2, [.ref k, .ref v, .int (nI ((pdel L key).length)), .int (nI (tv L key w))])), (k, .inl (X.2.1, 512, .inl kf2)), (v, .inl (X.2.1, 512, .inl vf2))] := hD
      try dsimp only at hc_25
      refine lv_goto (tgt := 40) hx hb dX1_writeAtHome_28 (by decide) ?_
      refine wM hQ ?_
      exact rtV (kf2, vf2) hx hb hr hlocks hP hS (hc_25) dX1_writeAtHome_40
  · skip
    exact absurd c_2 (nI_m1 (by omega))
set_option maxHeartbeats 4000000 in
set_option maxRecDepth 100000 in
theorem c_X1_writeAtHome_put (l : Launch) (X : kX) (d h lk lv se k v w : Nat) (kf vf : Nat → Int32) (L : PL) (key x : Nat) (hk : key < 2 ^ 30) (hx0 : x < 2 ^ 31) (hl0 : (pput L key x).length ≤ 512) (hp : ptOk kf vf L) : CWv l X yX1_writeAtHome wsX1_writeAtHome 2 [.ref d, .int (nI key), .int (nI x)] [(d, .inr (1, [.ref h, .ref lk, .ref lv, .int (nI se)])), (h, .inr (2, [.ref k, .ref v, .int (nI L.length), .int (nI w)])), (k, .inl (X.2.1, 512, .inl kf)), (v, .inl (X.2.1, 512, .inl vf))] (S := (Nat → Int32) × (Nat → Int32)) (fun u => ptOk u.1 u.2 (pput L key x)) (fun ⟨kf2, vf2⟩ => [(d, .inr (1, [.ref h, .ref lk, .ref lv, .int (nI se)])), (h, .inr (2, [.ref k, .ref v, .int (nI ((pput L key x).length)), .int (nI (w + 1))])), (k, .inl (X.2.1, 512, .inl kf2)), (v, .inl (X.2.1, 512, .inl vf2))]) := by
  refine Met.ofW (cc := cX1_writeAtHome) (maxL := 3) (ret := none) (by decide) rfl ?_
  intro pz ez sz mz args below meth cz s₁ Bz hml hv
  obtain ⟨rfl, hP, hK, hD0, hN⟩ := hv
  have hx := Bz.exec
  have hb := Bz.bytes
  have hr := Bz.returns
  have hts := atoms_spec (ws := wsX1_writeAtHome) Bz.pre
  have hown : sz.vm.findClass RX1 = some mz.cls := findClass_of_methodNamed Bz.named
  have hlocks := Bz.notSynchronized
  have hD := inW.self hD0
  have hS : va_S (inW [(d, .inr (1, [.ref h, .ref lk, .ref lv, .int (nI se)])), (h, .inr (2, [.ref k, .ref v, .int (nI L.length), .int (nI w)])), (k, .inl (X.2.1, 512, .inl kf)), (v, .inl (X.2.1, 512, .inl vf))]) sz.heap sz.heap [] := va_S.rf
  have hl := lv_entry ([.ref d, .int (nI key), .int (nI x)]) (n := 3) (Nat.le_of_ble_eq_true rfl)
  rw [lg_entry_eq]
  generalize (lg_sl ([.ref d, .int (nI key), .int (nI x)]) ++ List.replicate (3 - (lg_sl ([.ref d, .int (nI key), .int (nI x)])).length) Slot.unset).toArray = ls at hl ⊢
  have hl : lv_has ls 3 [(0, .ref d), (1, .int (nI key)), (2, .int (nI x))] := hl
  have lk22 := hts (.fieldLink RX1 22 "PointStore$Disk" "home" "LPointStore$Points;") (by decide +kernel)
  have hin1 : ∀ w ∈ u_ws RX1 TX1 4, w ∈ wsX1_writeAtHome := by decide +kernel
  refine wQ (fun Q hQ => ?_)
  generalize hAe : inW [(d, .inr (1, [.ref h, .ref lk, .ref lv, .int (nI se)])), (h, .inr (2, [.ref k, .ref v, .int (nI L.length), .int (nI w)])), (k, .inl (X.2.1, 512, .inl kf)), (v, .inl (X.2.1, 512, .inl vf))] = A_ at hD hS hQ
  refine lv_iload_n hx hb dX1_writeAtHome_0 rfl (lv_at hl 1 rfl) ?_
  refine lv_iconst (v := (-1)) hx hb dX1_writeAtHome_1 (by decide) ?_
  refine lv_icmp_ne (tgt := 15) hx hb dX1_writeAtHome_2 (by decide) (fun c_2 => ?_) (fun c_2 => ?_)
  · skip
    refine lv_iload_n hx hb dX1_writeAtHome_15 rfl (lv_at hl 2 rfl) ?_
    refine lv_iconst (v := (-1)) hx hb dX1_writeAtHome_16 (by decide) ?_
    refine lv_icmp_ne (tgt := 31) hx hb dX1_writeAtHome_17 (by decide) (fun c_17 => ?_) (fun c_17 => ?_)
    · skip
      refine lv_aload_n hx hb dX1_writeAtHome_31 rfl (lv_at hl 0 rfl) ?_
      refine va_get (D := X.1) (ci := 1) (v := .ref h) (C := RX1) (T := TX1) (N := 4) hx hb hts hin1 hown hK hP 0 rfl rfl 0 (by decide) lk22 (fun _ h9 => h9) rfl dX1_writeAtHome_32 ?_
      refine lv_iload_n hx hb dX1_writeAtHome_35 rfl (lv_at hl 1 rfl) ?_
      refine lv_iload_n hx hb dX1_writeAtHome_36 rfl (lv_at hl 2 rfl) ?_
      refine ckVv (As := [.int (nI key), .int (nI x)]) (rest := []) 0 [1, 2, 3] (c_X2_put l X h k v w key x kf vf L hp hk hx0 hl0) ⟨hx, hb, hml, hown, hts⟩ (cwV 2 hts gX1_writeAtHome_X2_put rfl rfl rfl (by decide +kernel) ⟨Nat.le_of_ble_eq_true rfl, Nat.le_of_ble_eq_true rfl⟩) hK hN hP hD hS (by decide) rfl (ci := 2) rfl rfl (fun _ => rfl) rfl hl.1 rfl (Nat.le_of_ble_eq_true rfl) dX1_writeAtHome_37 ⟨Nat.zero_le _, Nat.zero_le _⟩ (fun u_1 H locs hc_37 hP hD hS => ?_)
      obtain ⟨kf2, vf2⟩ := u_1
      have hP : va_P X.1 vwCl [(d, .inr (1, [.ref h, .ref lk, .ref lv, .int (nI se)])), (h, .inr (2, [.ref k, .ref v, .int (nI ((pput L key x).length)), .int (nI (w + 1))])), (k, .inl (X.2.1, 512, .inl kf2)), (v, .inl (X.2.1, 512, .inl vf2))] H := hP
      have hD : va_D A_ [(d, .inr (1, [.ref h, .ref lk, .ref lv, .int (nI se)])), (h, .inr (2, [.ref k, .ref v, .int (nI ((pput L key x).length)), .int (nI (w + 1))])), (k, .inl (X.2.1, 512, .inl kf2)), (v, .inl (X.2.1, 512, .inl vf2))] := hD
      try dsimp only at hc_37
      refine wM hQ ?_
      exact rtV (kf2, vf2) hx hb hr hlocks hP hS (hc_37) dX1_writeAtHome_40
    · skip
      exact absurd c_17 (nI_m1 (by omega))
  · skip
    exact absurd c_2 (nI_m1 (by omega))
