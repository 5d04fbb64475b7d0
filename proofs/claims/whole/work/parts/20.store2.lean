/-! PointStore: reads: contracts, laid by program (wip/gen/spec_store2.py) -/
set_option maxHeartbeats 4000000 in
set_option maxRecDepth 100000 in
theorem c_X5_insert_off (l : Launch) (X : kX) (a d p t t2 ch rs sp bl bk cp : Nat) (f_ct : Int32) (x y v : Int32) : CRi l X yX5_insert wsX5_insert 0 [.ref a, .int x, .int y, .int v] [(a, .inr (5, [.int (nI bl), .int (nI bk), .int (nI sp), .ref d, .ref p, .ref t, .ref t2, .ref ch, .ref rs, .int (nI 0), .int f_ct, .int (nI cp)]))] (fun r => r = -2) := by
  refine Met.ofW (cc := cX5_insert) (maxL := 6) (ret := some (.int)) (by decide) rfl ?_
  intro pz ez sz mz args below meth cz s₁ Bz hml hv
  obtain ⟨rfl, hP, hK, hD0, hN⟩ := hv
  have hx := Bz.exec
  have hb := Bz.bytes
  have hr := Bz.returns
  have hts := atoms_spec (ws := wsX5_insert) Bz.pre
  have hown : sz.vm.findClass RX5 = some mz.cls := findClass_of_methodNamed Bz.named
  have hlocks := Bz.notSynchronized
  have hD := inW.self hD0
  have hS : va_S (inW [(a, .inr (5, [.int (nI bl), .int (nI bk), .int (nI sp), .ref d, .ref p, .ref t, .ref t2, .ref ch, .ref rs, .int (nI 0), .int f_ct, .int (nI cp)]))]) sz.heap sz.heap [] := va_S.rf
  have hl := lv_entry ([.ref a, .int x, .int y, .int v]) (n := 6) (Nat.le_of_ble_eq_true rfl)
  rw [lg_entry_eq]
  generalize (lg_sl ([.ref a, .int x, .int y, .int v]) ++ List.replicate (6 - (lg_sl ([.ref a, .int x, .int y, .int v])).length) Slot.unset).toArray = ls at hl ⊢
  have hl : lv_has ls 6 [(0, .ref a), (1, .int x), (2, .int y), (3, .int v)] := hl
  have lk65 := hts (.fieldLink RX5 65 "PointStore" "powered" "Z") (by decide +kernel)
  have hin5 : ∀ w ∈ u_ws RX5 TX5 12, w ∈ wsX5_insert := by decide +kernel
  refine wQ (fun Q hQ => ?_)
  generalize hAe : inW [(a, .inr (5, [.int (nI bl), .int (nI bk), .int (nI sp), .ref d, .ref p, .ref t, .ref t2, .ref ch, .ref rs, .int (nI 0), .int f_ct, .int (nI cp)]))] = A_ at hD hS
  refine lv_aload_n hx hb dX5_insert_0 rfl (lv_at hl 0 rfl) ?_
  refine va_get (D := X.1) (ci := 5) (v := .int (nI 0)) (C := RX5) (T := TX5) (N := 12) hx hb hts hin5 hown hK hP 0 rfl rfl 9 (by decide) lk65 (fun _ h9 => h9) rfl dX5_insert_1 ?_
  refine lv_if_ne (tgt := 10) hx hb dX5_insert_4 (by decide) (fun c_4 => ?_) (fun c_4 => ?_)
  · exact absurd c_4 (by decide)
  · skip
    refine lv_bipush (v := (-2)) hx hb dX5_insert_7 (by decide) ?_
    refine wM hQ ?_
    exact rtRI hx hb hr hlocks (rfl) dX5_insert_9
set_option maxHeartbeats 4000000 in
set_option maxRecDepth 100000 in
theorem c_X5_delete_off (l : Launch) (X : kX) (a d p t t2 ch rs sp bl bk cp : Nat) (f_ct : Int32) (x y : Int32) : CRi l X yX5_delete wsX5_delete 0 [.ref a, .int x, .int y] [(a, .inr (5, [.int (nI bl), .int (nI bk), .int (nI sp), .ref d, .ref p, .ref t, .ref t2, .ref ch, .ref rs, .int (nI 0), .int f_ct, .int (nI cp)]))] (fun r => r = -2) := by
  refine Met.ofW (cc := cX5_delete) (maxL := 4) (ret := some (.int)) (by decide) rfl ?_
  intro pz ez sz mz args below meth cz s₁ Bz hml hv
  obtain ⟨rfl, hP, hK, hD0, hN⟩ := hv
  have hx := Bz.exec
  have hb := Bz.bytes
  have hr := Bz.returns
  have hts := atoms_spec (ws := wsX5_delete) Bz.pre
  have hown : sz.vm.findClass RX5 = some mz.cls := findClass_of_methodNamed Bz.named
  have hlocks := Bz.notSynchronized
  have hD := inW.self hD0
  have hS : va_S (inW [(a, .inr (5, [.int (nI bl), .int (nI bk), .int (nI sp), .ref d, .ref p, .ref t, .ref t2, .ref ch, .ref rs, .int (nI 0), .int f_ct, .int (nI cp)]))]) sz.heap sz.heap [] := va_S.rf
  have hl := lv_entry ([.ref a, .int x, .int y]) (n := 4) (Nat.le_of_ble_eq_true rfl)
  rw [lg_entry_eq]
  generalize (lg_sl ([.ref a, .int x, .int y]) ++ List.replicate (4 - (lg_sl ([.ref a, .int x, .int y])).length) Slot.unset).toArray = ls at hl ⊢
  have hl : lv_has ls 4 [(0, .ref a), (1, .int x), (2, .int y)] := hl
  have lk65 := hts (.fieldLink RX5 65 "PointStore" "powered" "Z") (by decide +kernel)
  have hin5 : ∀ w ∈ u_ws RX5 TX5 12, w ∈ wsX5_delete := by decide +kernel
  refine wQ (fun Q hQ => ?_)
  generalize hAe : inW [(a, .inr (5, [.int (nI bl), .int (nI bk), .int (nI sp), .ref d, .ref p, .ref t, .ref t2, .ref ch, .ref rs, .int (nI 0), .int f_ct, .int (nI cp)]))] = A_ at hD hS
  refine lv_aload_n hx hb dX5_delete_0 rfl (lv_at hl 0 rfl) ?_
  refine va_get (D := X.1) (ci := 5) (v := .int (nI 0)) (C := RX5) (T := TX5) (N := 12) hx hb hts hin5 hown hK hP 0 rfl rfl 9 (by decide) lk65 (fun _ h9 => h9) rfl dX5_delete_1 ?_
  refine lv_if_ne (tgt := 10) hx hb dX5_delete_4 (by decide) (fun c_4 => ?_) (fun c_4 => ?_)
  · exact absurd c_4 (by decide)
  · skip
    refine lv_bipush (v := (-2)) hx hb dX5_delete_7 (by decide) ?_
    refine wM hQ ?_
    exact rtRI hx hb hr hlocks (rfl) dX5_delete_9
set_option maxHeartbeats 4000000 in
set_option maxRecDepth 100000 in
theorem c_X5_get_off (l : Launch) (X : kX) (a d p t t2 ch rs sp bl bk cp : Nat) (f_ct : Int32) (s_ x y : Int32) : CRi l X yX5_get wsX5_get 0 [.ref a, .int s_, .int x, .int y] [(a, .inr (5, [.int (nI bl), .int (nI bk), .int (nI sp), .ref d, .ref p, .ref t, .ref t2, .ref ch, .ref rs, .int (nI 0), .int f_ct, .int (nI cp)]))] (fun r => r = -2) := by
  refine Met.ofW (cc := cX5_get) (maxL := 5) (ret := some (.int)) (by decide) rfl ?_
  intro pz ez sz mz args below meth cz s₁ Bz hml hv
  obtain ⟨rfl, hP, hK, hD0, hN⟩ := hv
  have hx := Bz.exec
  have hb := Bz.bytes
  have hr := Bz.returns
  have hts := atoms_spec (ws := wsX5_get) Bz.pre
  have hown : sz.vm.findClass RX5 = some mz.cls := findClass_of_methodNamed Bz.named
  have hlocks := Bz.notSynchronized
  have hD := inW.self hD0
  have hS : va_S (inW [(a, .inr (5, [.int (nI bl), .int (nI bk), .int (nI sp), .ref d, .ref p, .ref t, .ref t2, .ref ch, .ref rs, .int (nI 0), .int f_ct, .int (nI cp)]))]) sz.heap sz.heap [] := va_S.rf
  have hl := lv_entry ([.ref a, .int s_, .int x, .int y]) (n := 5) (Nat.le_of_ble_eq_true rfl)
  rw [lg_entry_eq]
  generalize (lg_sl ([.ref a, .int s_, .int x, .int y]) ++ List.replicate (5 - (lg_sl ([.ref a, .int s_, .int x, .int y])).length) Slot.unset).toArray = ls at hl ⊢
  have hl : lv_has ls 5 [(0, .ref a), (1, .int s_), (2, .int x), (3, .int y)] := hl
  have lk65 := hts (.fieldLink RX5 65 "PointStore" "powered" "Z") (by decide +kernel)
  have hin5 : ∀ w ∈ u_ws RX5 TX5 12, w ∈ wsX5_get := by decide +kernel
  refine wQ (fun Q hQ => ?_)
  generalize hAe : inW [(a, .inr (5, [.int (nI bl), .int (nI bk), .int (nI sp), .ref d, .ref p, .ref t, .ref t2, .ref ch, .ref rs, .int (nI 0), .int f_ct, .int (nI cp)]))] = A_ at hD hS
  refine lv_aload_n hx hb dX5_get_0 rfl (lv_at hl 0 rfl) ?_
  refine va_get (D := X.1) (ci := 5) (v := .int (nI 0)) (C := RX5) (T := TX5) (N := 12) hx hb hts hin5 hown hK hP 0 rfl rfl 9 (by decide) lk65 (fun _ h9 => h9) rfl dX5_get_1 ?_
  refine lv_if_ne (tgt := 10) hx hb dX5_get_4 (by decide) (fun c_4 => ?_) (fun c_4 => ?_)
  · exact absurd c_4 (by decide)
  · skip
    refine lv_bipush (v := (-2)) hx hb dX5_get_7 (by decide) ?_
    refine wM hQ ?_
    exact rtRI hx hb hr hlocks (rfl) dX5_get_9
set_option maxHeartbeats 4000000 in
set_option maxRecDepth 100000 in
theorem c_X5_window_off (l : Launch) (X : kX) (a d p t t2 ch rs sp bl bk cp : Nat) (f_ct : Int32) (s_ x0 y0 x1 y1 : Int32) : CRi l X yX5_window wsX5_window 0 [.ref a, .int s_, .int x0, .int y0, .int x1, .int y1] [(a, .inr (5, [.int (nI bl), .int (nI bk), .int (nI sp), .ref d, .ref p, .ref t, .ref t2, .ref ch, .ref rs, .int (nI 0), .int f_ct, .int (nI cp)]))] (fun r => r = -2) := by
  refine Met.ofW (cc := cX5_window) (maxL := 9) (ret := some (.int)) (by decide) rfl ?_
  intro pz ez sz mz args below meth cz s₁ Bz hml hv
  obtain ⟨rfl, hP, hK, hD0, hN⟩ := hv
  have hx := Bz.exec
  have hb := Bz.bytes
  have hr := Bz.returns
  have hts := atoms_spec (ws := wsX5_window) Bz.pre
  have hown : sz.vm.findClass RX5 = some mz.cls := findClass_of_methodNamed Bz.named
  have hlocks := Bz.notSynchronized
  have hD := inW.self hD0
  have hS : va_S (inW [(a, .inr (5, [.int (nI bl), .int (nI bk), .int (nI sp), .ref d, .ref p, .ref t, .ref t2, .ref ch, .ref rs, .int (nI 0), .int f_ct, .int (nI cp)]))]) sz.heap sz.heap [] := va_S.rf
  have hl := lv_entry ([.ref a, .int s_, .int x0, .int y0, .int x1, .int y1]) (n := 9) (Nat.le_of_ble_eq_true rfl)
  rw [lg_entry_eq]
  generalize (lg_sl ([.ref a, .int s_, .int x0, .int y0, .int x1, .int y1]) ++ List.replicate (9 - (lg_sl ([.ref a, .int s_, .int x0, .int y0, .int x1, .int y1])).length) Slot.unset).toArray = ls at hl ⊢
  have hl : lv_has ls 9 [(0, .ref a), (1, .int s_), (2, .int x0), (3, .int y0), (4, .int x1), (5, .int y1)] := hl
  have lk65 := hts (.fieldLink RX5 65 "PointStore" "powered" "Z") (by decide +kernel)
  have hin5 : ∀ w ∈ u_ws RX5 TX5 12, w ∈ wsX5_window := by decide +kernel
  refine wQ (fun Q hQ => ?_)
  generalize hAe : inW [(a, .inr (5, [.int (nI bl), .int (nI bk), .int (nI sp), .ref d, .ref p, .ref t, .ref t2, .ref ch, .ref rs, .int (nI 0), .int f_ct, .int (nI cp)]))] = A_ at hD hS
  refine lv_aload_n hx hb dX5_window_0 rfl (lv_at hl 0 rfl) ?_
  refine va_get (D := X.1) (ci := 5) (v := .int (nI 0)) (C := RX5) (T := TX5) (N := 12) hx hb hts hin5 hown hK hP 0 rfl rfl 9 (by decide) lk65 (fun _ h9 => h9) rfl dX5_window_1 ?_
  refine lv_if_ne (tgt := 10) hx hb dX5_window_4 (by decide) (fun c_4 => ?_) (fun c_4 => ?_)
  · exact absurd c_4 (by decide)
  · skip
    refine lv_bipush (v := (-2)) hx hb dX5_window_7 (by decide) ?_
    refine wM hQ ?_
    exact rtRI hx hb hr hlocks (rfl) dX5_window_9
set_option maxHeartbeats 4000000 in
set_option maxRecDepth 100000 in
theorem c_X5_nearest_off (l : Launch) (X : kX) (a d p t t2 ch rs sp bl bk cp : Nat) (f_ct : Int32) (s_ x y kq : Int32) : CRi l X yX5_nearest wsX5_nearest 0 [.ref a, .int s_, .int x, .int y, .int kq] [(a, .inr (5, [.int (nI bl), .int (nI bk), .int (nI sp), .ref d, .ref p, .ref t, .ref t2, .ref ch, .ref rs, .int (nI 0), .int f_ct, .int (nI cp)]))] (fun r => r = -2) := by
  refine Met.ofW (cc := cX5_nearest) (maxL := 8) (ret := some (.int)) (by decide) rfl ?_
  intro pz ez sz mz args below meth cz s₁ Bz hml hv
  obtain ⟨rfl, hP, hK, hD0, hN⟩ := hv
  have hx := Bz.exec
  have hb := Bz.bytes
  have hr := Bz.returns
  have hts := atoms_spec (ws := wsX5_nearest) Bz.pre
  have hown : sz.vm.findClass RX5 = some mz.cls := findClass_of_methodNamed Bz.named
  have hlocks := Bz.notSynchronized
  have hD := inW.self hD0
  have hS : va_S (inW [(a, .inr (5, [.int (nI bl), .int (nI bk), .int (nI sp), .ref d, .ref p, .ref t, .ref t2, .ref ch, .ref rs, .int (nI 0), .int f_ct, .int (nI cp)]))]) sz.heap sz.heap [] := va_S.rf
  have hl := lv_entry ([.ref a, .int s_, .int x, .int y, .int kq]) (n := 8) (Nat.le_of_ble_eq_true rfl)
  rw [lg_entry_eq]
  generalize (lg_sl ([.ref a, .int s_, .int x, .int y, .int kq]) ++ List.replicate (8 - (lg_sl ([.ref a, .int s_, .int x, .int y, .int kq])).length) Slot.unset).toArray = ls at hl ⊢
  have hl : lv_has ls 8 [(0, .ref a), (1, .int s_), (2, .int x), (3, .int y), (4, .int kq)] := hl
  have lk65 := hts (.fieldLink RX5 65 "PointStore" "powered" "Z") (by decide +kernel)
  have hin5 : ∀ w ∈ u_ws RX5 TX5 12, w ∈ wsX5_nearest := by decide +kernel
  refine wQ (fun Q hQ => ?_)
  generalize hAe : inW [(a, .inr (5, [.int (nI bl), .int (nI bk), .int (nI sp), .ref d, .ref p, .ref t, .ref t2, .ref ch, .ref rs, .int (nI 0), .int f_ct, .int (nI cp)]))] = A_ at hD hS
  refine lv_aload_n hx hb dX5_nearest_0 rfl (lv_at hl 0 rfl) ?_
  refine va_get (D := X.1) (ci := 5) (v := .int (nI 0)) (C := RX5) (T := TX5) (N := 12) hx hb hts hin5 hown hK hP 0 rfl rfl 9 (by decide) lk65 (fun _ h9 => h9) rfl dX5_nearest_1 ?_
  refine lv_if_ne (tgt := 10) hx hb dX5_nearest_4 (by decide) (fun c_4 => ?_) (fun c_4 => ?_)
  · exact absurd c_4 (by decide)
  · skip
    refine lv_bipush (v := (-2)) hx hb dX5_nearest_7 (by decide) ?_
    refine wM hQ ?_
    exact rtRI hx hb hr hlocks (rfl) dX5_nearest_9
set_option maxHeartbeats 4000000 in
set_option maxRecDepth 100000 in
theorem c_X5_differs_off (l : Launch) (X : kX) (a d p t t2 ch rs sp bl bk cp : Nat) (f_ct : Int32) : CRi l X yX5_differs wsX5_differs 0 [.ref a] [(a, .inr (5, [.int (nI bl), .int (nI bk), .int (nI sp), .ref d, .ref p, .ref t, .ref t2, .ref ch, .ref rs, .int (nI 0), .int f_ct, .int (nI cp)]))] (fun r => r = -2) := by
  refine Met.ofW (cc := cX5_differs) (maxL := 10) (ret := some (.int)) (by decide) rfl ?_
  intro pz ez sz mz args below meth cz s₁ Bz hml hv
  obtain ⟨rfl, hP, hK, hD0, hN⟩ := hv
  have hx := Bz.exec
  have hb := Bz.bytes
  have hr := Bz.returns
  have hts := atoms_spec (ws := wsX5_differs) Bz.pre
  have hown : sz.vm.findClass RX5 = some mz.cls := findClass_of_methodNamed Bz.named
  have hlocks := Bz.notSynchronized
  have hD := inW.self hD0
  have hS : va_S (inW [(a, .inr (5, [.int (nI bl), .int (nI bk), .int (nI sp), .ref d, .ref p, .ref t, .ref t2, .ref ch, .ref rs, .int (nI 0), .int f_ct, .int (nI cp)]))]) sz.heap sz.heap [] := va_S.rf
  have hl := lv_entry ([.ref a]) (n := 10) (Nat.le_of_ble_eq_true rfl)
  rw [lg_entry_eq]
  generalize (lg_sl ([.ref a]) ++ List.replicate (10 - (lg_sl ([.ref a])).length) Slot.unset).toArray = ls at hl ⊢
  have hl : lv_has ls 10 [(0, .ref a)] := hl
  have lk65 := hts (.fieldLink RX5 65 "PointStore" "powered" "Z") (by decide +kernel)
  have hin5 : ∀ w ∈ u_ws RX5 TX5 12, w ∈ wsX5_differs := by decide +kernel
  refine wQ (fun Q hQ => ?_)
  generalize hAe : inW [(a, .inr (5, [.int (nI bl), .int (nI bk), .int (nI sp), .ref d, .ref p, .ref t, .ref t2, .ref ch, .ref rs, .int (nI 0), .int f_ct, .int (nI cp)]))] = A_ at hD hS
  refine lv_aload_n hx hb dX5_differs_0 rfl (lv_at hl 0 rfl) ?_
  refine va_get (D := X.1) (ci := 5) (v := .int (nI 0)) (C := RX5) (T := TX5) (N := 12) hx hb hts hin5 hown hK hP 0 rfl rfl 9 (by decide) lk65 (fun _ h9 => h9) rfl dX5_differs_1 ?_
  refine lv_if_ne (tgt := 10) hx hb dX5_differs_4 (by decide) (fun c_4 => ?_) (fun c_4 => ?_)
  · exact absurd c_4 (by decide)
  · skip
    refine lv_bipush (v := (-2)) hx hb dX5_differs_7 (by decide) ?_
    refine wM hQ ?_
    exact rtRI hx hb hr hlocks (rfl) dX5_differs_9
set_option maxHeartbeats 4000000 in
set_option maxRecDepth 100000 in
theorem c_X5_commit_off (l : Launch) (X : kX) (a d p t t2 ch rs sp bl bk cp : Nat) (f_ct : Int32) : CRi l X yX5_commit wsX5_commit 0 [.ref a] [(a, .inr (5, [.int (nI bl), .int (nI bk), .int (nI sp), .ref d, .ref p, .ref t, .ref t2, .ref ch, .ref rs, .int (nI 0), .int f_ct, .int (nI cp)]))] (fun r => r = -2) := by
  refine Met.ofW (cc := cX5_commit) (maxL := 2) (ret := some (.int)) (by decide) rfl ?_
  intro pz ez sz mz args below meth cz s₁ Bz hml hv
  obtain ⟨rfl, hP, hK, hD0, hN⟩ := hv
  have hx := Bz.exec
  have hb := Bz.bytes
  have hr := Bz.returns
  have hts := atoms_spec (ws := wsX5_commit) Bz.pre
  have hown : sz.vm.findClass RX5 = some mz.cls := findClass_of_methodNamed Bz.named
  have hlocks := Bz.notSynchronized
  have hD := inW.self hD0
  have hS : va_S (inW [(a, .inr (5, [.int (nI bl), .int (nI bk), .int (nI sp), .ref d, .ref p, .ref t, .ref t2, .ref ch, .ref rs, .int (nI 0), .int f_ct, .int (nI cp)]))]) sz.heap sz.heap [] := va_S.rf
  have hl := lv_entry ([.ref a]) (n := 2) (Nat.le_of_ble_eq_true rfl)
  rw [lg_entry_eq]
  generalize (lg_sl ([.ref a]) ++ List.replicate (2 - (lg_sl ([.ref a])).length) Slot.unset).toArray = ls at hl ⊢
  have hl : lv_has ls 2 [(0, .ref a)] := hl
  have lk65 := hts (.fieldLink RX5 65 "PointStore" "powered" "Z") (by decide +kernel)
  have hin5 : ∀ w ∈ u_ws RX5 TX5 12, w ∈ wsX5_commit := by decide +kernel
  refine wQ (fun Q hQ => ?_)
  generalize hAe : inW [(a, .inr (5, [.int (nI bl), .int (nI bk), .int (nI sp), .ref d, .ref p, .ref t, .ref t2, .ref ch, .ref rs, .int (nI 0), .int f_ct, .int (nI cp)]))] = A_ at hD hS
  refine lv_aload_n hx hb dX5_commit_0 rfl (lv_at hl 0 rfl) ?_
  refine va_get (D := X.1) (ci := 5) (v := .int (nI 0)) (C := RX5) (T := TX5) (N := 12) hx hb hts hin5 hown hK hP 0 rfl rfl 9 (by decide) lk65 (fun _ h9 => h9) rfl dX5_commit_1 ?_
  refine lv_if_ne (tgt := 10) hx hb dX5_commit_4 (by decide) (fun c_4 => ?_) (fun c_4 => ?_)
  · exact absurd c_4 (by decide)
  · skip
    refine lv_bipush (v := (-2)) hx hb dX5_commit_7 (by decide) ?_
    refine wM hQ ?_
    exact rtRI hx hb hr hlocks (rfl) dX5_commit_9
set_option maxHeartbeats 4000000 in
set_option maxRecDepth 100000 in
theorem c_X5_abort_off (l : Launch) (X : kX) (a d p t t2 ch rs sp bl bk cp : Nat) (f_ct : Int32) : CRi l X yX5_abort wsX5_abort 0 [.ref a] [(a, .inr (5, [.int (nI bl), .int (nI bk), .int (nI sp), .ref d, .ref p, .ref t, .ref t2, .ref ch, .ref rs, .int (nI 0), .int f_ct, .int (nI cp)]))] (fun r => r = -2) := by
  refine Met.ofW (cc := cX5_abort) (maxL := 2) (ret := some (.int)) (by decide) rfl ?_
  intro pz ez sz mz args below meth cz s₁ Bz hml hv
  obtain ⟨rfl, hP, hK, hD0, hN⟩ := hv
  have hx := Bz.exec
  have hb := Bz.bytes
  have hr := Bz.returns
  have hts := atoms_spec (ws := wsX5_abort) Bz.pre
  have hown : sz.vm.findClass RX5 = some mz.cls := findClass_of_methodNamed Bz.named
  have hlocks := Bz.notSynchronized
  have hD := inW.self hD0
  have hS : va_S (inW [(a, .inr (5, [.int (nI bl), .int (nI bk), .int (nI sp), .ref d, .ref p, .ref t, .ref t2, .ref ch, .ref rs, .int (nI 0), .int f_ct, .int (nI cp)]))]) sz.heap sz.heap [] := va_S.rf
  have hl := lv_entry ([.ref a]) (n := 2) (Nat.le_of_ble_eq_true rfl)
  rw [lg_entry_eq]
  generalize (lg_sl ([.ref a]) ++ List.replicate (2 - (lg_sl ([.ref a])).length) Slot.unset).toArray = ls at hl ⊢
  have hl : lv_has ls 2 [(0, .ref a)] := hl
  have lk65 := hts (.fieldLink RX5 65 "PointStore" "powered" "Z") (by decide +kernel)
  have hin5 : ∀ w ∈ u_ws RX5 TX5 12, w ∈ wsX5_abort := by decide +kernel
  refine wQ (fun Q hQ => ?_)
  generalize hAe : inW [(a, .inr (5, [.int (nI bl), .int (nI bk), .int (nI sp), .ref d, .ref p, .ref t, .ref t2, .ref ch, .ref rs, .int (nI 0), .int f_ct, .int (nI cp)]))] = A_ at hD hS
  refine lv_aload_n hx hb dX5_abort_0 rfl (lv_at hl 0 rfl) ?_
  refine va_get (D := X.1) (ci := 5) (v := .int (nI 0)) (C := RX5) (T := TX5) (N := 12) hx hb hts hin5 hown hK hP 0 rfl rfl 9 (by decide) lk65 (fun _ h9 => h9) rfl dX5_abort_1 ?_
  refine lv_if_ne (tgt := 10) hx hb dX5_abort_4 (by decide) (fun c_4 => ?_) (fun c_4 => ?_)
  · exact absurd c_4 (by decide)
  · skip
    refine lv_bipush (v := (-2)) hx hb dX5_abort_7 (by decide) ?_
    refine wM hQ ?_
    exact rtRI hx hb hr hlocks (rfl) dX5_abort_9
set_option maxHeartbeats 4000000 in
set_option maxRecDepth 100000 in
theorem c_X5_format_off (l : Launch) (X : kX) (a d p t t2 ch rs sp bl bk cp : Nat) (f_ct : Int32) : CRi l X yX5_format wsX5_format 0 [.ref a] [(a, .inr (5, [.int (nI bl), .int (nI bk), .int (nI sp), .ref d, .ref p, .ref t, .ref t2, .ref ch, .ref rs, .int (nI 0), .int f_ct, .int (nI cp)]))] (fun r => r = -2) := by
  refine Met.ofW (cc := cX5_format) (maxL := 1) (ret := some (.int)) (by decide) rfl ?_
  intro pz ez sz mz args below meth cz s₁ Bz hml hv
  obtain ⟨rfl, hP, hK, hD0, hN⟩ := hv
  have hx := Bz.exec
  have hb := Bz.bytes
  have hr := Bz.returns
  have hts := atoms_spec (ws := wsX5_format) Bz.pre
  have hown : sz.vm.findClass RX5 = some mz.cls := findClass_of_methodNamed Bz.named
  have hlocks := Bz.notSynchronized
  have hD := inW.self hD0
  have hS : va_S (inW [(a, .inr (5, [.int (nI bl), .int (nI bk), .int (nI sp), .ref d, .ref p, .ref t, .ref t2, .ref ch, .ref rs, .int (nI 0), .int f_ct, .int (nI cp)]))]) sz.heap sz.heap [] := va_S.rf
  have hl := lv_entry ([.ref a]) (n := 1) (Nat.le_of_ble_eq_true rfl)
  rw [lg_entry_eq]
  generalize (lg_sl ([.ref a]) ++ List.replicate (1 - (lg_sl ([.ref a])).length) Slot.unset).toArray = ls at hl ⊢
  have hl : lv_has ls 1 [(0, .ref a)] := hl
  have lk65 := hts (.fieldLink RX5 65 "PointStore" "powered" "Z") (by decide +kernel)
  have hin5 : ∀ w ∈ u_ws RX5 TX5 12, w ∈ wsX5_format := by decide +kernel
  refine wQ (fun Q hQ => ?_)
  generalize hAe : inW [(a, .inr (5, [.int (nI bl), .int (nI bk), .int (nI sp), .ref d, .ref p, .ref t, .ref t2, .ref ch, .ref rs, .int (nI 0), .int f_ct, .int (nI cp)]))] = A_ at hD hS
  refine lv_aload_n hx hb dX5_format_0 rfl (lv_at hl 0 rfl) ?_
  refine va_get (D := X.1) (ci := 5) (v := .int (nI 0)) (C := RX5) (T := TX5) (N := 12) hx hb hts hin5 hown hK hP 0 rfl rfl 9 (by decide) lk65 (fun _ h9 => h9) rfl dX5_format_1 ?_
  refine lv_if_ne (tgt := 10) hx hb dX5_format_4 (by decide) (fun c_4 => ?_) (fun c_4 => ?_)
  · exact absurd c_4 (by decide)
  · skip
    refine lv_bipush (v := (-2)) hx hb dX5_format_7 (by decide) ?_
    refine wM hQ ?_
    exact rtRI hx hb hr hlocks (rfl) dX5_format_9
set_option maxHeartbeats 4000000 in
set_option maxRecDepth 100000 in
theorem c_X5_node_off (l : Launch) (X : kX) (a d p t t2 ch rs sp bl bk cp : Nat) (f_ct : Int32) (s_ x y : Int32) : CRi l X yX5_node wsX5_node 0 [.ref a, .int s_, .int x, .int y] [(a, .inr (5, [.int (nI bl), .int (nI bk), .int (nI sp), .ref d, .ref p, .ref t, .ref t2, .ref ch, .ref rs, .int (nI 0), .int f_ct, .int (nI cp)]))] (fun r => r = -2) := by
  refine Met.ofW (cc := cX5_node) (maxL := 5) (ret := some (.int)) (by decide) rfl ?_
  intro pz ez sz mz args below meth cz s₁ Bz hml hv
  obtain ⟨rfl, hP, hK, hD0, hN⟩ := hv
  have hx := Bz.exec
  have hb := Bz.bytes
  have hr := Bz.returns
  have hts := atoms_spec (ws := wsX5_node) Bz.pre
  have hown : sz.vm.findClass RX5 = some mz.cls := findClass_of_methodNamed Bz.named
  have hlocks := Bz.notSynchronized
  have hD := inW.self hD0
  have hS : va_S (inW [(a, .inr (5, [.int (nI bl), .int (nI bk), .int (nI sp), .ref d, .ref p, .ref t, .ref t2, .ref ch, .ref rs, .int (nI 0), .int f_ct, .int (nI cp)]))]) sz.heap sz.heap [] := va_S.rf
  have hl := lv_entry ([.ref a, .int s_, .int x, .int y]) (n := 5) (Nat.le_of_ble_eq_true rfl)
  rw [lg_entry_eq]
  generalize (lg_sl ([.ref a, .int s_, .int x, .int y]) ++ List.replicate (5 - (lg_sl ([.ref a, .int s_, .int x, .int y])).length) Slot.unset).toArray = ls at hl ⊢
  have hl : lv_has ls 5 [(0, .ref a), (1, .int s_), (2, .int x), (3, .int y)] := hl
  have lk65 := hts (.fieldLink RX5 65 "PointStore" "powered" "Z") (by decide +kernel)
  have hin5 : ∀ w ∈ u_ws RX5 TX5 12, w ∈ wsX5_node := by decide +kernel
  refine wQ (fun Q hQ => ?_)
  generalize hAe : inW [(a, .inr (5, [.int (nI bl), .int (nI bk), .int (nI sp), .ref d, .ref p, .ref t, .ref t2, .ref ch, .ref rs, .int (nI 0), .int f_ct, .int (nI cp)]))] = A_ at hD hS
  refine lv_aload_n hx hb dX5_node_0 rfl (lv_at hl 0 rfl) ?_
  refine va_get (D := X.1) (ci := 5) (v := .int (nI 0)) (C := RX5) (T := TX5) (N := 12) hx hb hts hin5 hown hK hP 0 rfl rfl 9 (by decide) lk65 (fun _ h9 => h9) rfl dX5_node_1 ?_
  refine lv_if_ne (tgt := 10) hx hb dX5_node_4 (by decide) (fun c_4 => ?_) (fun c_4 => ?_)
  · exact absurd c_4 (by decide)
  · skip
    refine lv_bipush (v := (-2)) hx hb dX5_node_7 (by decide) ?_
    refine wM hQ ?_
    exact rtRI hx hb hr hlocks (rfl) dX5_node_9
set_option maxHeartbeats 4000000 in
set_option maxRecDepth 100000 in
theorem c_X5_count_off (l : Launch) (X : kX) (a d p t t2 ch rs sp bl bk cp : Nat) (f_ct : Int32) (x : Int32) : CRi l X yX5_count wsX5_count 0 [.ref a, .int x] [(a, .inr (5, [.int (nI bl), .int (nI bk), .int (nI sp), .ref d, .ref p, .ref t, .ref t2, .ref ch, .ref rs, .int (nI 0), .int f_ct, .int (nI cp)]))] (fun r => r = -2) := by
  refine Met.ofW (cc := cX5_count) (maxL := 2) (ret := some (.int)) (by decide) rfl ?_
  intro pz ez sz mz args below meth cz s₁ Bz hml hv
  obtain ⟨rfl, hP, hK, hD0, hN⟩ := hv
  have hx := Bz.exec
  have hb := Bz.bytes
  have hr := Bz.returns
  have hts := atoms_spec (ws := wsX5_count) Bz.pre
  have hown : sz.vm.findClass RX5 = some mz.cls := findClass_of_methodNamed Bz.named
  have hlocks := Bz.notSynchronized
  have hD := inW.self hD0
  have hS : va_S (inW [(a, .inr (5, [.int (nI bl), .int (nI bk), .int (nI sp), .ref d, .ref p, .ref t, .ref t2, .ref ch, .ref rs, .int (nI 0), .int f_ct, .int (nI cp)]))]) sz.heap sz.heap [] := va_S.rf
  have hl := lv_entry ([.ref a, .int x]) (n := 2) (Nat.le_of_ble_eq_true rfl)
  rw [lg_entry_eq]
  generalize (lg_sl ([.ref a, .int x]) ++ List.replicate (2 - (lg_sl ([.ref a, .int x])).length) Slot.unset).toArray = ls at hl ⊢
  have hl : lv_has ls 2 [(0, .ref a), (1, .int x)] := hl
  have lk65 := hts (.fieldLink RX5 65 "PointStore" "powered" "Z") (by decide +kernel)
  have hin5 : ∀ w ∈ u_ws RX5 TX5 12, w ∈ wsX5_count := by decide +kernel
  refine wQ (fun Q hQ => ?_)
  generalize hAe : inW [(a, .inr (5, [.int (nI bl), .int (nI bk), .int (nI sp), .ref d, .ref p, .ref t, .ref t2, .ref ch, .ref rs, .int (nI 0), .int f_ct, .int (nI cp)]))] = A_ at hD hS
  refine lv_aload_n hx hb dX5_count_0 rfl (lv_at hl 0 rfl) ?_
  refine va_get (D := X.1) (ci := 5) (v := .int (nI 0)) (C := RX5) (T := TX5) (N := 12) hx hb hts hin5 hown hK hP 0 rfl rfl 9 (by decide) lk65 (fun _ h9 => h9) rfl dX5_count_1 ?_
  refine lv_if_ne (tgt := 10) hx hb dX5_count_4 (by decide) (fun c_4 => ?_) (fun c_4 => ?_)
  · exact absurd c_4 (by decide)
  · skip
    refine lv_bipush (v := (-2)) hx hb dX5_count_7 (by decide) ?_
    refine wM hQ ?_
    exact rtRI hx hb hr hlocks (rfl) dX5_count_9
set_option maxHeartbeats 4000000 in
set_option maxRecDepth 100000 in
theorem c_X5_sum_off (l : Launch) (X : kX) (a d p t t2 ch rs sp bl bk cp : Nat) (f_ct : Int32) (s_ x0 y0 x1 y1 : Int32) : CRl l X yX5_sum wsX5_sum 0 [.ref a, .int s_, .int x0, .int y0, .int x1, .int y1] [(a, .inr (5, [.int (nI bl), .int (nI bk), .int (nI sp), .ref d, .ref p, .ref t, .ref t2, .ref ch, .ref rs, .int (nI 0), .int f_ct, .int (nI cp)]))] (fun r => r = -2) := by
  refine Met.ofW (cc := cX5_sum) (maxL := 10) (ret := some (.long)) (by decide) rfl ?_
  intro pz ez sz mz args below meth cz s₁ Bz hml hv
  obtain ⟨rfl, hP, hK, hD0, hN⟩ := hv
  have hx := Bz.exec
  have hb := Bz.bytes
  have hr := Bz.returns
  have hts := atoms_spec (ws := wsX5_sum) Bz.pre
  have hown : sz.vm.findClass RX5 = some mz.cls := findClass_of_methodNamed Bz.named
  have hlocks := Bz.notSynchronized
  have hD := inW.self hD0
  have hS : va_S (inW [(a, .inr (5, [.int (nI bl), .int (nI bk), .int (nI sp), .ref d, .ref p, .ref t, .ref t2, .ref ch, .ref rs, .int (nI 0), .int f_ct, .int (nI cp)]))]) sz.heap sz.heap [] := va_S.rf
  have hl := lv_entry ([.ref a, .int s_, .int x0, .int y0, .int x1, .int y1]) (n := 10) (Nat.le_of_ble_eq_true rfl)
  rw [lg_entry_eq]
  generalize (lg_sl ([.ref a, .int s_, .int x0, .int y0, .int x1, .int y1]) ++ List.replicate (10 - (lg_sl ([.ref a, .int s_, .int x0, .int y0, .int x1, .int y1])).length) Slot.unset).toArray = ls at hl ⊢
  have hl : lv_has ls 10 [(0, .ref a), (1, .int s_), (2, .int x0), (3, .int y0), (4, .int x1), (5, .int y1)] := hl
  have lk65 := hts (.fieldLink RX5 65 "PointStore" "powered" "Z") (by decide +kernel)
  have hin5 : ∀ w ∈ u_ws RX5 TX5 12, w ∈ wsX5_sum := by decide +kernel
  refine wQ (fun Q hQ => ?_)
  generalize hAe : inW [(a, .inr (5, [.int (nI bl), .int (nI bk), .int (nI sp), .ref d, .ref p, .ref t, .ref t2, .ref ch, .ref rs, .int (nI 0), .int f_ct, .int (nI cp)]))] = A_ at hD hS
  refine lv_aload_n hx hb dX5_sum_0 rfl (lv_at hl 0 rfl) ?_
  refine va_get (D := X.1) (ci := 5) (v := .int (nI 0)) (C := RX5) (T := TX5) (N := 12) hx hb hts hin5 hown hK hP 0 rfl rfl 9 (by decide) lk65 (fun _ h9 => h9) rfl dX5_sum_1 ?_
  refine lv_if_ne (tgt := 11) hx hb dX5_sum_4 (by decide) (fun c_4 => ?_) (fun c_4 => ?_)
  · exact absurd c_4 (by decide)
  · skip
    refine lv_ldc2 (v := -2) hx hb hown (hts (.constantLong RX5 160 (-2)) (by decide +kernel)) dX5_sum_7 ?_
    refine wM hQ ?_
    exact rtRL hx hb hr hlocks (rfl) dX5_sum_10
set_option maxHeartbeats 4000000 in
set_option maxRecDepth 100000 in
theorem c_X5_size (l : Launch) (X : kX) (a d p t t2 ch rs sp bl bk cp : Nat) (f_ct : Int32) (rk_ rv rd n : Nat) (f_pw : Int32) : CRi l X yX5_size wsX5_size 0 [.ref a] [(a, .inr (5, [.int (nI bl), .int (nI bk), .int (nI sp), .ref d, .ref p, .ref t, .ref t2, .ref ch, .ref rs, .int f_pw, .int f_ct, .int (nI cp)])), (rs, .inr (3, [.ref rk_, .ref rv, .ref rd, .int (nI n)]))] (fun r => r = nI n) := by
  refine Met.ofW (cc := cX5_size) (maxL := 1) (ret := some (.int)) (by decide) rfl ?_
  intro pz ez sz mz args below meth cz s₁ Bz hml hv
  obtain ⟨rfl, hP, hK, hD0, hN⟩ := hv
  have hx := Bz.exec
  have hb := Bz.bytes
  have hr := Bz.returns
  have hts := atoms_spec (ws := wsX5_size) Bz.pre
  have hown : sz.vm.findClass RX5 = some mz.cls := findClass_of_methodNamed Bz.named
  have hlocks := Bz.notSynchronized
  have hD := inW.self hD0
  have hS : va_S (inW [(a, .inr (5, [.int (nI bl), .int (nI bk), .int (nI sp), .ref d, .ref p, .ref t, .ref t2, .ref ch, .ref rs, .int f_pw, .int f_ct, .int (nI cp)])), (rs, .inr (3, [.ref rk_, .ref rv, .ref rd, .int (nI n)]))]) sz.heap sz.heap [] := va_S.rf
  have hl := lv_entry ([.ref a]) (n := 1) (Nat.le_of_ble_eq_true rfl)
  rw [lg_entry_eq]
  generalize (lg_sl ([.ref a]) ++ List.replicate (1 - (lg_sl ([.ref a])).length) Slot.unset).toArray = ls at hl ⊢
  have hl : lv_has ls 1 [(0, .ref a)] := hl
  have lk61 := hts (.fieldLink RX5 61 "PointStore" "results" "LPointStore$Results;") (by decide +kernel)
  have lk139 := hts (.fieldLink RX5 139 "PointStore$Results" "total" "I") (by decide +kernel)
  have hin3 : ∀ w ∈ u_ws RX3 TX3 4, w ∈ wsX5_size := by decide +kernel
  have hin5 : ∀ w ∈ u_ws RX5 TX5 12, w ∈ wsX5_size := by decide +kernel
  refine wQ (fun Q hQ => ?_)
  generalize hAe : inW [(a, .inr (5, [.int (nI bl), .int (nI bk), .int (nI sp), .ref d, .ref p, .ref t, .ref t2, .ref ch, .ref rs, .int f_pw, .int f_ct, .int (nI cp)])), (rs, .inr (3, [.ref rk_, .ref rv, .ref rd, .int (nI n)]))] = A_ at hD hS
  refine lv_aload_n hx hb dX5_size_0 rfl (lv_at hl 0 rfl) ?_
  refine va_get (D := X.1) (ci := 5) (v := .ref rs) (C := RX5) (T := TX5) (N := 12) hx hb hts hin5 hown hK hP 0 rfl rfl 8 (by decide) lk61 (fun _ h9 => h9) rfl dX5_size_1 ?_
  refine va_get (D := X.1) (ci := 3) (v := .int (nI n)) (C := RX3) (T := TX3) (N := 4) hx hb hts hin3 hown hK hP 1 rfl rfl 3 (by decide) lk139 (fun _ h9 => h9) rfl dX5_size_4 ?_
  refine wM hQ ?_
  exact rtRI hx hb hr hlocks (rfl) dX5_size_7
set_option maxHeartbeats 4000000 in
set_option maxRecDepth 100000 in
theorem c_X5_result (l : Launch) (X : kX) (a d p t t2 ch rs sp bl bk cp : Nat) (f_ct : Int32) (rk_ rv rd : Nat) (f_pw i q : Int32) (rkf rvf : Nat → Int32) (R : RSL) (h : rsOk rkf rvf R) : CRi l X yX5_result wsX5_result 1 [.ref a, .int i, .int q] [(a, .inr (5, [.int (nI bl), .int (nI bk), .int (nI sp), .ref d, .ref p, .ref t, .ref t2, .ref ch, .ref rs, .int f_pw, .int f_ct, .int (nI cp)])), (rs, .inr (3, [.ref rk_, .ref rv, .ref rd, .int (nI R.length)])), (rk_, .inl (X.2.1, 150, .inl rkf)), (rv, .inl (X.2.1, 150, .inl rvf))] (fun r => r = resV R i q) := by
  refine Met.ofW (cc := cX5_result) (maxL := 3) (ret := some (.int)) (by decide) rfl ?_
  intro pz ez sz mz args below meth cz s₁ Bz hml hv
  obtain ⟨rfl, hP, hK, hD0, hN⟩ := hv
  have hx := Bz.exec
  have hb := Bz.bytes
  have hr := Bz.returns
  have hts := atoms_spec (ws := wsX5_result) Bz.pre
  have hown : sz.vm.findClass RX5 = some mz.cls := findClass_of_methodNamed Bz.named
  have hlocks := Bz.notSynchronized
  have hD := inW.self hD0
  have hS : va_S (inW [(a, .inr (5, [.int (nI bl), .int (nI bk), .int (nI sp), .ref d, .ref p, .ref t, .ref t2, .ref ch, .ref rs, .int f_pw, .int f_ct, .int (nI cp)])), (rs, .inr (3, [.ref rk_, .ref rv, .ref rd, .int (nI R.length)])), (rk_, .inl (X.2.1, 150, .inl rkf)), (rv, .inl (X.2.1, 150, .inl rvf))]) sz.heap sz.heap [] := va_S.rf
  have hl := lv_entry ([.ref a, .int i, .int q]) (n := 3) (Nat.le_of_ble_eq_true rfl)
  rw [lg_entry_eq]
  generalize (lg_sl ([.ref a, .int i, .int q]) ++ List.replicate (3 - (lg_sl ([.ref a, .int i, .int q])).length) Slot.unset).toArray = ls at hl ⊢
  have hl : lv_has ls 3 [(0, .ref a), (1, .int i), (2, .int q)] := hl
  have lk61 := hts (.fieldLink RX5 61 "PointStore" "results" "LPointStore$Results;") (by decide +kernel)
  have lk139 := hts (.fieldLink RX5 139 "PointStore$Results" "total" "I") (by decide +kernel)
  have lk152 := hts (.fieldLink RX5 152 "PointStore$Results" "keys" "[I") (by decide +kernel)
  have lk159 := hts (.fieldLink RX5 159 "PointStore$Results" "values" "[I") (by decide +kernel)
  have hin3 : ∀ w ∈ u_ws RX3 TX3 4, w ∈ wsX5_result := by decide +kernel
  have hin5 : ∀ w ∈ u_ws RX5 TX5 12, w ∈ wsX5_result := by decide +kernel
  refine wQ (fun Q hQ => ?_)
  generalize hAe : inW [(a, .inr (5, [.int (nI bl), .int (nI bk), .int (nI sp), .ref d, .ref p, .ref t, .ref t2, .ref ch, .ref rs, .int f_pw, .int f_ct, .int (nI cp)])), (rs, .inr (3, [.ref rk_, .ref rv, .ref rd, .int (nI R.length)])), (rk_, .inl (X.2.1, 150, .inl rkf)), (rv, .inl (X.2.1, 150, .inl rvf))] = A_ at hD hS
  refine lv_iload_n hx hb dX5_result_0 rfl (lv_at hl 1 rfl) ?_
  refine lv_if_lt (tgt := 15) hx hb dX5_result_1 (by decide) (fun c_1 => ?_) (fun c_1 => ?_)
  · skip
    refine lv_iconst (v := (-1)) hx hb dX5_result_15 (by decide) ?_
    refine wM hQ ?_
    exact rtRI hx hb hr hlocks ((by show _ = _; unfold resV; rw [cif_neg (fun z => by first | exact z.1 c_1 | exact c_12 z.2)])) dX5_result_16
  · skip
    refine lv_iload_n hx hb dX5_result_4 rfl (lv_at hl 1 rfl) ?_
    refine lv_aload_n hx hb dX5_result_5 rfl (lv_at hl 0 rfl) ?_
    refine va_get (D := X.1) (ci := 5) (v := .ref rs) (C := RX5) (T := TX5) (N := 12) hx hb hts hin5 hown hK hP 0 rfl rfl 8 (by decide) lk61 (fun _ h9 => h9) rfl dX5_result_6 ?_
    refine va_get (D := X.1) (ci := 3) (v := .int (nI R.length)) (C := RX3) (T := TX3) (N := 4) hx hb hts hin3 hown hK hP 1 rfl rfl 3 (by decide) lk139 (fun _ h9 => h9) rfl dX5_result_9 ?_
    refine lv_icmp_lt (tgt := 17) hx hb dX5_result_12 (by decide) (fun c_12 => ?_) (fun c_12 => ?_)
    · skip
      obtain ⟨j, hj, rfl⟩ := nI_of c_1
      have hR := h.1
      have hj2 : j < R.length := (nI_ltI (by omega) (by omega)).mp c_12
      have hjk := h.2.1 j hj2
      have hjb : (R.getD j (0, 0)).1 < 2 ^ 30 := h.2.2 _ (by
        have e9 : R.getD j (0, 0) = R[j] := by simp [hj2]
        rw [e9]; exact List.getElem_mem hj2)
      · skip
        refine lv_iload_n hx hb dX5_result_17 rfl (lv_at hl 2 rfl) ?_
        rcases sw_cases q 3 with h_18 | h_18
        · refine lv_tableOut (tgt := 80) hx hb dX5_result_18 (by rcases h_18 with h9 | h9; exact Or.inl h9; right; omega) (by decide) ?_
          refine lv_iconst (v := (-1)) hx hb dX5_result_80 (by decide) ?_
          refine wM hQ ?_
          exact rtRI hx hb hr hlocks ((by show _ = _; unfold resV; rw [cif_pos ⟨c_1, c_12⟩, nI_clamp hj]; rw [cif_neg (sw_ne h_18 (by decide) (by decide)), cif_neg (sw_ne h_18 (by decide) (by decide)), cif_neg (sw_ne h_18 (by decide) (by decide))])) dX5_result_81
        · obtain ⟨j_18, hj_18, rfl⟩ := h_18
          rcases sw_lt3 hj_18 with rfl | rfl | rfl
          · refine lv_tableIn (tgt := 44) hx hb dX5_result_18 (by decide) (by decide) rfl (by decide) ?_
            refine lv_aload_n hx hb dX5_result_44 rfl (lv_at hl 0 rfl) ?_
            refine va_get (D := X.1) (ci := 5) (v := .ref rs) (C := RX5) (T := TX5) (N := 12) hx hb hts hin5 hown hK hP 0 rfl rfl 8 (by decide) lk61 (fun _ h9 => h9) rfl dX5_result_45 ?_
            refine va_get (D := X.1) (ci := 3) (v := .ref rk_) (C := RX3) (T := TX3) (N := 4) hx hb hts hin3 hown hK hP 1 rfl rfl 0 (by decide) lk152 (fun _ h9 => h9) rfl dX5_result_48 ?_
            refine lv_iload_n hx hb dX5_result_51 rfl (lv_at hl 1 rfl) ?_
            have hi_1 : vp_in (nI j) 150 := vp_in_nI (by omega) (by omega)
            refine va_iald hx hb hK hP 2 0 rfl rfl hi_1 dX5_result_52 ?_
            refine lv_topi (fun x_2 ex_2 => ?_)
            obtain rfl : x_2 = rkf j := by
              rw [ex_2]
              rw [nI_clamp (by omega)]
            refine lv_topi (fun x_3 ex_3 => ?_)
            obtain rfl : x_3 = nI ((R.getD j (0, 0)).1) := by
              rw [ex_3]
              exact hjk.1
            refine ckSRi (As := [.int (nI ((R.getD j (0, 0)).1))]) (rest := []) [] (c_X5_xOf l X ((R.getD j (0, 0)).1) hjb) ⟨hx, hb, hml, hown, hts⟩ (va_cwS 1 hts gX5_result_X5_xOf rfl rfl rfl (by decide +kernel) ⟨Nat.le_of_ble_eq_true rfl, Nat.le_of_ble_eq_true rfl⟩) hK hN hP hD (by decide) rfl rfl hl.1 rfl (Nat.le_of_ble_eq_true rfl) dX5_result_53 ⟨Nat.zero_le _, Nat.zero_le _⟩ (fun r_4 hc_53 => ?_)
            subst hc_53
            refine wM hQ ?_
            exact rtRI hx hb hr hlocks ((by show _ = _; unfold resV; rw [cif_pos ⟨c_1, c_12⟩, nI_clamp hj]; rw [cif_pos rfl])) dX5_result_56
          · refine lv_tableIn (tgt := 57) hx hb dX5_result_18 (by decide) (by decide) rfl (by decide) ?_
            refine lv_aload_n hx hb dX5_result_57 rfl (lv_at hl 0 rfl) ?_
            refine va_get (D := X.1) (ci := 5) (v := .ref rs) (C := RX5) (T := TX5) (N := 12) hx hb hts hin5 hown hK hP 0 rfl rfl 8 (by decide) lk61 (fun _ h9 => h9) rfl dX5_result_58 ?_
            refine va_get (D := X.1) (ci := 3) (v := .ref rk_) (C := RX3) (T := TX3) (N := 4) hx hb hts hin3 hown hK hP 1 rfl rfl 0 (by decide) lk152 (fun _ h9 => h9) rfl dX5_result_61 ?_
            refine lv_iload_n hx hb dX5_result_64 rfl (lv_at hl 1 rfl) ?_
            have hi_5 : vp_in (nI j) 150 := vp_in_nI (by omega) (by omega)
            refine va_iald hx hb hK hP 2 0 rfl rfl hi_5 dX5_result_65 ?_
            refine lv_topi (fun x_6 ex_6 => ?_)
            obtain rfl : x_6 = rkf j := by
              rw [ex_6]
              rw [nI_clamp (by omega)]
            refine lv_topi (fun x_7 ex_7 => ?_)
            obtain rfl : x_7 = nI ((R.getD j (0, 0)).1) := by
              rw [ex_7]
              exact hjk.1
            refine ckSRi (As := [.int (nI ((R.getD j (0, 0)).1))]) (rest := []) [] (c_X5_yOf l X ((R.getD j (0, 0)).1) hjb) ⟨hx, hb, hml, hown, hts⟩ (va_cwS 1 hts gX5_result_X5_yOf rfl rfl rfl (by decide +kernel) ⟨Nat.le_of_ble_eq_true rfl, Nat.le_of_ble_eq_true rfl⟩) hK hN hP hD (by decide) rfl rfl hl.1 rfl (Nat.le_of_ble_eq_true rfl) dX5_result_66 ⟨Nat.zero_le _, Nat.zero_le _⟩ (fun r_8 hc_66 => ?_)
            subst hc_66
            refine wM hQ ?_
            exact rtRI hx hb hr hlocks ((by show _ = _; unfold resV; rw [cif_pos ⟨c_1, c_12⟩, nI_clamp hj]; rw [cif_neg (by decide)]; rw [cif_pos rfl])) dX5_result_69
          · refine lv_tableIn (tgt := 70) hx hb dX5_result_18 (by decide) (by decide) rfl (by decide) ?_
            refine lv_aload_n hx hb dX5_result_70 rfl (lv_at hl 0 rfl) ?_
            refine va_get (D := X.1) (ci := 5) (v := .ref rs) (C := RX5) (T := TX5) (N := 12) hx hb hts hin5 hown hK hP 0 rfl rfl 8 (by decide) lk61 (fun _ h9 => h9) rfl dX5_result_71 ?_
            refine va_get (D := X.1) (ci := 3) (v := .ref rv) (C := RX3) (T := TX3) (N := 4) hx hb hts hin3 hown hK hP 1 rfl rfl 1 (by decide) lk159 (fun _ h9 => h9) rfl dX5_result_74 ?_
            refine lv_iload_n hx hb dX5_result_77 rfl (lv_at hl 1 rfl) ?_
            have hi_9 : vp_in (nI j) 150 := vp_in_nI (by omega) (by omega)
            refine va_iald hx hb hK hP 3 0 rfl rfl hi_9 dX5_result_78 ?_
            refine lv_topi (fun x_10 ex_10 => ?_)
            obtain rfl : x_10 = rvf j := by
              rw [ex_10]
              rw [nI_clamp (by omega)]
            refine lv_topi (fun x_11 ex_11 => ?_)
            obtain rfl : x_11 = (R.getD j (0, 0)).2 := by
              rw [ex_11]
              exact hjk.2
            refine wM hQ ?_
            exact rtRI hx hb hr hlocks ((by show _ = _; unfold resV; rw [cif_pos ⟨c_1, c_12⟩, nI_clamp hj]; rw [cif_neg (by decide)]; rw [cif_neg (by decide)]; rw [cif_pos rfl])) dX5_result_79
    · skip
      refine lv_iconst (v := (-1)) hx hb dX5_result_15 (by decide) ?_
      refine wM hQ ?_
      exact rtRI hx hb hr hlocks ((by show _ = _; unfold resV; rw [cif_neg (fun z => by first | exact z.1 c_1 | exact c_12 z.2)])) dX5_result_16
set_option maxHeartbeats 4000000 in
set_option maxRecDepth 100000 in
theorem c_X5_arm (l : Launch) (X : kX) (a d p t t2 ch rs sp bl bk cp : Nat) (f_ct : Int32) (f_pw x n : Int32) : CWi l X yX5_arm wsX5_arm 0 [.ref a, .int x, .int n] [(a, .inr (5, [.int (nI bl), .int (nI bk), .int (nI sp), .ref d, .ref p, .ref t, .ref t2, .ref ch, .ref rs, .int f_pw, .int f_ct, .int (nI cp)]))] (S := Int32 × Nat) (fun r u => (r, u.1, u.2) = armF x n f_ct cp) (fun ⟨ct2, cp2⟩ => [(a, .inr (5, [.int (nI bl), .int (nI bk), .int (nI sp), .ref d, .ref p, .ref t, .ref t2, .ref ch, .ref rs, .int f_pw, .int ct2, .int (nI cp2)]))]) := by
  refine Met.ofW (cc := cX5_arm) (maxL := 3) (ret := some (.boolean)) (by decide) rfl ?_
  intro pz ez sz mz args below meth cz s₁ Bz hml hv
  obtain ⟨rfl, hP, hK, hD0, hN⟩ := hv
  have hx := Bz.exec
  have hb := Bz.bytes
  have hr := Bz.returns
  have hts := atoms_spec (ws := wsX5_arm) Bz.pre
  have hown : sz.vm.findClass RX5 = some mz.cls := findClass_of_methodNamed Bz.named
  have hlocks := Bz.notSynchronized
  have hD := inW.self hD0
  have hS : va_S (inW [(a, .inr (5, [.int (nI bl), .int (nI bk), .int (nI sp), .ref d, .ref p, .ref t, .ref t2, .ref ch, .ref rs, .int f_pw, .int f_ct, .int (nI cp)]))]) sz.heap sz.heap [] := va_S.rf
  have hl := lv_entry ([.ref a, .int x, .int n]) (n := 3) (Nat.le_of_ble_eq_true rfl)
  rw [lg_entry_eq]
  generalize (lg_sl ([.ref a, .int x, .int n]) ++ List.replicate (3 - (lg_sl ([.ref a, .int x, .int n])).length) Slot.unset).toArray = ls at hl ⊢
  have hl : lv_has ls 3 [(0, .ref a), (1, .int x), (2, .int n)] := hl
  have lk69 := hts (.fieldLink RX5 69 "PointStore" "cut" "I") (by decide +kernel)
  have lk72 := hts (.fieldLink RX5 72 "PointStore" "cutParts" "I") (by decide +kernel)
  have hin5 : ∀ w ∈ u_ws RX5 TX5 12, w ∈ wsX5_arm := by decide +kernel
  refine wQ (fun Q hQ => ?_)
  generalize hAe : inW [(a, .inr (5, [.int (nI bl), .int (nI bk), .int (nI sp), .ref d, .ref p, .ref t, .ref t2, .ref ch, .ref rs, .int f_pw, .int f_ct, .int (nI cp)]))] = A_ at hD hS hQ
  refine lv_iload_n hx hb dX5_arm_0 rfl (lv_at hl 1 rfl) ?_
  refine lv_iconst (v := nI 3) hx hb dX5_arm_1 (by decide) ?_
  refine lv_icmp_ne (tgt := 12) hx hb dX5_arm_2 (by decide) (fun c_2 => ?_) (fun c_2 => ?_)
  · skip
    refine lv_iload_n hx hb dX5_arm_12 rfl (lv_at hl 1 rfl) ?_
    refine lv_if_lt (tgt := 32) hx hb dX5_arm_13 (by decide) (fun c_13 => ?_) (fun c_13 => ?_)
    · skip
      refine lv_iconst (v := nI 0) hx hb dX5_arm_32 (by decide) ?_
      refine wM hQ ?_
      exact rtZ (f_ct, cp) hx hb hr hlocks (by decide) hP hS ((by show (nI 0, f_ct, cp) = _; unfold armF; rw [cif_neg c_2, cif_neg (fun z => by first | exact z.1 c_13 | exact z.2.1 c_18 | exact z.2.2.1 c_22 | exact c_29 (Int32.not_lt.mp z.2.2.2))])) dX5_arm_33
    · skip
      refine lv_iload_n hx hb dX5_arm_16 rfl (lv_at hl 1 rfl) ?_
      refine lv_iconst (v := nI 2) hx hb dX5_arm_17 (by decide) ?_
      refine lv_icmp_gt (tgt := 32) hx hb dX5_arm_18 (by decide) (fun c_18 => ?_) (fun c_18 => ?_)
      · skip
        refine lv_iconst (v := nI 0) hx hb dX5_arm_32 (by decide) ?_
        refine wM hQ ?_
        exact rtZ (f_ct, cp) hx hb hr hlocks (by decide) hP hS ((by show (nI 0, f_ct, cp) = _; unfold armF; rw [cif_neg c_2, cif_neg (fun z => by first | exact z.1 c_13 | exact z.2.1 c_18 | exact z.2.2.1 c_22 | exact c_29 (Int32.not_lt.mp z.2.2.2))])) dX5_arm_33
      · skip
        refine lv_iload_n hx hb dX5_arm_21 rfl (lv_at hl 2 rfl) ?_
        refine lv_if_lt (tgt := 32) hx hb dX5_arm_22 (by decide) (fun c_22 => ?_) (fun c_22 => ?_)
        · skip
          refine lv_iconst (v := nI 0) hx hb dX5_arm_32 (by decide) ?_
          refine wM hQ ?_
          exact rtZ (f_ct, cp) hx hb hr hlocks (by decide) hP hS ((by show (nI 0, f_ct, cp) = _; unfold armF; rw [cif_neg c_2, cif_neg (fun z => by first | exact z.1 c_13 | exact z.2.1 c_18 | exact z.2.2.1 c_22 | exact c_29 (Int32.not_lt.mp z.2.2.2))])) dX5_arm_33
        · skip
          refine lv_iload_n hx hb dX5_arm_25 rfl (lv_at hl 2 rfl) ?_
          refine lv_sipush (v := nI 256) hx hb dX5_arm_26 (by decide) ?_
          refine lv_icmp_le (tgt := 34) hx hb dX5_arm_29 (by decide) (fun c_29 => ?_) (fun c_29 => ?_)
          · skip
            obtain ⟨nn, hnn, rfl⟩ := p_le c_22 (le_nlt c_29)
            · skip
              refine lv_aload_n hx hb dX5_arm_34 rfl (lv_at hl 0 rfl) ?_
              refine lv_iload_n hx hb dX5_arm_35 rfl (lv_at hl 1 rfl) ?_
              refine va_put (D := X.1) (ci := 5) (v := .int x) (ty := .int) (C := RX5) (T := TX5) (N := 12) hx hb hts hin5 tyX5 tyX5_ok nmX5 hown hK hP hD hS 0 rfl rfl 10 (by decide) lk69 (fun _ h9 => h9) rfl (by decide +kernel) rfl rfl (Nat.le_of_ble_eq_true rfl) dX5_arm_36 (fun H locs hP hD hS => ?_)
              have hP : va_P X.1 vwCl [(a, .inr (5, [.int (nI bl), .int (nI bk), .int (nI sp), .ref d, .ref p, .ref t, .ref t2, .ref ch, .ref rs, .int f_pw, .int x, .int (nI cp)]))] H := hP
              have hD : va_D A_ [(a, .inr (5, [.int (nI bl), .int (nI bk), .int (nI sp), .ref d, .ref p, .ref t, .ref t2, .ref ch, .ref rs, .int f_pw, .int x, .int (nI cp)]))] := hD
              refine lv_aload_n hx hb dX5_arm_39 rfl (lv_at hl 0 rfl) ?_
              refine lv_iload_n hx hb dX5_arm_40 rfl (lv_at hl 2 rfl) ?_
              refine va_put (D := X.1) (ci := 5) (v := .int (nI nn)) (ty := .int) (C := RX5) (T := TX5) (N := 12) hx hb hts hin5 tyX5 tyX5_ok nmX5 hown hK hP hD hS 0 rfl rfl 11 (by decide) lk72 (fun _ h9 => h9) rfl (by decide +kernel) rfl rfl (Nat.le_of_ble_eq_true rfl) dX5_arm_41 (fun H locs hP hD hS => ?_)
              have hP : va_P X.1 vwCl [(a, .inr (5, [.int (nI bl), .int (nI bk), .int (nI sp), .ref d, .ref p, .ref t, .ref t2, .ref ch, .ref rs, .int f_pw, .int x, .int (nI nn)]))] H := hP
              have hD : va_D A_ [(a, .inr (5, [.int (nI bl), .int (nI bk), .int (nI sp), .ref d, .ref p, .ref t, .ref t2, .ref ch, .ref rs, .int f_pw, .int x, .int (nI nn)]))] := hD
              refine lv_iconst (v := nI 1) hx hb dX5_arm_44 (by decide) ?_
              refine wM hQ ?_
              exact rtZ (x, nn) hx hb hr hlocks (by decide) hP hS ((by show (nI 1, x, nn) = _; unfold armF; rw [cif_neg c_2, cif_pos ⟨c_13, c_18, c_22, le_nlt c_29⟩, nI_clamp (by omega)])) dX5_arm_45
          · skip
            refine lv_iconst (v := nI 0) hx hb dX5_arm_32 (by decide) ?_
            refine wM hQ ?_
            exact rtZ (f_ct, cp) hx hb hr hlocks (by decide) hP hS ((by show (nI 0, f_ct, cp) = _; unfold armF; rw [cif_neg c_2, cif_neg (fun z => by first | exact z.1 c_13 | exact z.2.1 c_18 | exact z.2.2.1 c_22 | exact c_29 (Int32.not_lt.mp z.2.2.2))])) dX5_arm_33
  · skip
    refine lv_aload_n hx hb dX5_arm_5 rfl (lv_at hl 0 rfl) ?_
    refine lv_iconst (v := (-1)) hx hb dX5_arm_6 (by decide) ?_
    refine va_put (D := X.1) (ci := 5) (v := .int (-1)) (ty := .int) (C := RX5) (T := TX5) (N := 12) hx hb hts hin5 tyX5 tyX5_ok nmX5 hown hK hP hD hS 0 rfl rfl 10 (by decide) lk69 (fun _ h9 => h9) rfl (by decide +kernel) rfl rfl (Nat.le_of_ble_eq_true rfl) dX5_arm_7 (fun H locs hP hD hS => ?_)
    have hP : va_P X.1 vwCl [(a, .inr (5, [.int (nI bl), .int (nI bk), .int (nI sp), .ref d, .ref p, .ref t, .ref t2, .ref ch, .ref rs, .int f_pw, .int (-1), .int (nI cp)]))] H := hP
    have hD : va_D A_ [(a, .inr (5, [.int (nI bl), .int (nI bk), .int (nI sp), .ref d, .ref p, .ref t, .ref t2, .ref ch, .ref rs, .int f_pw, .int (-1), .int (nI cp)]))] := hD
    refine lv_iconst (v := nI 1) hx hb dX5_arm_10 (by decide) ?_
    refine wM hQ ?_
    exact rtZ ((-1), cp) hx hb hr hlocks (by decide) hP hS ((by show (nI 1, -1, cp) = _; unfold armF; rw [cif_pos c_2])) dX5_arm_11
set_option maxHeartbeats 4000000 in
set_option maxRecDepth 100000 in
theorem c_X5_delete (l : Launch) (X : kX) (a d p t t2 ch rs sp bl bk cp : Nat) (f_ct : Int32) (pk pv w b ck cv : Nat) (x y : Int32) (pkf pvf ckf cvf : Nat → Int32) (P : PL) (C : List Op) (h : ptOk pkf pvf P) (hc : chOk ckf cvf C) (hsp : sp ≤ 32768) : CWi l X yX5_delete wsX5_delete 2 [.ref a, .int x, .int y] [(a, .inr (5, [.int (nI bl), .int (nI bk), .int (nI sp), .ref d, .ref p, .ref t, .ref t2, .ref ch, .ref rs, .int (nI 1), .int f_ct, .int (nI cp)])), (p, .inr (2, [.ref pk, .ref pv, .int (nI P.length), .int (nI w)])), (pk, .inl (X.2.1, 512, .inl pkf)), (pv, .inl (X.2.1, 512, .inl pvf)), (ch, .inr (0, [.ref ck, .ref cv, .int (nI C.length)])), (ck, .inl (X.2.1, 60, .inl ckf)), (cv, .inl (X.2.1, 60, .inl cvf))] (S := (Nat → Int32) × (Nat → Int32) × PL × Nat × (Nat → Int32) × (Nat → Int32) × List Op) (fun r u => (r, u.2.2.1, u.2.2.2.2.2.2) = delF sp P C.length x y ∧ ptOk u.1 u.2.1 u.2.2.1 ∧ (u.2.2.2.1 = w + 1 ∨ (u.2.2.2.1 = w ∧ u.2.2.1 = P)) ∧ chOk u.2.2.2.2.1 u.2.2.2.2.2.1 (C ++ u.2.2.2.2.2.2)) (fun ⟨kf2, vf2, P2, w2, ck2, cv2, D⟩ => [(a, .inr (5, [.int (nI bl), .int (nI bk), .int (nI sp), .ref d, .ref p, .ref t, .ref t2, .ref ch, .ref rs, .int (nI 1), .int f_ct, .int (nI cp)])), (p, .inr (2, [.ref pk, .ref pv, .int (nI P2.length), .int (nI w2)])), (pk, .inl (X.2.1, 512, .inl kf2)), (pv, .inl (X.2.1, 512, .inl vf2)), (ch, .inr (0, [.ref ck, .ref cv, .int (nI ((C ++ D).length))])), (ck, .inl (X.2.1, 60, .inl ck2)), (cv, .inl (X.2.1, 60, .inl cv2))]) := by
  refine Met.ofW (cc := cX5_delete) (maxL := 4) (ret := some (.int)) (by decide) rfl ?_
  intro pz ez sz mz args below meth cz s₁ Bz hml hv
  obtain ⟨rfl, hP, hK, hD0, hN⟩ := hv
  have hx := Bz.exec
  have hb := Bz.bytes
  have hr := Bz.returns
  have hts := atoms_spec (ws := wsX5_delete) Bz.pre
  have hown : sz.vm.findClass RX5 = some mz.cls := findClass_of_methodNamed Bz.named
  have hlocks := Bz.notSynchronized
  have hD := inW.self hD0
  have hS : va_S (inW [(a, .inr (5, [.int (nI bl), .int (nI bk), .int (nI sp), .ref d, .ref p, .ref t, .ref t2, .ref ch, .ref rs, .int (nI 1), .int f_ct, .int (nI cp)])), (p, .inr (2, [.ref pk, .ref pv, .int (nI P.length), .int (nI w)])), (pk, .inl (X.2.1, 512, .inl pkf)), (pv, .inl (X.2.1, 512, .inl pvf)), (ch, .inr (0, [.ref ck, .ref cv, .int (nI C.length)])), (ck, .inl (X.2.1, 60, .inl ckf)), (cv, .inl (X.2.1, 60, .inl cvf))]) sz.heap sz.heap [] := va_S.rf
  have hl := lv_entry ([.ref a, .int x, .int y]) (n := 4) (Nat.le_of_ble_eq_true rfl)
  rw [lg_entry_eq]
  generalize (lg_sl ([.ref a, .int x, .int y]) ++ List.replicate (4 - (lg_sl ([.ref a, .int x, .int y])).length) Slot.unset).toArray = ls at hl ⊢
  have hl : lv_has ls 4 [(0, .ref a), (1, .int x), (2, .int y)] := hl
  have lk35 := hts (.fieldLink RX5 35 "PointStore" "pending" "LPointStore$Points;") (by decide +kernel)
  have lk54 := hts (.fieldLink RX5 54 "PointStore" "changes" "LPointStore$Changes;") (by decide +kernel)
  have lk65 := hts (.fieldLink RX5 65 "PointStore" "powered" "Z") (by decide +kernel)
  have hin5 : ∀ w ∈ u_ws RX5 TX5 12, w ∈ wsX5_delete := by decide +kernel
  refine wQ (fun Q hQ => ?_)
  generalize hAe : inW [(a, .inr (5, [.int (nI bl), .int (nI bk), .int (nI sp), .ref d, .ref p, .ref t, .ref t2, .ref ch, .ref rs, .int (nI 1), .int f_ct, .int (nI cp)])), (p, .inr (2, [.ref pk, .ref pv, .int (nI P.length), .int (nI w)])), (pk, .inl (X.2.1, 512, .inl pkf)), (pv, .inl (X.2.1, 512, .inl pvf)), (ch, .inr (0, [.ref ck, .ref cv, .int (nI C.length)])), (ck, .inl (X.2.1, 60, .inl ckf)), (cv, .inl (X.2.1, 60, .inl cvf))] = A_ at hD hS hQ
  have hC := hc.1
  refine lv_aload_n hx hb dX5_delete_0 rfl (lv_at hl 0 rfl) ?_
  refine va_get (D := X.1) (ci := 5) (v := .int (nI 1)) (C := RX5) (T := TX5) (N := 12) hx hb hts hin5 hown hK hP 0 rfl rfl 9 (by decide) lk65 (fun _ h9 => h9) rfl dX5_delete_1 ?_
  refine lv_if_ne (tgt := 10) hx hb dX5_delete_4 (by decide) (fun c_4 => ?_) (fun c_4 => ?_)
  · skip
    refine lv_aload_n hx hb dX5_delete_10 rfl (lv_at hl 0 rfl) ?_
    refine lv_iload_n hx hb dX5_delete_11 rfl (lv_at hl 1 rfl) ?_
    refine lv_iload_n hx hb dX5_delete_12 rfl (lv_at hl 2 rfl) ?_
    refine ckVRi (As := [.int x, .int y]) (rest := []) 0 [0] (c_X5_isOnPlane l X a d p t t2 ch rs sp (nI bl) (nI bk) (nI 1) f_ct (nI cp) x y) ⟨hx, hb, hml, hown, hts⟩ (cwV 2 hts gX5_delete_X5_isOnPlane rfl rfl rfl (by decide +kernel) ⟨Nat.le_of_ble_eq_true rfl, Nat.le_of_ble_eq_true rfl⟩) hK hN hP hD (by decide) rfl (ci := 5) rfl rfl rfl hl.1 rfl (Nat.le_of_ble_eq_true rfl) dX5_delete_13 ⟨Nat.zero_le _, Nat.zero_le _⟩ (fun r_1 hc_13 => ?_)
    rcases hc_13 with ⟨hc_13, rfl⟩ | ⟨hc_13, rfl⟩
    · skip
      obtain ⟨xa, ya, hxa, hya, rfl, rfl⟩ := onp_of hc_13 hsp
      refine lv_if_ne (tgt := 21) hx hb dX5_delete_16 (by decide) (fun c_16 => ?_) (fun c_16 => ?_)
      · skip
        refine lv_iload_n hx hb dX5_delete_21 rfl (lv_at hl 1 rfl) ?_
        refine lv_iload_n hx hb dX5_delete_22 rfl (lv_at hl 2 rfl) ?_
        refine ckSRi (As := [.int (nI xa), .int (nI ya)]) (rest := []) [] (c_X5_keyOf l X xa ya (by omega) (by omega)) ⟨hx, hb, hml, hown, hts⟩ (va_cwS 2 hts gX5_delete_X5_keyOf rfl rfl rfl (by decide +kernel) ⟨Nat.le_of_ble_eq_true rfl, Nat.le_of_ble_eq_true rfl⟩) hK hN hP hD (by decide) rfl rfl hl.1 rfl (Nat.le_of_ble_eq_true rfl) dX5_delete_23 ⟨Nat.zero_le _, Nat.zero_le _⟩ (fun r_2 hc_23 => ?_)
        subst hc_23
        refine lv_istore_n (lv' := [(3, .int (nI (xa * 32768 + ya))), (0, .ref a), (1, .int (nI xa)), (2, .int (nI ya))]) hx hb dX5_delete_26 rfl hl (by decide) rfl (fun ls hl => ?_)
        refine lv_aload_n hx hb dX5_delete_27 rfl (lv_at hl 1 rfl) ?_
        refine va_get (D := X.1) (ci := 5) (v := .ref p) (C := RX5) (T := TX5) (N := 12) hx hb hts hin5 hown hK hP 0 rfl rfl 4 (by decide) lk35 (fun _ h9 => h9) rfl dX5_delete_28 ?_
        refine lv_iload_n hx hb dX5_delete_31 rfl (lv_at hl 0 rfl) ?_
        refine ckVRi (As := [.int (nI (xa * 32768 + ya))]) (rest := []) 0 [1, 2, 3] (c_X2_valueOf l X p pk pv w (xa * 32768 + ya) pkf pvf P h (by omega)) ⟨hx, hb, hml, hown, hts⟩ (cwV 1 hts gX5_delete_X2_valueOf rfl rfl rfl (by decide +kernel) ⟨Nat.le_of_ble_eq_true rfl, Nat.le_of_ble_eq_true rfl⟩) hK hN hP hD (by decide) rfl (ci := 2) rfl rfl rfl hl.1 rfl (Nat.le_of_ble_eq_true rfl) dX5_delete_32 ⟨Nat.zero_le _, Nat.zero_le _⟩ (fun r_3 hc_32 => ?_)
        subst hc_32
        refine lv_iconst (v := (-1)) hx hb dX5_delete_35 (by decide) ?_
        refine lv_icmp_ne (tgt := 41) hx hb dX5_delete_36 (by decide) (fun c_36 => ?_) (fun c_36 => ?_)
        · skip
          have hsome0 : ¬ lkp P (xa * 32768 + ya) = none := fun z => c_36 ((vOf_m1 h).mpr z)
          have hsome : ¬ lkp P (kOf (nI xa) (nI ya)) = none := by rw [kOf_nI (by omega) (by omega)]; exact hsome0
          have htv : tv P (xa * 32768 + ya) w = w + 1 := by
            unfold tv
            cases e9 : lkp P (xa * 32768 + ya) with
            | none => exact absurd e9 hsome0
            | some z => rfl
          refine lv_aload_n hx hb dX5_delete_41 rfl (lv_at hl 1 rfl) ?_
          refine va_get (D := X.1) (ci := 5) (v := .ref ch) (C := RX5) (T := TX5) (N := 12) hx hb hts hin5 hown hK hP 0 rfl rfl 7 (by decide) lk54 (fun _ h9 => h9) rfl dX5_delete_42 ?_
          refine ckVRi (As := []) (rest := []) 0 [4] (c_X0_isFull l X ch ck cv C.length hC) ⟨hx, hb, hml, hown, hts⟩ (cwV 0 hts gX5_delete_X0_isFull rfl rfl rfl (by decide +kernel) ⟨Nat.le_of_ble_eq_true rfl, Nat.le_of_ble_eq_true rfl⟩) hK hN hP hD (by decide) rfl (ci := 0) rfl rfl rfl hl.1 rfl (Nat.le_of_ble_eq_true rfl) dX5_delete_45 ⟨Nat.zero_le _, Nat.zero_le _⟩ (fun r_4 hc_45 => ?_)
          rcases hc_45 with ⟨hc_45, rfl⟩ | ⟨hc_45, rfl⟩
          · skip
            refine lv_if_eq (tgt := 53) hx hb dX5_delete_48 (by decide) (fun c_48 => ?_) (fun c_48 => ?_)
            · exact absurd c_48 (by decide)
            · skip
              refine lv_iconst (v := nI 3) hx hb dX5_delete_51 (by decide) ?_
              refine wM hQ ?_
              exact rtI (pkf, pvf, P, w, ckf, cvf, []) hx hb hr hlocks (by show va_P X.1 vwCl [(a, .inr (5, [.int (nI bl), .int (nI bk), .int (nI sp), .ref d, .ref p, .ref t, .ref t2, .ref ch, .ref rs, .int (nI 1), .int f_ct, .int (nI cp)])), (p, .inr (2, [.ref pk, .ref pv, .int (nI P.length), .int (nI w)])), (pk, .inl (X.2.1, 512, .inl pkf)), (pv, .inl (X.2.1, 512, .inl pvf)), (ch, .inr (0, [.ref ck, .ref cv, .int (nI ((C ++ []).length))])), (ck, .inl (X.2.1, 60, .inl ckf)), (cv, .inl (X.2.1, 60, .inl cvf))] _; rw [List.append_nil]; exact hP) hS (⟨(by show (nI 3, P, []) = _; unfold delF; rw [cif_pos hc_13, cif_neg hsome, cif_pos hc_45]), h, Or.inr ⟨rfl, rfl⟩, (by rw [List.append_nil]; exact hc)⟩) dX5_delete_52
          · skip
            refine lv_if_eq (tgt := 53) hx hb dX5_delete_48 (by decide) (fun c_48 => ?_) (fun c_48 => ?_)
            · skip
              refine lv_aload_n hx hb dX5_delete_53 rfl (lv_at hl 1 rfl) ?_
              refine va_get (D := X.1) (ci := 5) (v := .ref p) (C := RX5) (T := TX5) (N := 12) hx hb hts hin5 hown hK hP 0 rfl rfl 4 (by decide) lk35 (fun _ h9 => h9) rfl dX5_delete_54 ?_
              refine lv_iload_n hx hb dX5_delete_57 rfl (lv_at hl 0 rfl) ?_
              refine ckVv (As := [.int (nI (xa * 32768 + ya))]) (rest := []) 0 [1, 2, 3] (c_X2_takeOut l X p pk pv w (xa * 32768 + ya) pkf pvf P h (by omega)) ⟨hx, hb, hml, hown, hts⟩ (cwV 1 hts gX5_delete_X2_takeOut rfl rfl rfl (by decide +kernel) ⟨Nat.le_of_ble_eq_true rfl, Nat.le_of_ble_eq_true rfl⟩) hK hN hP hD hS (by decide) rfl (ci := 2) rfl rfl (fun _ => rfl) rfl hl.1 rfl (Nat.le_of_ble_eq_true rfl) dX5_delete_58 ⟨Nat.zero_le _, Nat.zero_le _⟩ (fun u_5 H locs hto hP hD hS => ?_)
              obtain ⟨pkf2, pvf2⟩ := u_5
              have hP : va_P X.1 vwCl [(a, .inr (5, [.int (nI bl), .int (nI bk), .int (nI sp), .ref d, .ref p, .ref t, .ref t2, .ref ch, .ref rs, .int (nI 1), .int f_ct, .int (nI cp)])), (p, .inr (2, [.ref pk, .ref pv, .int (nI ((pdel P (xa * 32768 + ya)).length)), .int (nI (tv P (xa * 32768 + ya) w))])), (pk, .inl (X.2.1, 512, .inl pkf2)), (pv, .inl (X.2.1, 512, .inl pvf2)), (ch, .inr (0, [.ref ck, .ref cv, .int (nI C.length)])), (ck, .inl (X.2.1, 60, .inl ckf)), (cv, .inl (X.2.1, 60, .inl cvf))] H := hP
              have hD : va_D A_ [(a, .inr (5, [.int (nI bl), .int (nI bk), .int (nI sp), .ref d, .ref p, .ref t, .ref t2, .ref ch, .ref rs, .int (nI 1), .int f_ct, .int (nI cp)])), (p, .inr (2, [.ref pk, .ref pv, .int (nI ((pdel P (xa * 32768 + ya)).length)), .int (nI (tv P (xa * 32768 + ya) w))])), (pk, .inl (X.2.1, 512, .inl pkf2)), (pv, .inl (X.2.1, 512, .inl pvf2)), (ch, .inr (0, [.ref ck, .ref cv, .int (nI C.length)])), (ck, .inl (X.2.1, 60, .inl ckf)), (cv, .inl (X.2.1, 60, .inl cvf))] := hD
              try dsimp only at hto
              rw [htv] at hP hD
              have hP : va_P X.1 vwCl [(a, .inr (5, [.int (nI bl), .int (nI bk), .int (nI sp), .ref d, .ref p, .ref t, .ref t2, .ref ch, .ref rs, .int (nI 1), .int f_ct, .int (nI cp)])), (p, .inr (2, [.ref pk, .ref pv, .int (nI ((pdel P (xa * 32768 + ya)).length)), .int (nI (w + 1))])), (pk, .inl (X.2.1, 512, .inl pkf2)), (pv, .inl (X.2.1, 512, .inl pvf2)), (ch, .inr (0, [.ref ck, .ref cv, .int (nI C.length)])), (ck, .inl (X.2.1, 60, .inl ckf)), (cv, .inl (X.2.1, 60, .inl cvf))] _ := hP
              have hD : va_D A_ [(a, .inr (5, [.int (nI bl), .int (nI bk), .int (nI sp), .ref d, .ref p, .ref t, .ref t2, .ref ch, .ref rs, .int (nI 1), .int f_ct, .int (nI cp)])), (p, .inr (2, [.ref pk, .ref pv, .int (nI ((pdel P (xa * 32768 + ya)).length)), .int (nI (w + 1))])), (pk, .inl (X.2.1, 512, .inl pkf2)), (pv, .inl (X.2.1, 512, .inl pvf2)), (ch, .inr (0, [.ref ck, .ref cv, .int (nI C.length)])), (ck, .inl (X.2.1, 60, .inl ckf)), (cv, .inl (X.2.1, 60, .inl cvf))] := hD
              refine lv_aload_n hx hb dX5_delete_61 rfl (lv_at hl 1 rfl) ?_
              refine va_get (D := X.1) (ci := 5) (v := .ref ch) (C := RX5) (T := TX5) (N := 12) hx hb hts hin5 hown hK hP 0 rfl rfl 7 (by decide) lk54 (fun _ h9 => h9) rfl dX5_delete_62 ?_
              refine lv_iload_n hx hb dX5_delete_65 rfl (lv_at hl 0 rfl) ?_
              refine lv_iconst (v := (-1)) hx hb dX5_delete_66 (by decide) ?_
              refine ckVv (As := [.int (nI (xa * 32768 + ya)), .int (-1)]) (rest := []) 0 [4, 5, 6] (c_X0_add l X ch ck cv ckf cvf (some (xa * 32768 + ya, none) : Op) C hc (by omega) (show xa * 32768 + ya < 2 ^ 30 by omega)) ⟨hx, hb, hml, hown, hts⟩ (cwV 2 hts gX5_delete_X0_add rfl rfl rfl (by decide +kernel) ⟨Nat.le_of_ble_eq_true rfl, Nat.le_of_ble_eq_true rfl⟩) hK hN hP hD hS (by decide) rfl (ci := 0) rfl rfl (fun _ => rfl) rfl hl.1 rfl (Nat.le_of_ble_eq_true rfl) dX5_delete_67 ⟨Nat.zero_le _, Nat.zero_le _⟩ (fun u_7 H locs hca hP hD hS => ?_)
              obtain ⟨ck2, cv2⟩ := u_7
              have hP : va_P X.1 vwCl [(a, .inr (5, [.int (nI bl), .int (nI bk), .int (nI sp), .ref d, .ref p, .ref t, .ref t2, .ref ch, .ref rs, .int (nI 1), .int f_ct, .int (nI cp)])), (p, .inr (2, [.ref pk, .ref pv, .int (nI ((pdel P (xa * 32768 + ya)).length)), .int (nI (w + 1))])), (pk, .inl (X.2.1, 512, .inl pkf2)), (pv, .inl (X.2.1, 512, .inl pvf2)), (ch, .inr (0, [.ref ck, .ref cv, .int (nI (C.length + 1))])), (ck, .inl (X.2.1, 60, .inl ck2)), (cv, .inl (X.2.1, 60, .inl cv2))] H := hP
              have hD : va_D A_ [(a, .inr (5, [.int (nI bl), .int (nI bk), .int (nI sp), .ref d, .ref p, .ref t, .ref t2, .ref ch, .ref rs, .int (nI 1), .int f_ct, .int (nI cp)])), (p, .inr (2, [.ref pk, .ref pv, .int (nI ((pdel P (xa * 32768 + ya)).length)), .int (nI (w + 1))])), (pk, .inl (X.2.1, 512, .inl pkf2)), (pv, .inl (X.2.1, 512, .inl pvf2)), (ch, .inr (0, [.ref ck, .ref cv, .int (nI (C.length + 1))])), (ck, .inl (X.2.1, 60, .inl ck2)), (cv, .inl (X.2.1, 60, .inl cv2))] := hD
              try dsimp only at hca
              refine lv_iconst (v := nI 0) hx hb dX5_delete_70 (by decide) ?_
              rw [show C.length + 1 = (C ++ [some (xa * 32768 + ya, none)]).length from by simp] at hP
              refine wM hQ ?_
              exact rtI (pkf2, pvf2, pdel P (xa * 32768 + ya), w + 1, ck2, cv2, [some (xa * 32768 + ya, none)]) hx hb hr hlocks hP hS (⟨(by show (nI 0, pdel P (xa * 32768 + ya), [some (xa * 32768 + ya, none)]) = _; unfold delF; rw [cif_pos hc_13, cif_neg hsome, cif_neg hc_45, kOf_nI (by omega) (by omega)]), hto, Or.inl rfl, hca⟩) dX5_delete_71
            · exact absurd c_48 (by decide)
        · skip
          have hnone := (vOf_m1 h).mp c_36
          rw [← kOf_nI (a := xa) (b := ya) (by omega) (by omega)] at hnone
          refine lv_iconst (v := nI 5) hx hb dX5_delete_39 (by decide) ?_
          refine wM hQ ?_
          exact rtI (pkf, pvf, P, w, ckf, cvf, []) hx hb hr hlocks (by show va_P X.1 vwCl [(a, .inr (5, [.int (nI bl), .int (nI bk), .int (nI sp), .ref d, .ref p, .ref t, .ref t2, .ref ch, .ref rs, .int (nI 1), .int f_ct, .int (nI cp)])), (p, .inr (2, [.ref pk, .ref pv, .int (nI P.length), .int (nI w)])), (pk, .inl (X.2.1, 512, .inl pkf)), (pv, .inl (X.2.1, 512, .inl pvf)), (ch, .inr (0, [.ref ck, .ref cv, .int (nI ((C ++ []).length))])), (ck, .inl (X.2.1, 60, .inl ckf)), (cv, .inl (X.2.1, 60, .inl cvf))] _; rw [List.append_nil]; exact hP) hS (⟨(by show (nI 5, P, []) = _; unfold delF; rw [cif_pos hc_13, cif_pos hnone]), h, Or.inr ⟨rfl, rfl⟩, (by rw [List.append_nil]; exact hc)⟩) dX5_delete_40
      · exact absurd c_16 (by decide)
    · skip
      refine lv_if_ne (tgt := 21) hx hb dX5_delete_16 (by decide) (fun c_16 => ?_) (fun c_16 => ?_)
      · exact absurd c_16 (by decide)
      · skip
        refine lv_iconst (v := nI 2) hx hb dX5_delete_19 (by decide) ?_
        refine wM hQ ?_
        exact rtI (pkf, pvf, P, w, ckf, cvf, []) hx hb hr hlocks (by show va_P X.1 vwCl [(a, .inr (5, [.int (nI bl), .int (nI bk), .int (nI sp), .ref d, .ref p, .ref t, .ref t2, .ref ch, .ref rs, .int (nI 1), .int f_ct, .int (nI cp)])), (p, .inr (2, [.ref pk, .ref pv, .int (nI P.length), .int (nI w)])), (pk, .inl (X.2.1, 512, .inl pkf)), (pv, .inl (X.2.1, 512, .inl pvf)), (ch, .inr (0, [.ref ck, .ref cv, .int (nI ((C ++ []).length))])), (ck, .inl (X.2.1, 60, .inl ckf)), (cv, .inl (X.2.1, 60, .inl cvf))] _; rw [List.append_nil]; exact hP) hS (⟨(by show (nI 2, P, []) = _; unfold delF; rw [cif_neg hc_13]), h, Or.inr ⟨rfl, rfl⟩, (by rw [List.append_nil]; exact hc)⟩) dX5_delete_20
  · exact absurd c_4 (by decide)
set_option maxHeartbeats 4000000 in
set_option maxRecDepth 100000 in
theorem c_X5_get (l : Launch) (X : kX) (a d p t t2 ch rs sp bl bk cp : Nat) (f_ct : Int32) (h lk lv se pk pv w hk hv wh : Nat) (s_ x y : Int32) (pkf pvf hkf hvf : Nat → Int32) (P Hm : PL) (h1 : ptOk pkf pvf P) (h2 : ptOk hkf hvf Hm) (hsp : sp ≤ 32768) : CRi l X yX5_get wsX5_get 2 [.ref a, .int s_, .int x, .int y] [(a, .inr (5, [.int (nI bl), .int (nI bk), .int (nI sp), .ref d, .ref p, .ref t, .ref t2, .ref ch, .ref rs, .int (nI 1), .int f_ct, .int (nI cp)])), (d, .inr (1, [.ref h, .ref lk, .ref lv, .int (nI se)])), (p, .inr (2, [.ref pk, .ref pv, .int (nI P.length), .int (nI w)])), (pk, .inl (X.2.1, 512, .inl pkf)), (pv, .inl (X.2.1, 512, .inl pvf)), (h, .inr (2, [.ref hk, .ref hv, .int (nI Hm.length), .int (nI wh)])), (hk, .inl (X.2.1, 512, .inl hkf)), (hv, .inl (X.2.1, 512, .inl hvf))] (fun r => r = getV sp (sel s_ P Hm) x y) := by
  refine Met.ofW (cc := cX5_get) (maxL := 5) (ret := some (.int)) (by decide) rfl ?_
  intro pz ez sz mz args below meth cz s₁ Bz hml hv
  obtain ⟨rfl, hP, hK, hD0, hN⟩ := hv
  have hx := Bz.exec
  have hb := Bz.bytes
  have hr := Bz.returns
  have hts := atoms_spec (ws := wsX5_get) Bz.pre
  have hown : sz.vm.findClass RX5 = some mz.cls := findClass_of_methodNamed Bz.named
  have hlocks := Bz.notSynchronized
  have hD := inW.self hD0
  have hS : va_S (inW [(a, .inr (5, [.int (nI bl), .int (nI bk), .int (nI sp), .ref d, .ref p, .ref t, .ref t2, .ref ch, .ref rs, .int (nI 1), .int f_ct, .int (nI cp)])), (d, .inr (1, [.ref h, .ref lk, .ref lv, .int (nI se)])), (p, .inr (2, [.ref pk, .ref pv, .int (nI P.length), .int (nI w)])), (pk, .inl (X.2.1, 512, .inl pkf)), (pv, .inl (X.2.1, 512, .inl pvf)), (h, .inr (2, [.ref hk, .ref hv, .int (nI Hm.length), .int (nI wh)])), (hk, .inl (X.2.1, 512, .inl hkf)), (hv, .inl (X.2.1, 512, .inl hvf))]) sz.heap sz.heap [] := va_S.rf
  have hl := lv_entry ([.ref a, .int s_, .int x, .int y]) (n := 5) (Nat.le_of_ble_eq_true rfl)
  rw [lg_entry_eq]
  generalize (lg_sl ([.ref a, .int s_, .int x, .int y]) ++ List.replicate (5 - (lg_sl ([.ref a, .int s_, .int x, .int y])).length) Slot.unset).toArray = ls at hl ⊢
  have hl : lv_has ls 5 [(0, .ref a), (1, .int s_), (2, .int x), (3, .int y)] := hl
  have lk65 := hts (.fieldLink RX5 65 "PointStore" "powered" "Z") (by decide +kernel)
  have hin5 : ∀ w ∈ u_ws RX5 TX5 12, w ∈ wsX5_get := by decide +kernel
  refine wQ (fun Q hQ => ?_)
  generalize hAe : inW [(a, .inr (5, [.int (nI bl), .int (nI bk), .int (nI sp), .ref d, .ref p, .ref t, .ref t2, .ref ch, .ref rs, .int (nI 1), .int f_ct, .int (nI cp)])), (d, .inr (1, [.ref h, .ref lk, .ref lv, .int (nI se)])), (p, .inr (2, [.ref pk, .ref pv, .int (nI P.length), .int (nI w)])), (pk, .inl (X.2.1, 512, .inl pkf)), (pv, .inl (X.2.1, 512, .inl pvf)), (h, .inr (2, [.ref hk, .ref hv, .int (nI Hm.length), .int (nI wh)])), (hk, .inl (X.2.1, 512, .inl hkf)), (hv, .inl (X.2.1, 512, .inl hvf))] = A_ at hD hS
  refine lv_aload_n hx hb dX5_get_0 rfl (lv_at hl 0 rfl) ?_
  refine va_get (D := X.1) (ci := 5) (v := .int (nI 1)) (C := RX5) (T := TX5) (N := 12) hx hb hts hin5 hown hK hP 0 rfl rfl 9 (by decide) lk65 (fun _ h9 => h9) rfl dX5_get_1 ?_
  refine lv_if_ne (tgt := 10) hx hb dX5_get_4 (by decide) (fun c_4 => ?_) (fun c_4 => ?_)
  · skip
    refine lv_aload_n hx hb dX5_get_10 rfl (lv_at hl 0 rfl) ?_
    refine lv_iload_n hx hb dX5_get_11 rfl (lv_at hl 1 rfl) ?_
    refine ckVRq (As := [.int s_]) (rest := []) 0 [0, 1] (c_X5_pointsOf l X a d p t t2 ch rs sp (nI bl) (nI bk) (nI 1) f_ct (nI cp) h lk lv se s_) ⟨hx, hb, hml, hown, hts⟩ (cwV 1 hts gX5_get_X5_pointsOf rfl rfl rfl (by decide +kernel) ⟨Nat.le_of_ble_eq_true rfl, Nat.le_of_ble_eq_true rfl⟩) hK hN hP hD (by decide) rfl (ci := 5) rfl rfl rfl hl.1 rfl (Nat.le_of_ble_eq_true rfl) dX5_get_12 ⟨Nat.zero_le _, Nat.zero_le _⟩ (fun r_1 hc_12 => ?_)
    rcases sel3 s_ with hs | hs | hs
    · skip
      rw [if_pos hs] at hc_12
      subst hc_12
      refine lv_astore (lv' := [(4, .ref p), (0, .ref a), (1, .int s_), (2, .int x), (3, .int y)]) hx hb dX5_get_15 hl (by decide) rfl (fun ls hl => ?_)
      refine lv_aload hx hb dX5_get_17 (lv_at hl 0 rfl) ?_
      refine lv_ifnull hx hb dX5_get_19 ?_
      refine lv_aload_n hx hb dX5_get_22 rfl (lv_at hl 1 rfl) ?_
      refine lv_iload_n hx hb dX5_get_23 rfl (lv_at hl 3 rfl) ?_
      refine lv_iload_n hx hb dX5_get_24 rfl (lv_at hl 4 rfl) ?_
      refine ckVRi (As := [.int x, .int y]) (rest := []) 0 [0] (c_X5_isOnPlane l X a d p t t2 ch rs sp (nI bl) (nI bk) (nI 1) f_ct (nI cp) x y) ⟨hx, hb, hml, hown, hts⟩ (cwV 2 hts gX5_get_X5_isOnPlane rfl rfl rfl (by decide +kernel) ⟨Nat.le_of_ble_eq_true rfl, Nat.le_of_ble_eq_true rfl⟩) hK hN hP hD (by decide) rfl (ci := 5) rfl rfl rfl hl.1 rfl (Nat.le_of_ble_eq_true rfl) dX5_get_25 ⟨Nat.zero_le _, Nat.zero_le _⟩ (fun r_2 hc_25 => ?_)
      rcases hc_25 with ⟨hc_25, rfl⟩ | ⟨hc_25, rfl⟩
      · skip
        obtain ⟨xa, ya, hxa, hya, rfl, rfl⟩ := onp_of hc_25 hsp
        refine lv_if_ne (tgt := 33) hx hb dX5_get_28 (by decide) (fun c_28 => ?_) (fun c_28 => ?_)
        · skip
          refine lv_aload hx hb dX5_get_33 (lv_at hl 0 rfl) ?_
          refine lv_iload_n hx hb dX5_get_35 rfl (lv_at hl 3 rfl) ?_
          refine lv_iload_n hx hb dX5_get_36 rfl (lv_at hl 4 rfl) ?_
          refine ckSRi (As := [.int (nI xa), .int (nI ya)]) (rest := [.ref p]) [] (c_X5_keyOf l X xa ya (by omega) (by omega)) ⟨hx, hb, hml, hown, hts⟩ (va_cwS 2 hts gX5_get_X5_keyOf rfl rfl rfl (by decide +kernel) ⟨Nat.le_of_ble_eq_true rfl, Nat.le_of_ble_eq_true rfl⟩) hK hN hP hD (by decide) rfl rfl hl.1 rfl (Nat.le_of_ble_eq_true rfl) dX5_get_37 ⟨Nat.zero_le _, Nat.zero_le _⟩ (fun r_3 hc_37 => ?_)
          subst hc_37
          refine ckVRi (As := [.int (nI (xa * 32768 + ya))]) (rest := []) 0 [2, 3, 4] (c_X2_valueOf l X p pk pv w (xa * 32768 + ya) pkf pvf P h1 (by omega)) ⟨hx, hb, hml, hown, hts⟩ (cwV 1 hts gX5_get_X2_valueOf rfl rfl rfl (by decide +kernel) ⟨Nat.le_of_ble_eq_true rfl, Nat.le_of_ble_eq_true rfl⟩) hK hN hP hD (by decide) rfl (ci := 2) rfl rfl rfl hl.1 rfl (Nat.le_of_ble_eq_true rfl) dX5_get_40 ⟨Nat.zero_le _, Nat.zero_le _⟩ (fun r_4 hc_40 => ?_)
          subst hc_40
          refine wM hQ ?_
          exact rtRI hx hb hr hlocks ((by show _ = _; rw [sel_0 hs]; rw [getV_in hc_25, kOf_nI (by omega) (by omega)])) dX5_get_43
        · exact absurd c_28 (by decide)
      · skip
        refine lv_if_ne (tgt := 33) hx hb dX5_get_28 (by decide) (fun c_28 => ?_) (fun c_28 => ?_)
        · exact absurd c_28 (by decide)
        · skip
          refine lv_iconst (v := (-1)) hx hb dX5_get_31 (by decide) ?_
          refine wM hQ ?_
          exact rtRI hx hb hr hlocks ((by show _ = _; rw [sel_0 hs]; exact (getV_out hc_25).symm)) dX5_get_32
    · skip
      rw [if_neg (by rw [hs]; decide), if_pos hs] at hc_12
      subst hc_12
      refine lv_astore (lv' := [(4, .ref h), (0, .ref a), (1, .int s_), (2, .int x), (3, .int y)]) hx hb dX5_get_15 hl (by decide) rfl (fun ls hl => ?_)
      refine lv_aload hx hb dX5_get_17 (lv_at hl 0 rfl) ?_
      refine lv_ifnull hx hb dX5_get_19 ?_
      refine lv_aload_n hx hb dX5_get_22 rfl (lv_at hl 1 rfl) ?_
      refine lv_iload_n hx hb dX5_get_23 rfl (lv_at hl 3 rfl) ?_
      refine lv_iload_n hx hb dX5_get_24 rfl (lv_at hl 4 rfl) ?_
      refine ckVRi (As := [.int x, .int y]) (rest := []) 0 [0] (c_X5_isOnPlane l X a d p t t2 ch rs sp (nI bl) (nI bk) (nI 1) f_ct (nI cp) x y) ⟨hx, hb, hml, hown, hts⟩ (cwV 2 hts gX5_get_X5_isOnPlane rfl rfl rfl (by decide +kernel) ⟨Nat.le_of_ble_eq_true rfl, Nat.le_of_ble_eq_true rfl⟩) hK hN hP hD (by decide) rfl (ci := 5) rfl rfl rfl hl.1 rfl (Nat.le_of_ble_eq_true rfl) dX5_get_25 ⟨Nat.zero_le _, Nat.zero_le _⟩ (fun r_5 hc_25 => ?_)
      rcases hc_25 with ⟨hc_25, rfl⟩ | ⟨hc_25, rfl⟩
      · skip
        obtain ⟨xa, ya, hxa, hya, rfl, rfl⟩ := onp_of hc_25 hsp
        refine lv_if_ne (tgt := 33) hx hb dX5_get_28 (by decide) (fun c_28 => ?_) (fun c_28 => ?_)
        · skip
          refine lv_aload hx hb dX5_get_33 (lv_at hl 0 rfl) ?_
          refine lv_iload_n hx hb dX5_get_35 rfl (lv_at hl 3 rfl) ?_
          refine lv_iload_n hx hb dX5_get_36 rfl (lv_at hl 4 rfl) ?_
          refine ckSRi (As := [.int (nI xa), .int (nI ya)]) (rest := [.ref h]) [] (c_X5_keyOf l X xa ya (by omega) (by omega)) ⟨hx, hb, hml, hown, hts⟩ (va_cwS 2 hts gX5_get_X5_keyOf rfl rfl rfl (by decide +kernel) ⟨Nat.le_of_ble_eq_true rfl, Nat.le_of_ble_eq_true rfl⟩) hK hN hP hD (by decide) rfl rfl hl.1 rfl (Nat.le_of_ble_eq_true rfl) dX5_get_37 ⟨Nat.zero_le _, Nat.zero_le _⟩ (fun r_6 hc_37 => ?_)
          subst hc_37
          refine ckVRi (As := [.int (nI (xa * 32768 + ya))]) (rest := []) 0 [5, 6, 7] (c_X2_valueOf l X h hk hv wh (xa * 32768 + ya) hkf hvf Hm h2 (by omega)) ⟨hx, hb, hml, hown, hts⟩ (cwV 1 hts gX5_get_X2_valueOf rfl rfl rfl (by decide +kernel) ⟨Nat.le_of_ble_eq_true rfl, Nat.le_of_ble_eq_true rfl⟩) hK hN hP hD (by decide) rfl (ci := 2) rfl rfl rfl hl.1 rfl (Nat.le_of_ble_eq_true rfl) dX5_get_40 ⟨Nat.zero_le _, Nat.zero_le _⟩ (fun r_7 hc_40 => ?_)
          subst hc_40
          refine wM hQ ?_
          exact rtRI hx hb hr hlocks ((by show _ = _; rw [sel_1 hs]; rw [getV_in hc_25, kOf_nI (by omega) (by omega)])) dX5_get_43
        · exact absurd c_28 (by decide)
      · skip
        refine lv_if_ne (tgt := 33) hx hb dX5_get_28 (by decide) (fun c_28 => ?_) (fun c_28 => ?_)
        · exact absurd c_28 (by decide)
        · skip
          refine lv_iconst (v := (-1)) hx hb dX5_get_31 (by decide) ?_
          refine wM hQ ?_
          exact rtRI hx hb hr hlocks ((by show _ = _; rw [sel_1 hs]; exact (getV_out hc_25).symm)) dX5_get_32
    · skip
      rw [if_neg hs.1, if_neg hs.2] at hc_12
      subst hc_12
      refine lv_astoreN (lv' := [(4, .null), (0, .ref a), (1, .int s_), (2, .int x), (3, .int y)]) hx hb dX5_get_15 hl (by decide) rfl (fun ls hl => ?_)
      refine lv_aloadN hx hb dX5_get_17 (lv_at hl 0 rfl) ?_
      refine lv_ifnullN (tgt := 31) hx hb dX5_get_19 (by decide) ?_
      refine lv_iconst (v := (-1)) hx hb dX5_get_31 (by decide) ?_
      refine wM hQ ?_
      exact rtRI hx hb hr hlocks ((by show _ = _; rw [sel_n hs.1 hs.2]; rfl)) dX5_get_32
  · exact absurd c_4 (by decide)
set_option maxHeartbeats 4000000 in
set_option maxRecDepth 100000 in
theorem c_X5_sum (l : Launch) (X : kX) (a d p t t2 ch rs sp bl bk cp : Nat) (f_ct : Int32) (h lk lv se pk pv w hk hv wh : Nat) (s_ x0 y0 x1 y1 : Int32) (pkf pvf hkf hvf : Nat → Int32) (P Hm : PL) (h1 : ptOk pkf pvf P) (h2 : ptOk hkf hvf Hm) : CRl l X yX5_sum wsX5_sum 2 [.ref a, .int s_, .int x0, .int y0, .int x1, .int y1] [(a, .inr (5, [.int (nI bl), .int (nI bk), .int (nI sp), .ref d, .ref p, .ref t, .ref t2, .ref ch, .ref rs, .int (nI 1), .int f_ct, .int (nI cp)])), (d, .inr (1, [.ref h, .ref lk, .ref lv, .int (nI se)])), (p, .inr (2, [.ref pk, .ref pv, .int (nI P.length), .int (nI w)])), (pk, .inl (X.2.1, 512, .inl pkf)), (pv, .inl (X.2.1, 512, .inl pvf)), (h, .inr (2, [.ref hk, .ref hv, .int (nI Hm.length), .int (nI wh)])), (hk, .inl (X.2.1, 512, .inl hkf)), (hv, .inl (X.2.1, 512, .inl hvf))] (fun r => r = sumV (sel s_ P Hm) x0 y0 x1 y1) := by
  refine Met.ofW (cc := cX5_sum) (maxL := 10) (ret := some (.long)) (by decide) rfl ?_
  intro pz ez sz mz args below meth cz s₁ Bz hml hv
  obtain ⟨rfl, hP, hK, hD0, hN⟩ := hv
  have hx := Bz.exec
  have hb := Bz.bytes
  have hr := Bz.returns
  have hts := atoms_spec (ws := wsX5_sum) Bz.pre
  have hown : sz.vm.findClass RX5 = some mz.cls := findClass_of_methodNamed Bz.named
  have hlocks := Bz.notSynchronized
  have hD := inW.self hD0
  have hS : va_S (inW [(a, .inr (5, [.int (nI bl), .int (nI bk), .int (nI sp), .ref d, .ref p, .ref t, .ref t2, .ref ch, .ref rs, .int (nI 1), .int f_ct, .int (nI cp)])), (d, .inr (1, [.ref h, .ref lk, .ref lv, .int (nI se)])), (p, .inr (2, [.ref pk, .ref pv, .int (nI P.length), .int (nI w)])), (pk, .inl (X.2.1, 512, .inl pkf)), (pv, .inl (X.2.1, 512, .inl pvf)), (h, .inr (2, [.ref hk, .ref hv, .int (nI Hm.length), .int (nI wh)])), (hk, .inl (X.2.1, 512, .inl hkf)), (hv, .inl (X.2.1, 512, .inl hvf))]) sz.heap sz.heap [] := va_S.rf
  have hl := lv_entry ([.ref a, .int s_, .int x0, .int y0, .int x1, .int y1]) (n := 10) (Nat.le_of_ble_eq_true rfl)
  rw [lg_entry_eq]
  generalize (lg_sl ([.ref a, .int s_, .int x0, .int y0, .int x1, .int y1]) ++ List.replicate (10 - (lg_sl ([.ref a, .int s_, .int x0, .int y0, .int x1, .int y1])).length) Slot.unset).toArray = ls at hl ⊢
  have hl : lv_has ls 10 [(0, .ref a), (1, .int s_), (2, .int x0), (3, .int y0), (4, .int x1), (5, .int y1)] := hl
  have lk65 := hts (.fieldLink RX5 65 "PointStore" "powered" "Z") (by decide +kernel)
  have lk112 := hts (.fieldLink RX5 112 "PointStore$Points" "total" "I") (by decide +kernel)
  have lk115 := hts (.fieldLink RX5 115 "PointStore$Points" "keys" "[I") (by decide +kernel)
  have lk123 := hts (.fieldLink RX5 123 "PointStore$Points" "values" "[I") (by decide +kernel)
  have hin2 : ∀ w ∈ u_ws RX2 TX2 4, w ∈ wsX5_sum := by decide +kernel
  have hin5 : ∀ w ∈ u_ws RX5 TX5 12, w ∈ wsX5_sum := by decide +kernel
  refine wQ (fun Q hQ => ?_)
  generalize hAe : inW [(a, .inr (5, [.int (nI bl), .int (nI bk), .int (nI sp), .ref d, .ref p, .ref t, .ref t2, .ref ch, .ref rs, .int (nI 1), .int f_ct, .int (nI cp)])), (d, .inr (1, [.ref h, .ref lk, .ref lv, .int (nI se)])), (p, .inr (2, [.ref pk, .ref pv, .int (nI P.length), .int (nI w)])), (pk, .inl (X.2.1, 512, .inl pkf)), (pv, .inl (X.2.1, 512, .inl pvf)), (h, .inr (2, [.ref hk, .ref hv, .int (nI Hm.length), .int (nI wh)])), (hk, .inl (X.2.1, 512, .inl hkf)), (hv, .inl (X.2.1, 512, .inl hvf))] = A_ at hD hS
  have hP1 := h1.1
  have hP2 := h2.1
  refine lv_aload_n hx hb dX5_sum_0 rfl (lv_at hl 0 rfl) ?_
  refine va_get (D := X.1) (ci := 5) (v := .int (nI 1)) (C := RX5) (T := TX5) (N := 12) hx hb hts hin5 hown hK hP 0 rfl rfl 9 (by decide) lk65 (fun _ h9 => h9) rfl dX5_sum_1 ?_
  refine lv_if_ne (tgt := 11) hx hb dX5_sum_4 (by decide) (fun c_4 => ?_) (fun c_4 => ?_)
  · skip
    refine lv_aload_n hx hb dX5_sum_11 rfl (lv_at hl 0 rfl) ?_
    refine lv_iload_n hx hb dX5_sum_12 rfl (lv_at hl 1 rfl) ?_
    refine ckVRq (As := [.int s_]) (rest := []) 0 [0, 1] (c_X5_pointsOf l X a d p t t2 ch rs sp (nI bl) (nI bk) (nI 1) f_ct (nI cp) h lk lv se s_) ⟨hx, hb, hml, hown, hts⟩ (cwV 1 hts gX5_sum_X5_pointsOf rfl rfl rfl (by decide +kernel) ⟨Nat.le_of_ble_eq_true rfl, Nat.le_of_ble_eq_true rfl⟩) hK hN hP hD (by decide) rfl (ci := 5) rfl rfl rfl hl.1 rfl (Nat.le_of_ble_eq_true rfl) dX5_sum_13 ⟨Nat.zero_le _, Nat.zero_le _⟩ (fun r_1 hc_13 => ?_)
    rcases sel3 s_ with hs | hs | hs
    · skip
      rw [if_pos hs] at hc_13
      subst hc_13
      refine lv_astore (lv' := [(6, .ref p), (0, .ref a), (1, .int s_), (2, .int x0), (3, .int y0), (4, .int x1), (5, .int y1)]) hx hb dX5_sum_16 hl (by decide) rfl (fun ls hl => ?_)
      refine lv_aload hx hb dX5_sum_18 (lv_at hl 0 rfl) ?_
      refine lv_ifnonnull (tgt := 25) hx hb dX5_sum_20 (by decide) ?_
      refine lv_lconst (v := lN 0) hx hb dX5_sum_25 (by decide) ?_
      refine lv_lstore (lv' := [(7, .long (lN 0)), (6, .ref p), (0, .ref a), (1, .int s_), (2, .int x0), (3, .int y0), (4, .int x1), (5, .int y1)]) hx hb dX5_sum_26 hl (by decide) rfl (fun ls hl => ?_)
      refine lv_iconst (v := nI 0) hx hb dX5_sum_28 (by decide) ?_
      refine lv_istore (lv' := [(9, .int (nI 0)), (7, .long (lN 0)), (6, .ref p), (0, .ref a), (1, .int s_), (2, .int x0), (3, .int y0), (4, .int x1), (5, .int y1)]) hx hb dX5_sum_29 hl (by decide) rfl (fun ls hl => ?_)
      have loop_31 : ∀ (fu : Nat) (i : Nat), (i ≤ P.length) → P.length - i < fu → ∀ (ls : Array Slot), lv_has ls 10 [(0, .ref a), (2, .int x0), (3, .int y0), (4, .int x1), (5, .int y1), (6, .ref p), (7, .long ((P.take i).foldl (sSt x0 y0 x1 y1) (lN 0))), (9, .int (nI i))] → W pz l ez (headSpec wsX5_sum (rmk 2)).room sz mz ([.ref a, .int s_, .int x0, .int y0, .int x1, .int y1].toArray) below meth cz sz.heap [] 0 0 Q (F0 mz 31 ls []) := by
        intro fu
        induction fu with
        | zero => intro i hi hfu; exact absurd hfu (Nat.not_lt_zero _)
        | succ fu ih31 =>
          intro i hi hfu ls hl
          refine lv_iload hx hb dX5_sum_31 (lv_at hl 7 rfl) ?_
          refine lv_aload hx hb dX5_sum_33 (lv_at hl 5 rfl) ?_
          refine va_get (D := X.1) (ci := 2) (v := .int (nI P.length)) (C := RX2) (T := TX2) (N := 4) hx hb hts hin2 hown hK hP 2 rfl rfl 2 (by decide) lk112 (fun _ h9 => h9) rfl dX5_sum_35 ?_
          refine lv_icmp_ge (tgt := 81) hx hb dX5_sum_38 (by decide) (fun c_38 => ?_) (fun c_38 => ?_)
          · replace c_38 : P.length ≤ i := (nI_leI (by omega) (by omega)).mp c_38
            refine lv_lload hx hb dX5_sum_81 (lv_at hl 6 rfl) ?_
            refine wM hQ ?_
            exact rtRL hx hb hr hlocks ((by show _ = _; rw [sel_0 hs]; show _ = sAll x0 y0 x1 y1 P; rw [show i = P.length from by omega, List.take_length]; rfl)) dX5_sum_83
          · replace c_38 : ¬ P.length ≤ i := fun h9 => c_38 ((nI_leI (by omega) (by omega)).mpr h9)
            refine lv_aload hx hb dX5_sum_41 (lv_at hl 5 rfl) ?_
            refine va_get (D := X.1) (ci := 2) (v := .ref pk) (C := RX2) (T := TX2) (N := 4) hx hb hts hin2 hown hK hP 2 rfl rfl 0 (by decide) lk115 (fun _ h9 => h9) rfl dX5_sum_43 ?_
            refine lv_iload hx hb dX5_sum_46 (lv_at hl 7 rfl) ?_
            have hi_2 : vp_in (nI i) 512 := vp_in_nI (by omega) (by omega)
            refine va_iald hx hb hK hP 3 0 rfl rfl hi_2 dX5_sum_48 ?_
            refine lv_topi (fun x_3 ex_3 => ?_)
            obtain rfl : x_3 = pkf i := by
              rw [ex_3]
              rw [nI_clamp (by omega)]
            refine lv_topi (fun x_4 ex_4 => ?_)
            obtain rfl : x_4 = nI (pK P i) := by
              rw [ex_4]
              exact h1.k (by omega)
            refine lv_iload_n hx hb dX5_sum_49 rfl (lv_at hl 1 rfl) ?_
            refine lv_iload_n hx hb dX5_sum_50 rfl (lv_at hl 2 rfl) ?_
            refine lv_iload hx hb dX5_sum_51 (lv_at hl 3 rfl) ?_
            refine lv_iload hx hb dX5_sum_53 (lv_at hl 4 rfl) ?_
            refine ckSRi (As := [.int (nI (pK P i)), .int x0, .int y0, .int x1, .int y1]) (rest := []) [] (c_X5_isWithin l X (pK P i) x0 y0 x1 y1 (by first | exact h1.kb (by omega) | exact h2.kb (by omega))) ⟨hx, hb, hml, hown, hts⟩ (va_cwS 5 hts gX5_sum_X5_isWithin rfl rfl rfl (by decide +kernel) ⟨Nat.le_of_ble_eq_true rfl, Nat.le_of_ble_eq_true rfl⟩) hK hN hP hD (by decide) rfl rfl hl.1 rfl (Nat.le_of_ble_eq_true rfl) dX5_sum_55 ⟨Nat.zero_le _, Nat.zero_le _⟩ (fun r_5 hc_55 => ?_)
            rcases hc_55 with ⟨hc_55, rfl⟩ | ⟨hc_55, rfl⟩
            · skip
              refine lv_if_eq (tgt := 75) hx hb dX5_sum_58 (by decide) (fun c_58 => ?_) (fun c_58 => ?_)
              · exact absurd c_58 (by decide)
              · skip
                refine lv_lload hx hb dX5_sum_61 (lv_at hl 6 rfl) ?_
                refine lv_aload hx hb dX5_sum_63 (lv_at hl 5 rfl) ?_
                refine va_get (D := X.1) (ci := 2) (v := .ref pv) (C := RX2) (T := TX2) (N := 4) hx hb hts hin2 hown hK hP 2 rfl rfl 1 (by decide) lk123 (fun _ h9 => h9) rfl dX5_sum_65 ?_
                refine lv_iload hx hb dX5_sum_68 (lv_at hl 7 rfl) ?_
                have hi_6 : vp_in (nI i) 512 := vp_in_nI (by omega) (by omega)
                refine va_iald hx hb hK hP 4 0 rfl rfl hi_6 dX5_sum_70 ?_
                refine lv_topi (fun x_7 ex_7 => ?_)
                obtain rfl : x_7 = pvf i := by
                  rw [ex_7]
                  rw [nI_clamp (by omega)]
                refine lv_topi (fun x_8 ex_8 => ?_)
                obtain rfl : x_8 = nI (pV P i) := by
                  rw [ex_8]
                  exact h1.v (by omega)
                have hvb := h1.vb (i := i) (by omega)
                refine lv_i2l (v := lN (pV P i)) hx hb dX5_sum_71 (nI_l (by omega)) ?_
                refine lv_ladd hx hb dX5_sum_72 ?_
                refine lv_lstore (lv' := [(7, .long (((P.take i).foldl (sSt x0 y0 x1 y1) (lN 0)) + (lN (pV P i)))), (0, .ref a), (2, .int x0), (3, .int y0), (4, .int x1), (5, .int y1), (6, .ref p), (9, .int (nI i))]) hx hb dX5_sum_73 hl (by decide) rfl (fun ls hl => ?_)
                refine lv_iinc (v := nI (i + 1)) (lv' := [(9, .int (nI (i + 1))), (7, .long (((P.take i).foldl (sSt x0 y0 x1 y1) (lN 0)) + (lN (pV P i)))), (0, .ref a), (2, .int x0), (3, .int y0), (4, .int x1), (5, .int y1), (6, .ref p)]) hx hb dX5_sum_75 hl (k := 7) rfl (by rw [show Int32.ofInt 1 = nI 1 from by decide]; exact nI_add _ _) (by decide) rfl (fun ls hl => ?_)
                refine lv_goto (tgt := 31) hx hb dX5_sum_78 (by decide) ?_
                have hl : lv_has ls 10 [(9, .int (nI (i + 1))), (7, .long ((P.take (i + 1)).foldl (sSt x0 y0 x1 y1) (lN 0))), (0, .ref a), (2, .int x0), (3, .int y0), (4, .int x1), (5, .int y1), (6, .ref p)] := by
                  rw [s_in (by omega) hc_55]
                  exact hl
                exact ih31 (i + 1) (by omega) (by omega) ls (lv_sub hl [2, 3, 4, 5, 6, 7, 1, 0] rfl)
            · skip
              refine lv_if_eq (tgt := 75) hx hb dX5_sum_58 (by decide) (fun c_58 => ?_) (fun c_58 => ?_)
              · skip
                refine lv_iinc (v := nI (i + 1)) (lv' := [(9, .int (nI (i + 1))), (0, .ref a), (2, .int x0), (3, .int y0), (4, .int x1), (5, .int y1), (6, .ref p), (7, .long ((P.take i).foldl (sSt x0 y0 x1 y1) (lN 0)))]) hx hb dX5_sum_75 hl (k := 7) rfl (by rw [show Int32.ofInt 1 = nI 1 from by decide]; exact nI_add _ _) (by decide) rfl (fun ls hl => ?_)
                refine lv_goto (tgt := 31) hx hb dX5_sum_78 (by decide) ?_
                have hl : lv_has ls 10 [(9, .int (nI (i + 1))), (0, .ref a), (2, .int x0), (3, .int y0), (4, .int x1), (5, .int y1), (6, .ref p), (7, .long ((P.take (i + 1)).foldl (sSt x0 y0 x1 y1) (lN 0)))] := by
                  rw [s_out (by omega) hc_55]
                  exact hl
                exact ih31 (i + 1) (by omega) (by omega) ls (lv_sub hl [1, 2, 3, 4, 5, 6, 7, 0] rfl)
              · exact absurd c_58 (by decide)
      exact loop_31 _ 0 (by omega) (Nat.lt_succ_self _) ls (lv_sub hl [3, 5, 6, 7, 8, 2, 1, 0] rfl)
    · skip
      rw [if_neg (by rw [hs]; decide), if_pos hs] at hc_13
      subst hc_13
      refine lv_astore (lv' := [(6, .ref h), (0, .ref a), (1, .int s_), (2, .int x0), (3, .int y0), (4, .int x1), (5, .int y1)]) hx hb dX5_sum_16 hl (by decide) rfl (fun ls hl => ?_)
      refine lv_aload hx hb dX5_sum_18 (lv_at hl 0 rfl) ?_
      refine lv_ifnonnull (tgt := 25) hx hb dX5_sum_20 (by decide) ?_
      refine lv_lconst (v := lN 0) hx hb dX5_sum_25 (by decide) ?_
      refine lv_lstore (lv' := [(7, .long (lN 0)), (6, .ref h), (0, .ref a), (1, .int s_), (2, .int x0), (3, .int y0), (4, .int x1), (5, .int y1)]) hx hb dX5_sum_26 hl (by decide) rfl (fun ls hl => ?_)
      refine lv_iconst (v := nI 0) hx hb dX5_sum_28 (by decide) ?_
      refine lv_istore (lv' := [(9, .int (nI 0)), (7, .long (lN 0)), (6, .ref h), (0, .ref a), (1, .int s_), (2, .int x0), (3, .int y0), (4, .int x1), (5, .int y1)]) hx hb dX5_sum_29 hl (by decide) rfl (fun ls hl => ?_)
      have loop_31 : ∀ (fu : Nat) (i : Nat), (i ≤ Hm.length) → Hm.length - i < fu → ∀ (ls : Array Slot), lv_has ls 10 [(0, .ref a), (2, .int x0), (3, .int y0), (4, .int x1), (5, .int y1), (6, .ref h), (7, .long ((Hm.take i).foldl (sSt x0 y0 x1 y1) (lN 0))), (9, .int (nI i))] → W pz l ez (headSpec wsX5_sum (rmk 2)).room sz mz ([.ref a, .int s_, .int x0, .int y0, .int x1, .int y1].toArray) below meth cz sz.heap [] 0 0 Q (F0 mz 31 ls []) := by
        intro fu
        induction fu with
        | zero => intro i hi hfu; exact absurd hfu (Nat.not_lt_zero _)
        | succ fu ih31 =>
          intro i hi hfu ls hl
          refine lv_iload hx hb dX5_sum_31 (lv_at hl 7 rfl) ?_
          refine lv_aload hx hb dX5_sum_33 (lv_at hl 5 rfl) ?_
          refine va_get (D := X.1) (ci := 2) (v := .int (nI Hm.length)) (C := RX2) (T := TX2) (N := 4) hx hb hts hin2 hown hK hP 5 rfl rfl 2 (by decide) lk112 (fun _ h9 => h9) rfl dX5_sum_35 ?_
          refine lv_icmp_ge (tgt := 81) hx hb dX5_sum_38 (by decide) (fun c_38 => ?_) (fun c_38 => ?_)
          · replace c_38 : Hm.length ≤ i := (nI_leI (by omega) (by omega)).mp c_38
            refine lv_lload hx hb dX5_sum_81 (lv_at hl 6 rfl) ?_
            refine wM hQ ?_
            exact rtRL hx hb hr hlocks ((by show _ = _; rw [sel_1 hs]; show _ = sAll x0 y0 x1 y1 Hm; rw [show i = Hm.length from by omega, List.take_length]; rfl)) dX5_sum_83
          · replace c_38 : ¬ Hm.length ≤ i := fun h9 => c_38 ((nI_leI (by omega) (by omega)).mpr h9)
            refine lv_aload hx hb dX5_sum_41 (lv_at hl 5 rfl) ?_
            refine va_get (D := X.1) (ci := 2) (v := .ref hk) (C := RX2) (T := TX2) (N := 4) hx hb hts hin2 hown hK hP 5 rfl rfl 0 (by decide) lk115 (fun _ h9 => h9) rfl dX5_sum_43 ?_
            refine lv_iload hx hb dX5_sum_46 (lv_at hl 7 rfl) ?_
            have hi_9 : vp_in (nI i) 512 := vp_in_nI (by omega) (by omega)
            refine va_iald hx hb hK hP 6 0 rfl rfl hi_9 dX5_sum_48 ?_
            refine lv_topi (fun x_10 ex_10 => ?_)
            obtain rfl : x_10 = hkf i := by
              rw [ex_10]
              rw [nI_clamp (by omega)]
            refine lv_topi (fun x_11 ex_11 => ?_)
            obtain rfl : x_11 = nI (pK Hm i) := by
              rw [ex_11]
              exact h2.k (by omega)
            refine lv_iload_n hx hb dX5_sum_49 rfl (lv_at hl 1 rfl) ?_
            refine lv_iload_n hx hb dX5_sum_50 rfl (lv_at hl 2 rfl) ?_
            refine lv_iload hx hb dX5_sum_51 (lv_at hl 3 rfl) ?_
            refine lv_iload hx hb dX5_sum_53 (lv_at hl 4 rfl) ?_
            refine ckSRi (As := [.int (nI (pK Hm i)), .int x0, .int y0, .int x1, .int y1]) (rest := []) [] (c_X5_isWithin l X (pK Hm i) x0 y0 x1 y1 (by first | exact h1.kb (by omega) | exact h2.kb (by omega))) ⟨hx, hb, hml, hown, hts⟩ (va_cwS 5 hts gX5_sum_X5_isWithin rfl rfl rfl (by decide +kernel) ⟨Nat.le_of_ble_eq_true rfl, Nat.le_of_ble_eq_true rfl⟩) hK hN hP hD (by decide) rfl rfl hl.1 rfl (Nat.le_of_ble_eq_true rfl) dX5_sum_55 ⟨Nat.zero_le _, Nat.zero_le _⟩ (fun r_12 hc_55 => ?_)
            rcases hc_55 with ⟨hc_55, rfl⟩ | ⟨hc_55, rfl⟩
            · skip
              refine lv_if_eq (tgt := 75) hx hb dX5_sum_58 (by decide) (fun c_58 => ?_) (fun c_58 => ?_)
              · exact absurd c_58 (by decide)
              · skip
                refine lv_lload hx hb dX5_sum_61 (lv_at hl 6 rfl) ?_
                refine lv_aload hx hb dX5_sum_63 (lv_at hl 5 rfl) ?_
                refine va_get (D := X.1) (ci := 2) (v := .ref hv) (C := RX2) (T := TX2) (N := 4) hx hb hts hin2 hown hK hP 5 rfl rfl 1 (by decide) lk123 (fun _ h9 => h9) rfl dX5_sum_65 ?_
                refine lv_iload hx hb dX5_sum_68 (lv_at hl 7 rfl) ?_
                have hi_13 : vp_in (nI i) 512 := vp_in_nI (by omega) (by omega)
                refine va_iald hx hb hK hP 7 0 rfl rfl hi_13 dX5_sum_70 ?_
                refine lv_topi (fun x_14 ex_14 => ?_)
                obtain rfl : x_14 = hvf i := by
                  rw [ex_14]
                  rw [nI_clamp (by omega)]
                refine lv_topi (fun x_15 ex_15 => ?_)
                obtain rfl : x_15 = nI (pV Hm i) := by
                  rw [ex_15]
                  exact h2.v (by omega)
                have hvb := h2.vb (i := i) (by omega)
                refine lv_i2l (v := lN (pV Hm i)) hx hb dX5_sum_71 (nI_l (by omega)) ?_
                refine lv_ladd hx hb dX5_sum_72 ?_
                refine lv_lstore (lv' := [(7, .long (((Hm.take i).foldl (sSt x0 y0 x1 y1) (lN 0)) + (lN (pV Hm i)))), (0, .ref a), (2, .int x0), (3, .int y0), (4, .int x1), (5, .int y1), (6, .ref h), (9, .int (nI i))]) hx hb dX5_sum_73 hl (by decide) rfl (fun ls hl => ?_)
                refine lv_iinc (v := nI (i + 1)) (lv' := [(9, .int (nI (i + 1))), (7, .long (((Hm.take i).foldl (sSt x0 y0 x1 y1) (lN 0)) + (lN (pV Hm i)))), (0, .ref a), (2, .int x0), (3, .int y0), (4, .int x1), (5, .int y1), (6, .ref h)]) hx hb dX5_sum_75 hl (k := 7) rfl (by rw [show Int32.ofInt 1 = nI 1 from by decide]; exact nI_add _ _) (by decide) rfl (fun ls hl => ?_)
                refine lv_goto (tgt := 31) hx hb dX5_sum_78 (by decide) ?_
                have hl : lv_has ls 10 [(9, .int (nI (i + 1))), (7, .long ((Hm.take (i + 1)).foldl (sSt x0 y0 x1 y1) (lN 0))), (0, .ref a), (2, .int x0), (3, .int y0), (4, .int x1), (5, .int y1), (6, .ref h)] := by
                  rw [s_in (by omega) hc_55]
                  exact hl
                exact ih31 (i + 1) (by omega) (by omega) ls (lv_sub hl [2, 3, 4, 5, 6, 7, 1, 0] rfl)
            · skip
              refine lv_if_eq (tgt := 75) hx hb dX5_sum_58 (by decide) (fun c_58 => ?_) (fun c_58 => ?_)
              · skip
                refine lv_iinc (v := nI (i + 1)) (lv' := [(9, .int (nI (i + 1))), (0, .ref a), (2, .int x0), (3, .int y0), (4, .int x1), (5, .int y1), (6, .ref h), (7, .long ((Hm.take i).foldl (sSt x0 y0 x1 y1) (lN 0)))]) hx hb dX5_sum_75 hl (k := 7) rfl (by rw [show Int32.ofInt 1 = nI 1 from by decide]; exact nI_add _ _) (by decide) rfl (fun ls hl => ?_)
                refine lv_goto (tgt := 31) hx hb dX5_sum_78 (by decide) ?_
                have hl : lv_has ls 10 [(9, .int (nI (i + 1))), (0, .ref a), (2, .int x0), (3, .int y0), (4, .int x1), (5, .int y1), (6, .ref h), (7, .long ((Hm.take (i + 1)).foldl (sSt x0 y0 x1 y1) (lN 0)))] := by
                  rw [s_out (by omega) hc_55]
                  exact hl
                exact ih31 (i + 1) (by omega) (by omega) ls (lv_sub hl [1, 2, 3, 4, 5, 6, 7, 0] rfl)
              · exact absurd c_58 (by decide)
      exact loop_31 _ 0 (by omega) (Nat.lt_succ_self _) ls (lv_sub hl [3, 5, 6, 7, 8, 2, 1, 0] rfl)
    · skip
      rw [if_neg hs.1, if_neg hs.2] at hc_13
      subst hc_13
      refine lv_astoreN (lv' := [(6, .null), (0, .ref a), (1, .int s_), (2, .int x0), (3, .int y0), (4, .int x1), (5, .int y1)]) hx hb dX5_sum_16 hl (by decide) rfl (fun ls hl => ?_)
      refine lv_aloadN hx hb dX5_sum_18 (lv_at hl 0 rfl) ?_
      refine lv_ifnonnullN hx hb dX5_sum_20 ?_
      refine lv_lconst (v := lN 0) hx hb dX5_sum_23 (by decide) ?_
      refine wM hQ ?_
      exact rtRL hx hb hr hlocks ((by show _ = _; rw [sel_n hs.1 hs.2]; rfl)) dX5_sum_24
  · exact absurd c_4 (by decide)
set_option maxHeartbeats 4000000 in
set_option maxRecDepth 100000 in
theorem c_X5_window (l : Launch) (X : kX) (a d p t t2 ch rs sp bl bk cp : Nat) (f_ct : Int32) (h lk lv se pk pv w hk hv wh : Nat) (rk_ rv rd : Nat) (s_ x0 y0 x1 y1 : Int32) (pkf pvf hkf hvf rkf rvf : Nat → Int32) (P Hm : PL) (R : RSL) (h1 : ptOk pkf pvf P) (h2 : ptOk hkf hvf Hm) (h3 : rsOk rkf rvf R) : CWi l X yX5_window wsX5_window 2 [.ref a, .int s_, .int x0, .int y0, .int x1, .int y1] [(a, .inr (5, [.int (nI bl), .int (nI bk), .int (nI sp), .ref d, .ref p, .ref t, .ref t2, .ref ch, .ref rs, .int (nI 1), .int f_ct, .int (nI cp)])), (d, .inr (1, [.ref h, .ref lk, .ref lv, .int (nI se)])), (p, .inr (2, [.ref pk, .ref pv, .int (nI P.length), .int (nI w)])), (pk, .inl (X.2.1, 512, .inl pkf)), (pv, .inl (X.2.1, 512, .inl pvf)), (h, .inr (2, [.ref hk, .ref hv, .int (nI Hm.length), .int (nI wh)])), (hk, .inl (X.2.1, 512, .inl hkf)), (hv, .inl (X.2.1, 512, .inl hvf)), (rs, .inr (3, [.ref rk_, .ref rv, .ref rd, .int (nI R.length)])), (rk_, .inl (X.2.1, 150, .inl rkf)), (rv, .inl (X.2.1, 150, .inl rvf))] (S := (Nat → Int32) × (Nat → Int32) × RSL) (fun r u => rsOk u.1 u.2.1 u.2.2 ∧ (r, u.2.2) = winF (sel s_ P Hm) R x0 y0 x1 y1) (fun ⟨rk2, rv2, R2⟩ => [(a, .inr (5, [.int (nI bl), .int (nI bk), .int (nI sp), .ref d, .ref p, .ref t, .ref t2, .ref ch, .ref rs, .int (nI 1), .int f_ct, .int (nI cp)])), (d, .inr (1, [.ref h, .ref lk, .ref lv, .int (nI se)])), (p, .inr (2, [.ref pk, .ref pv, .int (nI P.length), .int (nI w)])), (pk, .inl (X.2.1, 512, .inl pkf)), (pv, .inl (X.2.1, 512, .inl pvf)), (h, .inr (2, [.ref hk, .ref hv, .int (nI Hm.length), .int (nI wh)])), (hk, .inl (X.2.1, 512, .inl hkf)), (hv, .inl (X.2.1, 512, .inl hvf)), (rs, .inr (3, [.ref rk_, .ref rv, .ref rd, .int (nI R2.length)])), (rk_, .inl (X.2.1, 150, .inl rk2)), (rv, .inl (X.2.1, 150, .inl rv2))]) := by
  refine Met.ofW (cc := cX5_window) (maxL := 9) (ret := some (.int)) (by decide) rfl ?_
  intro pz ez sz mz args below meth cz s₁ Bz hml hv
  obtain ⟨rfl, hP, hK, hD0, hN⟩ := hv
  have hx := Bz.exec
  have hb := Bz.bytes
  have hr := Bz.returns
  have hts := atoms_spec (ws := wsX5_window) Bz.pre
  have hown : sz.vm.findClass RX5 = some mz.cls := findClass_of_methodNamed Bz.named
  have hlocks := Bz.notSynchronized
  have hD := inW.self hD0
  have hS : va_S (inW [(a, .inr (5, [.int (nI bl), .int (nI bk), .int (nI sp), .ref d, .ref p, .ref t, .ref t2, .ref ch, .ref rs, .int (nI 1), .int f_ct, .int (nI cp)])), (d, .inr (1, [.ref h, .ref lk, .ref lv, .int (nI se)])), (p, .inr (2, [.ref pk, .ref pv, .int (nI P.length), .int (nI w)])), (pk, .inl (X.2.1, 512, .inl pkf)), (pv, .inl (X.2.1, 512, .inl pvf)), (h, .inr (2, [.ref hk, .ref hv, .int (nI Hm.length), .int (nI wh)])), (hk, .inl (X.2.1, 512, .inl hkf)), (hv, .inl (X.2.1, 512, .inl hvf)), (rs, .inr (3, [.ref rk_, .ref rv, .ref rd, .int (nI R.length)])), (rk_, .inl (X.2.1, 150, .inl rkf)), (rv, .inl (X.2.1, 150, .inl rvf))]) sz.heap sz.heap [] := va_S.rf
  have hl := lv_entry ([.ref a, .int s_, .int x0, .int y0, .int x1, .int y1]) (n := 9) (Nat.le_of_ble_eq_true rfl)
  rw [lg_entry_eq]
  generalize (lg_sl ([.ref a, .int s_, .int x0, .int y0, .int x1, .int y1]) ++ List.replicate (9 - (lg_sl ([.ref a, .int s_, .int x0, .int y0, .int x1, .int y1])).length) Slot.unset).toArray = ls at hl ⊢
  have hl : lv_has ls 9 [(0, .ref a), (1, .int s_), (2, .int x0), (3, .int y0), (4, .int x1), (5, .int y1)] := hl
  have lk61 := hts (.fieldLink RX5 61 "PointStore" "results" "LPointStore$Results;") (by decide +kernel)
  have lk65 := hts (.fieldLink RX5 65 "PointStore" "powered" "Z") (by decide +kernel)
  have lk112 := hts (.fieldLink RX5 112 "PointStore$Points" "total" "I") (by decide +kernel)
  have lk115 := hts (.fieldLink RX5 115 "PointStore$Points" "keys" "[I") (by decide +kernel)
  have lk123 := hts (.fieldLink RX5 123 "PointStore$Points" "values" "[I") (by decide +kernel)
  have hin2 : ∀ w ∈ u_ws RX2 TX2 4, w ∈ wsX5_window := by decide +kernel
  have hin5 : ∀ w ∈ u_ws RX5 TX5 12, w ∈ wsX5_window := by decide +kernel
  refine wQ (fun Q hQ => ?_)
  generalize hAe : inW [(a, .inr (5, [.int (nI bl), .int (nI bk), .int (nI sp), .ref d, .ref p, .ref t, .ref t2, .ref ch, .ref rs, .int (nI 1), .int f_ct, .int (nI cp)])), (d, .inr (1, [.ref h, .ref lk, .ref lv, .int (nI se)])), (p, .inr (2, [.ref pk, .ref pv, .int (nI P.length), .int (nI w)])), (pk, .inl (X.2.1, 512, .inl pkf)), (pv, .inl (X.2.1, 512, .inl pvf)), (h, .inr (2, [.ref hk, .ref hv, .int (nI Hm.length), .int (nI wh)])), (hk, .inl (X.2.1, 512, .inl hkf)), (hv, .inl (X.2.1, 512, .inl hvf)), (rs, .inr (3, [.ref rk_, .ref rv, .ref rd, .int (nI R.length)])), (rk_, .inl (X.2.1, 150, .inl rkf)), (rv, .inl (X.2.1, 150, .inl rvf))] = A_ at hD hS hQ
  have hP1 := h1.1
  have hP2 := h2.1
  have hR := h3.1
  refine lv_aload_n hx hb dX5_window_0 rfl (lv_at hl 0 rfl) ?_
  refine va_get (D := X.1) (ci := 5) (v := .int (nI 1)) (C := RX5) (T := TX5) (N := 12) hx hb hts hin5 hown hK hP 0 rfl rfl 9 (by decide) lk65 (fun _ h9 => h9) rfl dX5_window_1 ?_
  refine lv_if_ne (tgt := 10) hx hb dX5_window_4 (by decide) (fun c_4 => ?_) (fun c_4 => ?_)
  · skip
    refine lv_aload_n hx hb dX5_window_10 rfl (lv_at hl 0 rfl) ?_
    refine lv_iload_n hx hb dX5_window_11 rfl (lv_at hl 1 rfl) ?_
    refine ckVRq (As := [.int s_]) (rest := []) 0 [0, 1] (c_X5_pointsOf l X a d p t t2 ch rs sp (nI bl) (nI bk) (nI 1) f_ct (nI cp) h lk lv se s_) ⟨hx, hb, hml, hown, hts⟩ (cwV 1 hts gX5_window_X5_pointsOf rfl rfl rfl (by decide +kernel) ⟨Nat.le_of_ble_eq_true rfl, Nat.le_of_ble_eq_true rfl⟩) hK hN hP hD (by decide) rfl (ci := 5) rfl rfl rfl hl.1 rfl (Nat.le_of_ble_eq_true rfl) dX5_window_12 ⟨Nat.zero_le _, Nat.zero_le _⟩ (fun r_1 hc_12 => ?_)
    rcases sel3 s_ with hs | hs | hs
    · skip
      rw [if_pos hs] at hc_12
      subst hc_12
      refine lv_astore (lv' := [(6, .ref p), (0, .ref a), (1, .int s_), (2, .int x0), (3, .int y0), (4, .int x1), (5, .int y1)]) hx hb dX5_window_15 hl (by decide) rfl (fun ls hl => ?_)
      refine lv_aload hx hb dX5_window_17 (lv_at hl 0 rfl) ?_
      refine lv_ifnonnull (tgt := 24) hx hb dX5_window_19 (by decide) ?_
      refine lv_aload_n hx hb dX5_window_24 rfl (lv_at hl 1 rfl) ?_
      refine va_get (D := X.1) (ci := 5) (v := .ref rs) (C := RX5) (T := TX5) (N := 12) hx hb hts hin5 hown hK hP 0 rfl rfl 8 (by decide) lk61 (fun _ h9 => h9) rfl dX5_window_25 ?_
      refine ckVv (As := []) (rest := []) 0 [8] (c_X3_clear l X rs rk_ rv rd (nI R.length)) ⟨hx, hb, hml, hown, hts⟩ (cwV 0 hts gX5_window_X3_clear rfl rfl rfl (by decide +kernel) ⟨Nat.le_of_ble_eq_true rfl, Nat.le_of_ble_eq_true rfl⟩) hK hN hP hD hS (by decide) rfl (ci := 3) rfl rfl (fun _ => rfl) rfl hl.1 rfl (Nat.le_of_ble_eq_true rfl) dX5_window_28 ⟨Nat.zero_le _, Nat.zero_le _⟩ (fun u_2 H locs hc_28 hP hD hS => ?_)
      have hP : va_P X.1 vwCl [(a, .inr (5, [.int (nI bl), .int (nI bk), .int (nI sp), .ref d, .ref p, .ref t, .ref t2, .ref ch, .ref rs, .int (nI 1), .int f_ct, .int (nI cp)])), (d, .inr (1, [.ref h, .ref lk, .ref lv, .int (nI se)])), (p, .inr (2, [.ref pk, .ref pv, .int (nI P.length), .int (nI w)])), (pk, .inl (X.2.1, 512, .inl pkf)), (pv, .inl (X.2.1, 512, .inl pvf)), (h, .inr (2, [.ref hk, .ref hv, .int (nI Hm.length), .int (nI wh)])), (hk, .inl (X.2.1, 512, .inl hkf)), (hv, .inl (X.2.1, 512, .inl hvf)), (rs, .inr (3, [.ref rk_, .ref rv, .ref rd, .int (nI 0)])), (rk_, .inl (X.2.1, 150, .inl rkf)), (rv, .inl (X.2.1, 150, .inl rvf))] H := hP
      have hD : va_D A_ [(a, .inr (5, [.int (nI bl), .int (nI bk), .int (nI sp), .ref d, .ref p, .ref t, .ref t2, .ref ch, .ref rs, .int (nI 1), .int f_ct, .int (nI cp)])), (d, .inr (1, [.ref h, .ref lk, .ref lv, .int (nI se)])), (p, .inr (2, [.ref pk, .ref pv, .int (nI P.length), .int (nI w)])), (pk, .inl (X.2.1, 512, .inl pkf)), (pv, .inl (X.2.1, 512, .inl pvf)), (h, .inr (2, [.ref hk, .ref hv, .int (nI Hm.length), .int (nI wh)])), (hk, .inl (X.2.1, 512, .inl hkf)), (hv, .inl (X.2.1, 512, .inl hvf)), (rs, .inr (3, [.ref rk_, .ref rv, .ref rd, .int (nI 0)])), (rk_, .inl (X.2.1, 150, .inl rkf)), (rv, .inl (X.2.1, 150, .inl rvf))] := hD
      refine lv_iconst (v := nI 0) hx hb dX5_window_31 (by decide) ?_
      refine lv_istore (lv' := [(7, .int (nI 0)), (6, .ref p), (0, .ref a), (1, .int s_), (2, .int x0), (3, .int y0), (4, .int x1), (5, .int y1)]) hx hb dX5_window_32 hl (by decide) rfl (fun ls hl => ?_)
      refine lv_iconst (v := nI 0) hx hb dX5_window_34 (by decide) ?_
      refine lv_istore (lv' := [(8, .int (nI 0)), (7, .int (nI 0)), (6, .ref p), (0, .ref a), (1, .int s_), (2, .int x0), (3, .int y0), (4, .int x1), (5, .int y1)]) hx hb dX5_window_35 hl (by decide) rfl (fun ls hl => ?_)
      have loop_37 : ∀ (fu : Nat) (i : Nat) (rk1 : Nat → Int32) (rv1 : Nat → Int32), (i ≤ P.length) → (rsOk rk1 rv1 ((P.take i).foldl (wSt x0 y0 x1 y1) ([], 0)).1) → P.length - i < fu → ∀ (H : Heap) (locs : List Loc), va_P X.1 vwCl [(a, .inr (5, [.int (nI bl), .int (nI bk), .int (nI sp), .ref d, .ref p, .ref t, .ref t2, .ref ch, .ref rs, .int (nI 1), .int f_ct, .int (nI cp)])), (d, .inr (1, [.ref h, .ref lk, .ref lv, .int (nI se)])), (p, .inr (2, [.ref pk, .ref pv, .int (nI P.length), .int (nI w)])), (pk, .inl (X.2.1, 512, .inl pkf)), (pv, .inl (X.2.1, 512, .inl pvf)), (h, .inr (2, [.ref hk, .ref hv, .int (nI Hm.length), .int (nI wh)])), (hk, .inl (X.2.1, 512, .inl hkf)), (hv, .inl (X.2.1, 512, .inl hvf)), (rs, .inr (3, [.ref rk_, .ref rv, .ref rd, .int (nI (((P.take i).foldl (wSt x0 y0 x1 y1) ([], 0)).1.length))])), (rk_, .inl (X.2.1, 150, .inl rk1)), (rv, .inl (X.2.1, 150, .inl rv1))] H → va_D A_ [(a, .inr (5, [.int (nI bl), .int (nI bk), .int (nI sp), .ref d, .ref p, .ref t, .ref t2, .ref ch, .ref rs, .int (nI 1), .int f_ct, .int (nI cp)])), (d, .inr (1, [.ref h, .ref lk, .ref lv, .int (nI se)])), (p, .inr (2, [.ref pk, .ref pv, .int (nI P.length), .int (nI w)])), (pk, .inl (X.2.1, 512, .inl pkf)), (pv, .inl (X.2.1, 512, .inl pvf)), (h, .inr (2, [.ref hk, .ref hv, .int (nI Hm.length), .int (nI wh)])), (hk, .inl (X.2.1, 512, .inl hkf)), (hv, .inl (X.2.1, 512, .inl hvf)), (rs, .inr (3, [.ref rk_, .ref rv, .ref rd, .int (nI (((P.take i).foldl (wSt x0 y0 x1 y1) ([], 0)).1.length))])), (rk_, .inl (X.2.1, 150, .inl rk1)), (rv, .inl (X.2.1, 150, .inl rv1))] → va_S A_ sz.heap H locs → ∀ (ls : Array Slot), lv_has ls 9 [(0, .ref a), (2, .int x0), (3, .int y0), (4, .int x1), (5, .int y1), (6, .ref p), (7, .int (nI (((P.take i).foldl (wSt x0 y0 x1 y1) ([], 0)).2))), (8, .int (nI i))] → W pz l ez (headSpec wsX5_window (rmk 2)).room sz mz ([.ref a, .int s_, .int x0, .int y0, .int x1, .int y1].toArray) below meth cz H locs 0 0 Q (F0 mz 37 ls []) := by
        intro fu
        induction fu with
        | zero => intro i rk1 rv1 hi hr1 hfu; exact absurd hfu (Nat.not_lt_zero _)
        | succ fu ih37 =>
          intro i rk1 rv1 hi hr1 hfu H locs hP hD hS ls hl
          refine lv_iload hx hb dX5_window_37 (lv_at hl 7 rfl) ?_
          refine lv_aload hx hb dX5_window_39 (lv_at hl 5 rfl) ?_
          refine va_get (D := X.1) (ci := 2) (v := .int (nI P.length)) (C := RX2) (T := TX2) (N := 4) hx hb hts hin2 hown hK hP 2 rfl rfl 2 (by decide) lk112 (fun _ h9 => h9) rfl dX5_window_41 ?_
          refine lv_icmp_ge (tgt := 99) hx hb dX5_window_44 (by decide) (fun c_44 => ?_) (fun c_44 => ?_)
          · replace c_44 : P.length ≤ i := (nI_leI (by omega) (by omega)).mp c_44
            refine lv_iload hx hb dX5_window_99 (lv_at hl 6 rfl) ?_
            refine wM hQ ?_
            exact rtI (rk1, rv1, ((P.take i).foldl (wSt x0 y0 x1 y1) ([], 0)).1) hx hb hr hlocks hP hS (⟨hr1, by show (nI ((P.take i).foldl (wSt x0 y0 x1 y1) ([], 0)).2, ((P.take i).foldl (wSt x0 y0 x1 y1) ([], 0)).1) = _; rw [sel_0 hs]; show _ = (nI (wAll x0 y0 x1 y1 P).2, (wAll x0 y0 x1 y1 P).1); rw [show i = P.length from by omega, wAll_full]⟩) dX5_window_101
          · replace c_44 : ¬ P.length ≤ i := fun h9 => c_44 ((nI_leI (by omega) (by omega)).mpr h9)
            refine lv_aload hx hb dX5_window_47 (lv_at hl 5 rfl) ?_
            refine va_get (D := X.1) (ci := 2) (v := .ref pk) (C := RX2) (T := TX2) (N := 4) hx hb hts hin2 hown hK hP 2 rfl rfl 0 (by decide) lk115 (fun _ h9 => h9) rfl dX5_window_49 ?_
            refine lv_iload hx hb dX5_window_52 (lv_at hl 7 rfl) ?_
            have hi_4 : vp_in (nI i) 512 := vp_in_nI (by omega) (by omega)
            refine va_iald hx hb hK hP 3 0 rfl rfl hi_4 dX5_window_54 ?_
            refine lv_topi (fun x_5 ex_5 => ?_)
            obtain rfl : x_5 = pkf i := by
              rw [ex_5]
              rw [nI_clamp (by omega)]
            refine lv_topi (fun x_6 ex_6 => ?_)
            obtain rfl : x_6 = nI (pK P i) := by
              rw [ex_6]
              exact h1.k (by omega)
            refine lv_iload_n hx hb dX5_window_55 rfl (lv_at hl 1 rfl) ?_
            refine lv_iload_n hx hb dX5_window_56 rfl (lv_at hl 2 rfl) ?_
            refine lv_iload hx hb dX5_window_57 (lv_at hl 3 rfl) ?_
            refine lv_iload hx hb dX5_window_59 (lv_at hl 4 rfl) ?_
            refine ckSRi (As := [.int (nI (pK P i)), .int x0, .int y0, .int x1, .int y1]) (rest := []) [] (c_X5_isWithin l X (pK P i) x0 y0 x1 y1 (by first | exact h1.kb (by omega) | exact h2.kb (by omega))) ⟨hx, hb, hml, hown, hts⟩ (va_cwS 5 hts gX5_window_X5_isWithin rfl rfl rfl (by decide +kernel) ⟨Nat.le_of_ble_eq_true rfl, Nat.le_of_ble_eq_true rfl⟩) hK hN hP hD (by decide) rfl rfl hl.1 rfl (Nat.le_of_ble_eq_true rfl) dX5_window_61 ⟨Nat.zero_le _, Nat.zero_le _⟩ (fun r_7 hc_61 => ?_)
            rcases hc_61 with ⟨hc_61, rfl⟩ | ⟨hc_61, rfl⟩
            · skip
              refine lv_if_eq (tgt := 93) hx hb dX5_window_64 (by decide) (fun c_64 => ?_) (fun c_64 => ?_)
              · exact absurd c_64 (by decide)
              · skip
                refine lv_aload_n hx hb dX5_window_67 rfl (lv_at hl 0 rfl) ?_
                refine va_get (D := X.1) (ci := 5) (v := .ref rs) (C := RX5) (T := TX5) (N := 12) hx hb hts hin5 hown hK hP 0 rfl rfl 8 (by decide) lk61 (fun _ h9 => h9) rfl dX5_window_68 ?_
                refine lv_aload hx hb dX5_window_71 (lv_at hl 5 rfl) ?_
                refine va_get (D := X.1) (ci := 2) (v := .ref pk) (C := RX2) (T := TX2) (N := 4) hx hb hts hin2 hown hK hP 2 rfl rfl 0 (by decide) lk115 (fun _ h9 => h9) rfl dX5_window_73 ?_
                refine lv_iload hx hb dX5_window_76 (lv_at hl 7 rfl) ?_
                have hi_8 : vp_in (nI i) 512 := vp_in_nI (by omega) (by omega)
                refine va_iald hx hb hK hP 3 0 rfl rfl hi_8 dX5_window_78 ?_
                refine lv_topi (fun x_9 ex_9 => ?_)
                obtain rfl : x_9 = pkf i := by
                  rw [ex_9]
                  rw [nI_clamp (by omega)]
                refine lv_topi (fun x_10 ex_10 => ?_)
                obtain rfl : x_10 = nI (pK P i) := by
                  rw [ex_10]
                  exact h1.k (by omega)
                refine lv_aload hx hb dX5_window_79 (lv_at hl 5 rfl) ?_
                refine va_get (D := X.1) (ci := 2) (v := .ref pv) (C := RX2) (T := TX2) (N := 4) hx hb hts hin2 hown hK hP 2 rfl rfl 1 (by decide) lk123 (fun _ h9 => h9) rfl dX5_window_81 ?_
                refine lv_iload hx hb dX5_window_84 (lv_at hl 7 rfl) ?_
                have hi_11 : vp_in (nI i) 512 := vp_in_nI (by omega) (by omega)
                refine va_iald hx hb hK hP 4 0 rfl rfl hi_11 dX5_window_86 ?_
                refine lv_topi (fun x_12 ex_12 => ?_)
                obtain rfl : x_12 = pvf i := by
                  rw [ex_12]
                  rw [nI_clamp (by omega)]
                refine lv_topi (fun x_13 ex_13 => ?_)
                obtain rfl : x_13 = nI (pV P i) := by
                  rw [ex_13]
                  exact h1.v (by omega)
                refine ckVv (As := [.int (nI (pK P i)), .int (nI (pV P i))]) (rest := []) 0 [8, 9, 10] (c_X3_add l X rs rk_ rv rd (pK P i) (nI (pV P i)) rk1 rv1 (((P.take i).foldl (wSt x0 y0 x1 y1) ([], 0)).1) hr1 (by first | exact h1.kb (by omega) | exact h2.kb (by omega))) ⟨hx, hb, hml, hown, hts⟩ (cwV 2 hts gX5_window_X3_add rfl rfl rfl (by decide +kernel) ⟨Nat.le_of_ble_eq_true rfl, Nat.le_of_ble_eq_true rfl⟩) hK hN hP hD hS (by decide) rfl (ci := 3) rfl rfl (fun _ => rfl) rfl hl.1 rfl (Nat.le_of_ble_eq_true rfl) dX5_window_87 ⟨Nat.zero_le _, Nat.zero_le _⟩ (fun u_14 H locs hra hP hD hS => ?_)
                obtain ⟨rk2, rv2⟩ := u_14
                have hP : va_P X.1 vwCl [(a, .inr (5, [.int (nI bl), .int (nI bk), .int (nI sp), .ref d, .ref p, .ref t, .ref t2, .ref ch, .ref rs, .int (nI 1), .int f_ct, .int (nI cp)])), (d, .inr (1, [.ref h, .ref lk, .ref lv, .int (nI se)])), (p, .inr (2, [.ref pk, .ref pv, .int (nI P.length), .int (nI w)])), (pk, .inl (X.2.1, 512, .inl pkf)), (pv, .inl (X.2.1, 512, .inl pvf)), (h, .inr (2, [.ref hk, .ref hv, .int (nI Hm.length), .int (nI wh)])), (hk, .inl (X.2.1, 512, .inl hkf)), (hv, .inl (X.2.1, 512, .inl hvf)), (rs, .inr (3, [.ref rk_, .ref rv, .ref rd, .int (nI ((rsAdd (((P.take i).foldl (wSt x0 y0 x1 y1) ([], 0)).1) (pK P i) (nI (pV P i))).length))])), (rk_, .inl (X.2.1, 150, .inl rk2)), (rv, .inl (X.2.1, 150, .inl rv2))] H := hP
                have hD : va_D A_ [(a, .inr (5, [.int (nI bl), .int (nI bk), .int (nI sp), .ref d, .ref p, .ref t, .ref t2, .ref ch, .ref rs, .int (nI 1), .int f_ct, .int (nI cp)])), (d, .inr (1, [.ref h, .ref lk, .ref lv, .int (nI se)])), (p, .inr (2, [.ref pk, .ref pv, .int (nI P.length), .int (nI w)])), (pk, .inl (X.2.1, 512, .inl pkf)), (pv, .inl (X.2.1, 512, .inl pvf)), (h, .inr (2, [.ref hk, .ref hv, .int (nI Hm.length), .int (nI wh)])), (hk, .inl (X.2.1, 512, .inl hkf)), (hv, .inl (X.2.1, 512, .inl hvf)), (rs, .inr (3, [.ref rk_, .ref rv, .ref rd, .int (nI ((rsAdd (((P.take i).foldl (wSt x0 y0 x1 y1) ([], 0)).1) (pK P i) (nI (pV P i))).length))])), (rk_, .inl (X.2.1, 150, .inl rk2)), (rv, .inl (X.2.1, 150, .inl rv2))] := hD
                try dsimp only at hra
                refine lv_iinc (v := nI (((P.take i).foldl (wSt x0 y0 x1 y1) ([], 0)).2 + 1)) (lv' := [(7, .int (nI (((P.take i).foldl (wSt x0 y0 x1 y1) ([], 0)).2 + 1))), (0, .ref a), (2, .int x0), (3, .int y0), (4, .int x1), (5, .int y1), (6, .ref p), (8, .int (nI i))]) hx hb dX5_window_90 hl (k := 6) rfl (by rw [show Int32.ofInt 1 = nI 1 from by decide]; exact nI_add _ _) (by decide) rfl (fun ls hl => ?_)
                refine lv_iinc (v := nI (i + 1)) (lv' := [(8, .int (nI (i + 1))), (7, .int (nI (((P.take i).foldl (wSt x0 y0 x1 y1) ([], 0)).2 + 1))), (0, .ref a), (2, .int x0), (3, .int y0), (4, .int x1), (5, .int y1), (6, .ref p)]) hx hb dX5_window_93 hl (k := 7) rfl (by rw [show Int32.ofInt 1 = nI 1 from by decide]; exact nI_add _ _) (by decide) rfl (fun ls hl => ?_)
                refine lv_goto (tgt := 37) hx hb dX5_window_96 (by decide) ?_
                have hw9 := w_in (x0 := x0) (y0 := y0) (x1 := x1) (y1 := y1) (L := P) (i := i) (by omega) hc_61
                have hl : lv_has ls 9 [(8, .int (nI (i + 1))), (7, .int (nI (((P.take (i + 1)).foldl (wSt x0 y0 x1 y1) ([], 0)).2))), (0, .ref a), (2, .int x0), (3, .int y0), (4, .int x1), (5, .int y1), (6, .ref p)] := by
                  rw [hw9]
                  exact hl
                have hw8 : rsAdd ((P.take i).foldl (wSt x0 y0 x1 y1) ([], 0)).1 (pK P i) (nI (pV P i)) = ((P.take (i + 1)).foldl (wSt x0 y0 x1 y1) ([], 0)).1 := by rw [hw9]
                rw [hw8] at hP hD hra
                exact ih37 (i + 1) rk2 rv2 (by omega) (by exact hra) (by omega) _ _ hP hD hS ls (lv_sub hl [2, 3, 4, 5, 6, 7, 1, 0] rfl)
            · skip
              refine lv_if_eq (tgt := 93) hx hb dX5_window_64 (by decide) (fun c_64 => ?_) (fun c_64 => ?_)
              · skip
                refine lv_iinc (v := nI (i + 1)) (lv' := [(8, .int (nI (i + 1))), (0, .ref a), (2, .int x0), (3, .int y0), (4, .int x1), (5, .int y1), (6, .ref p), (7, .int (nI (((P.take i).foldl (wSt x0 y0 x1 y1) ([], 0)).2)))]) hx hb dX5_window_93 hl (k := 7) rfl (by rw [show Int32.ofInt 1 = nI 1 from by decide]; exact nI_add _ _) (by decide) rfl (fun ls hl => ?_)
                refine lv_goto (tgt := 37) hx hb dX5_window_96 (by decide) ?_
                have hw9 := w_out (x0 := x0) (y0 := y0) (x1 := x1) (y1 := y1) (L := P) (i := i) (by omega) hc_61
                have hl : lv_has ls 9 [(8, .int (nI (i + 1))), (0, .ref a), (2, .int x0), (3, .int y0), (4, .int x1), (5, .int y1), (6, .ref p), (7, .int (nI (((P.take (i + 1)).foldl (wSt x0 y0 x1 y1) ([], 0)).2)))] := by
                  rw [hw9]
                  exact hl
                rw [← hw9] at hP hD
                exact ih37 (i + 1) rk1 rv1 (by omega) (by rw [hw9]; exact hr1) (by omega) _ _ hP hD hS ls (lv_sub hl [1, 2, 3, 4, 5, 6, 7, 0] rfl)
              · exact absurd c_64 (by decide)
      exact loop_37 _ 0 rkf rvf (by omega) (by exact rs_nil) (Nat.lt_succ_self _) _ _ hP hD hS ls (lv_sub hl [3, 5, 6, 7, 8, 2, 1, 0] rfl)
    · skip
      rw [if_neg (by rw [hs]; decide), if_pos hs] at hc_12
      subst hc_12
      refine lv_astore (lv' := [(6, .ref h), (0, .ref a), (1, .int s_), (2, .int x0), (3, .int y0), (4, .int x1), (5, .int y1)]) hx hb dX5_window_15 hl (by decide) rfl (fun ls hl => ?_)
      refine lv_aload hx hb dX5_window_17 (lv_at hl 0 rfl) ?_
      refine lv_ifnonnull (tgt := 24) hx hb dX5_window_19 (by decide) ?_
      refine lv_aload_n hx hb dX5_window_24 rfl (lv_at hl 1 rfl) ?_
      refine va_get (D := X.1) (ci := 5) (v := .ref rs) (C := RX5) (T := TX5) (N := 12) hx hb hts hin5 hown hK hP 0 rfl rfl 8 (by decide) lk61 (fun _ h9 => h9) rfl dX5_window_25 ?_
      refine ckVv (As := []) (rest := []) 0 [8] (c_X3_clear l X rs rk_ rv rd (nI R.length)) ⟨hx, hb, hml, hown, hts⟩ (cwV 0 hts gX5_window_X3_clear rfl rfl rfl (by decide +kernel) ⟨Nat.le_of_ble_eq_true rfl, Nat.le_of_ble_eq_true rfl⟩) hK hN hP hD hS (by decide) rfl (ci := 3) rfl rfl (fun _ => rfl) rfl hl.1 rfl (Nat.le_of_ble_eq_true rfl) dX5_window_28 ⟨Nat.zero_le _, Nat.zero_le _⟩ (fun u_16 H locs hc_28 hP hD hS => ?_)
      have hP : va_P X.1 vwCl [(a, .inr (5, [.int (nI bl), .int (nI bk), .int (nI sp), .ref d, .ref p, .ref t, .ref t2, .ref ch, .ref rs, .int (nI 1), .int f_ct, .int (nI cp)])), (d, .inr (1, [.ref h, .ref lk, .ref lv, .int (nI se)])), (p, .inr (2, [.ref pk, .ref pv, .int (nI P.length), .int (nI w)])), (pk, .inl (X.2.1, 512, .inl pkf)), (pv, .inl (X.2.1, 512, .inl pvf)), (h, .inr (2, [.ref hk, .ref hv, .int (nI Hm.length), .int (nI wh)])), (hk, .inl (X.2.1, 512, .inl hkf)), (hv, .inl (X.2.1, 512, .inl hvf)), (rs, .inr (3, [.ref rk_, .ref rv, .ref rd, .int (nI 0)])), (rk_, .inl (X.2.1, 150, .inl rkf)), (rv, .inl (X.2.1, 150, .inl rvf))] H := hP
      have hD : va_D A_ [(a, .inr (5, [.int (nI bl), .int (nI bk), .int (nI sp), .ref d, .ref p, .ref t, .ref t2, .ref ch, .ref rs, .int (nI 1), .int f_ct, .int (nI cp)])), (d, .inr (1, [.ref h, .ref lk, .ref lv, .int (nI se)])), (p, .inr (2, [.ref pk, .ref pv, .int (nI P.length), .int (nI w)])), (pk, .inl (X.2.1, 512, .inl pkf)), (pv, .inl (X.2.1, 512, .inl pvf)), (h, .inr (2, [.ref hk, .ref hv, .int (nI Hm.length), .int (nI wh)])), (hk, .inl (X.2.1, 512, .inl hkf)), (hv, .inl (X.2.1, 512, .inl hvf)), (rs, .inr (3, [.ref rk_, .ref rv, .ref rd, .int (nI 0)])), (rk_, .inl (X.2.1, 150, .inl rkf)), (rv, .inl (X.2.1, 150, .inl rvf))] := hD
      refine lv_iconst (v := nI 0) hx hb dX5_window_31 (by decide) ?_
      refine lv_istore (lv' := [(7, .int (nI 0)), (6, .ref h), (0, .ref a), (1, .int s_), (2, .int x0), (3, .int y0), (4, .int x1), (5, .int y1)]) hx hb dX5_window_32 hl (by decide) rfl (fun ls hl => ?_)
      refine lv_iconst (v := nI 0) hx hb dX5_window_34 (by decide) ?_
      refine lv_istore (lv' := [(8, .int (nI 0)), (7, .int (nI 0)), (6, .ref h), (0, .ref a), (1, .int s_), (2, .int x0), (3, .int y0), (4, .int x1), (5, .int y1)]) hx hb dX5_window_35 hl (by decide) rfl (fun ls hl => ?_)
      have loop_37 : ∀ (fu : Nat) (i : Nat) (rk1 : Nat → Int32) (rv1 : Nat → Int32), (i ≤ Hm.length) → (rsOk rk1 rv1 ((Hm.take i).foldl (wSt x0 y0 x1 y1) ([], 0)).1) → Hm.length - i < fu → ∀ (H : Heap) (locs : List Loc), va_P X.1 vwCl [(a, .inr (5, [.int (nI bl), .int (nI bk), .int (nI sp), .ref d, .ref p, .ref t, .ref t2, .ref ch, .ref rs, .int (nI 1), .int f_ct, .int (nI cp)])), (d, .inr (1, [.ref h, .ref lk, .ref lv, .int (nI se)])), (p, .inr (2, [.ref pk, .ref pv, .int (nI P.length), .int (nI w)])), (pk, .inl (X.2.1, 512, .inl pkf)), (pv, .inl (X.2.1, 512, .inl pvf)), (h, .inr (2, [.ref hk, .ref hv, .int (nI Hm.length), .int (nI wh)])), (hk, .inl (X.2.1, 512, .inl hkf)), (hv, .inl (X.2.1, 512, .inl hvf)), (rs, .inr (3, [.ref rk_, .ref rv, .ref rd, .int (nI (((Hm.take i).foldl (wSt x0 y0 x1 y1) ([], 0)).1.length))])), (rk_, .inl (X.2.1, 150, .inl rk1)), (rv, .inl (X.2.1, 150, .inl rv1))] H → va_D A_ [(a, .inr (5, [.int (nI bl), .int (nI bk), .int (nI sp), .ref d, .ref p, .ref t, .ref t2, .ref ch, .ref rs, .int (nI 1), .int f_ct, .int (nI cp)])), (d, .inr (1, [.ref h, .ref lk, .ref lv, .int (nI se)])), (p, .inr (2, [.ref pk, .ref pv, .int (nI P.length), .int (nI w)])), (pk, .inl (X.2.1, 512, .inl pkf)), (pv, .inl (X.2.1, 512, .inl pvf)), (h, .inr (2, [.ref hk, .ref hv, .int (nI Hm.length), .int (nI wh)])), (hk, .inl (X.2.1, 512, .inl hkf)), (hv, .inl (X.2.1, 512, .inl hvf)), (rs, .inr (3, [.ref rk_, .ref rv, .ref rd, .int (nI (((Hm.take i).foldl (wSt x0 y0 x1 y1) ([], 0)).1.length))])), (rk_, .inl (X.2.1, 150, .inl rk1)), (rv, .inl (X.2.1, 150, .inl rv1))] → va_S A_ sz.heap H locs → ∀ (ls : Array Slot), lv_has ls 9 [(0, .ref a), (2, .int x0), (3, .int y0), (4, .int x1), (5, .int y1), (6, .ref h), (7, .int (nI (((Hm.take i).foldl (wSt x0 y0 x1 y1) ([], 0)).2))), (8, .int (nI i))] → W pz l ez (headSpec wsX5_window (rmk 2)).room sz mz ([.ref a, .int s_, .int x0, .int y0, .int x1, .int y1].toArray) below meth cz H locs 0 0 Q (F0 mz 37 ls []) := by
        intro fu
        induction fu with
        | zero => intro i rk1 rv1 hi hr1 hfu; exact absurd hfu (Nat.not_lt_zero _)
        | succ fu ih37 =>
          intro i rk1 rv1 hi hr1 hfu H locs hP hD hS ls hl
          refine lv_iload hx hb dX5_window_37 (lv_at hl 7 rfl) ?_
          refine lv_aload hx hb dX5_window_39 (lv_at hl 5 rfl) ?_
          refine va_get (D := X.1) (ci := 2) (v := .int (nI Hm.length)) (C := RX2) (T := TX2) (N := 4) hx hb hts hin2 hown hK hP 5 rfl rfl 2 (by decide) lk112 (fun _ h9 => h9) rfl dX5_window_41 ?_
          refine lv_icmp_ge (tgt := 99) hx hb dX5_window_44 (by decide) (fun c_44 => ?_) (fun c_44 => ?_)
          · replace c_44 : Hm.length ≤ i := (nI_leI (by omega) (by omega)).mp c_44
            refine lv_iload hx hb dX5_window_99 (lv_at hl 6 rfl) ?_
            refine wM hQ ?_
            exact rtI (rk1, rv1, ((Hm.take i).foldl (wSt x0 y0 x1 y1) ([], 0)).1) hx hb hr hlocks hP hS (⟨hr1, by show (nI ((Hm.take i).foldl (wSt x0 y0 x1 y1) ([], 0)).2, ((Hm.take i).foldl (wSt x0 y0 x1 y1) ([], 0)).1) = _; rw [sel_1 hs]; show _ = (nI (wAll x0 y0 x1 y1 Hm).2, (wAll x0 y0 x1 y1 Hm).1); rw [show i = Hm.length from by omega, wAll_full]⟩) dX5_window_101
          · replace c_44 : ¬ Hm.length ≤ i := fun h9 => c_44 ((nI_leI (by omega) (by omega)).mpr h9)
            refine lv_aload hx hb dX5_window_47 (lv_at hl 5 rfl) ?_
            refine va_get (D := X.1) (ci := 2) (v := .ref hk) (C := RX2) (T := TX2) (N := 4) hx hb hts hin2 hown hK hP 5 rfl rfl 0 (by decide) lk115 (fun _ h9 => h9) rfl dX5_window_49 ?_
            refine lv_iload hx hb dX5_window_52 (lv_at hl 7 rfl) ?_
            have hi_18 : vp_in (nI i) 512 := vp_in_nI (by omega) (by omega)
            refine va_iald hx hb hK hP 6 0 rfl rfl hi_18 dX5_window_54 ?_
            refine lv_topi (fun x_19 ex_19 => ?_)
            obtain rfl : x_19 = hkf i := by
              rw [ex_19]
              rw [nI_clamp (by omega)]
            refine lv_topi (fun x_20 ex_20 => ?_)
            obtain rfl : x_20 = nI (pK Hm i) := by
              rw [ex_20]
              exact h2.k (by omega)
            refine lv_iload_n hx hb dX5_window_55 rfl (lv_at hl 1 rfl) ?_
            refine lv_iload_n hx hb dX5_window_56 rfl (lv_at hl 2 rfl) ?_
            refine lv_iload hx hb dX5_window_57 (lv_at hl 3 rfl) ?_
            refine lv_iload hx hb dX5_window_59 (lv_at hl 4 rfl) ?_
            refine ckSRi (As := [.int (nI (pK Hm i)), .int x0, .int y0, .int x1, .int y1]) (rest := []) [] (c_X5_isWithin l X (pK Hm i) x0 y0 x1 y1 (by first | exact h1.kb (by omega) | exact h2.kb (by omega))) ⟨hx, hb, hml, hown, hts⟩ (va_cwS 5 hts gX5_window_X5_isWithin rfl rfl rfl (by decide +kernel) ⟨Nat.le_of_ble_eq_true rfl, Nat.le_of_ble_eq_true rfl⟩) hK hN hP hD (by decide) rfl rfl hl.1 rfl (Nat.le_of_ble_eq_true rfl) dX5_window_61 ⟨Nat.zero_le _, Nat.zero_le _⟩ (fun r_21 hc_61 => ?_)
            rcases hc_61 with ⟨hc_61, rfl⟩ | ⟨hc_61, rfl⟩
            · skip
              refine lv_if_eq (tgt := 93) hx hb dX5_window_64 (by decide) (fun c_64 => ?_) (fun c_64 => ?_)
              · exact absurd c_64 (by decide)
              · skip
                refine lv_aload_n hx hb dX5_window_67 rfl (lv_at hl 0 rfl) ?_
                refine va_get (D := X.1) (ci := 5) (v := .ref rs) (C := RX5) (T := TX5) (N := 12) hx hb hts hin5 hown hK hP 0 rfl rfl 8 (by decide) lk61 (fun _ h9 => h9) rfl dX5_window_68 ?_
                refine lv_aload hx hb dX5_window_71 (lv_at hl 5 rfl) ?_
                refine va_get (D := X.1) (ci := 2) (v := .ref hk) (C := RX2) (T := TX2) (N := 4) hx hb hts hin2 hown hK hP 5 rfl rfl 0 (by decide) lk115 (fun _ h9 => h9) rfl dX5_window_73 ?_
                refine lv_iload hx hb dX5_window_76 (lv_at hl 7 rfl) ?_
                have hi_22 : vp_in (nI i) 512 := vp_in_nI (by omega) (by omega)
                refine va_iald hx hb hK hP 6 0 rfl rfl hi_22 dX5_window_78 ?_
                refine lv_topi (fun x_23 ex_23 => ?_)
                obtain rfl : x_23 = hkf i := by
                  rw [ex_23]
                  rw [nI_clamp (by omega)]
                refine lv_topi (fun x_24 ex_24 => ?_)
                obtain rfl : x_24 = nI (pK Hm i) := by
                  rw [ex_24]
                  exact h2.k (by omega)
                refine lv_aload hx hb dX5_window_79 (lv_at hl 5 rfl) ?_
                refine va_get (D := X.1) (ci := 2) (v := .ref hv) (C := RX2) (T := TX2) (N := 4) hx hb hts hin2 hown hK hP 5 rfl rfl 1 (by decide) lk123 (fun _ h9 => h9) rfl dX5_window_81 ?_
                refine lv_iload hx hb dX5_window_84 (lv_at hl 7 rfl) ?_
                have hi_25 : vp_in (nI i) 512 := vp_in_nI (by omega) (by omega)
                refine va_iald hx hb hK hP 7 0 rfl rfl hi_25 dX5_window_86 ?_
                refine lv_topi (fun x_26 ex_26 => ?_)
                obtain rfl : x_26 = hvf i := by
                  rw [ex_26]
                  rw [nI_clamp (by omega)]
                refine lv_topi (fun x_27 ex_27 => ?_)
                obtain rfl : x_27 = nI (pV Hm i) := by
                  rw [ex_27]
                  exact h2.v (by omega)
                refine ckVv (As := [.int (nI (pK Hm i)), .int (nI (pV Hm i))]) (rest := []) 0 [8, 9, 10] (c_X3_add l X rs rk_ rv rd (pK Hm i) (nI (pV Hm i)) rk1 rv1 (((Hm.take i).foldl (wSt x0 y0 x1 y1) ([], 0)).1) hr1 (by first | exact h1.kb (by omega) | exact h2.kb (by omega))) ⟨hx, hb, hml, hown, hts⟩ (cwV 2 hts gX5_window_X3_add rfl rfl rfl (by decide +kernel) ⟨Nat.le_of_ble_eq_true rfl, Nat.le_of_ble_eq_true rfl⟩) hK hN hP hD hS (by decide) rfl (ci := 3) rfl rfl (fun _ => rfl) rfl hl.1 rfl (Nat.le_of_ble_eq_true rfl) dX5_window_87 ⟨Nat.zero_le _, Nat.zero_le _⟩ (fun u_28 H locs hra hP hD hS => ?_)
                obtain ⟨rk2, rv2⟩ := u_28
                have hP : va_P X.1 vwCl [(a, .inr (5, [.int (nI bl), .int (nI bk), .int (nI sp), .ref d, .ref p, .ref t, .ref t2, .ref ch, .ref rs, .int (nI 1), .int f_ct, .int (nI cp)])), (d, .inr (1, [.ref h, .ref lk, .ref lv, .int (nI se)])), (p, .inr (2, [.ref pk, .ref pv, .int (nI P.length), .int (nI w)])), (pk, .inl (X.2.1, 512, .inl pkf)), (pv, .inl (X.2.1, 512, .inl pvf)), (h, .inr (2, [.ref hk, .ref hv, .int (nI Hm.length), .int (nI wh)])), (hk, .inl (X.2.1, 512, .inl hkf)), (hv, .inl (X.2.1, 512, .inl hvf)), (rs, .inr (3, [.ref rk_, .ref rv, .ref rd, .int (nI ((rsAdd (((Hm.take i).foldl (wSt x0 y0 x1 y1) ([], 0)).1) (pK Hm i) (nI (pV Hm i))).length))])), (rk_, .inl (X.2.1, 150, .inl rk2)), (rv, .inl (X.2.1, 150, .inl rv2))] H := hP
                have hD : va_D A_ [(a, .inr (5, [.int (nI bl), .int (nI bk), .int (nI sp), .ref d, .ref p, .ref t, .ref t2, .ref ch, .ref rs, .int (nI 1), .int f_ct, .int (nI cp)])), (d, .inr (1, [.ref h, .ref lk, .ref lv, .int (nI se)])), (p, .inr (2, [.ref pk, .ref pv, .int (nI P.length), .int (nI w)])), (pk, .inl (X.2.1, 512, .inl pkf)), (pv, .inl (X.2.1, 512, .inl pvf)), (h, .inr (2, [.ref hk, .ref hv, .int (nI Hm.length), .int (nI wh)])), (hk, .inl (X.2.1, 512, .inl hkf)), (hv, .inl (X.2.1, 512, .inl hvf)), (rs, .inr (3, [.ref rk_, .ref rv, .ref rd, .int (nI ((rsAdd (((Hm.take i).foldl (wSt x0 y0 x1 y1) ([], 0)).1) (pK Hm i) (nI (pV Hm i))).length))])), (rk_, .inl (X.2.1, 150, .inl rk2)), (rv, .inl (X.2.1, 150, .inl rv2))] := hD
                try dsimp only at hra
                refine lv_iinc (v := nI (((Hm.take i).foldl (wSt x0 y0 x1 y1) ([], 0)).2 + 1)) (lv' := [(7, .int (nI (((Hm.take i).foldl (wSt x0 y0 x1 y1) ([], 0)).2 + 1))), (0, .ref a), (2, .int x0), (3, .int y0), (4, .int x1), (5, .int y1), (6, .ref h), (8, .int (nI i))]) hx hb dX5_window_90 hl (k := 6) rfl (by rw [show Int32.ofInt 1 = nI 1 from by decide]; exact nI_add _ _) (by decide) rfl (fun ls hl => ?_)
                refine lv_iinc (v := nI (i + 1)) (lv' := [(8, .int (nI (i + 1))), (7, .int (nI (((Hm.take i).foldl (wSt x0 y0 x1 y1) ([], 0)).2 + 1))), (0, .ref a), (2, .int x0), (3, .int y0), (4, .int x1), (5, .int y1), (6, .ref h)]) hx hb dX5_window_93 hl (k := 7) rfl (by rw [show Int32.ofInt 1 = nI 1 from by decide]; exact nI_add _ _) (by decide) rfl (fun ls hl => ?_)
                refine lv_goto (tgt := 37) hx hb dX5_window_96 (by decide) ?_
                have hw9 := w_in (x0 := x0) (y0 := y0) (x1 := x1) (y1 := y1) (L := Hm) (i := i) (by omega) hc_61
                have hl : lv_has ls 9 [(8, .int (nI (i + 1))), (7, .int (nI (((Hm.take (i + 1)).foldl (wSt x0 y0 x1 y1) ([], 0)).2))), (0, .ref a), (2, .int x0), (3, .int y0), (4, .int x1), (5, .int y1), (6, .ref h)] := by
                  rw [hw9]
                  exact hl
                have hw8 : rsAdd ((Hm.take i).foldl (wSt x0 y0 x1 y1) ([], 0)).1 (pK Hm i) (nI (pV Hm i)) = ((Hm.take (i + 1)).foldl (wSt x0 y0 x1 y1) ([], 0)).1 := by rw [hw9]
                rw [hw8] at hP hD hra
                exact ih37 (i + 1) rk2 rv2 (by omega) (by exact hra) (by omega) _ _ hP hD hS ls (lv_sub hl [2, 3, 4, 5, 6, 7, 1, 0] rfl)
            · skip
              refine lv_if_eq (tgt := 93) hx hb dX5_window_64 (by decide) (fun c_64 => ?_) (fun c_64 => ?_)
              · skip
                refine lv_iinc (v := nI (i + 1)) (lv' := [(8, .int (nI (i + 1))), (0, .ref a), (2, .int x0), (3, .int y0), (4, .int x1), (5, .int y1), (6, .ref h), (7, .int (nI (((Hm.take i).foldl (wSt x0 y0 x1 y1) ([], 0)).2)))]) hx hb dX5_window_93 hl (k := 7) rfl (by rw [show Int32.ofInt 1 = nI 1 from by decide]; exact nI_add _ _) (by decide) rfl (fun ls hl => ?_)
                refine lv_goto (tgt := 37) hx hb dX5_window_96 (by decide) ?_
                have hw9 := w_out (x0 := x0) (y0 := y0) (x1 := x1) (y1 := y1) (L := Hm) (i := i) (by omega) hc_61
                have hl : lv_has ls 9 [(8, .int (nI (i + 1))), (0, .ref a), (2, .int x0), (3, .int y0), (4, .int x1), (5, .int y1), (6, .ref h), (7, .int (nI (((Hm.take (i + 1)).foldl (wSt x0 y0 x1 y1) ([], 0)).2)))] := by
                  rw [hw9]
                  exact hl
                rw [← hw9] at hP hD
                exact ih37 (i + 1) rk1 rv1 (by omega) (by rw [hw9]; exact hr1) (by omega) _ _ hP hD hS ls (lv_sub hl [1, 2, 3, 4, 5, 6, 7, 0] rfl)
              · exact absurd c_64 (by decide)
      exact loop_37 _ 0 rkf rvf (by omega) (by exact rs_nil) (Nat.lt_succ_self _) _ _ hP hD hS ls (lv_sub hl [3, 5, 6, 7, 8, 2, 1, 0] rfl)
    · skip
      rw [if_neg hs.1, if_neg hs.2] at hc_12
      subst hc_12
      refine lv_astoreN (lv' := [(6, .null), (0, .ref a), (1, .int s_), (2, .int x0), (3, .int y0), (4, .int x1), (5, .int y1)]) hx hb dX5_window_15 hl (by decide) rfl (fun ls hl => ?_)
      refine lv_aloadN hx hb dX5_window_17 (lv_at hl 0 rfl) ?_
      refine lv_ifnonnullN hx hb dX5_window_19 ?_
      refine lv_iconst (v := (-1)) hx hb dX5_window_22 (by decide) ?_
      refine wM hQ ?_
      exact rtI (rkf, rvf, R) hx hb hr hlocks hP hS (⟨h3, by show (-1, R) = _; rw [sel_n hs.1 hs.2]; rfl⟩) dX5_window_23
  · exact absurd c_4 (by decide)
set_option maxHeartbeats 4000000 in
set_option maxRecDepth 100000 in
theorem c_X5_nearest (l : Launch) (X : kX) (a d p t t2 ch rs sp bl bk cp : Nat) (f_ct : Int32) (h lk lv se pk pv w hk hv wh : Nat) (rk_ rv rd : Nat) (s_ x y kq : Int32) (pkf pvf hkf hvf rkf rvf : Nat → Int32) (rdf : Nat → Int64) (P Hm : PL) (R : RSL) (h1 : ptOk pkf pvf P) (h2 : ptOk hkf hvf Hm) (h3 : rsOk rkf rvf R) : CWi l X yX5_nearest wsX5_nearest 2 [.ref a, .int s_, .int x, .int y, .int kq] [(a, .inr (5, [.int (nI bl), .int (nI bk), .int (nI sp), .ref d, .ref p, .ref t, .ref t2, .ref ch, .ref rs, .int (nI 1), .int f_ct, .int (nI cp)])), (d, .inr (1, [.ref h, .ref lk, .ref lv, .int (nI se)])), (p, .inr (2, [.ref pk, .ref pv, .int (nI P.length), .int (nI w)])), (pk, .inl (X.2.1, 512, .inl pkf)), (pv, .inl (X.2.1, 512, .inl pvf)), (h, .inr (2, [.ref hk, .ref hv, .int (nI Hm.length), .int (nI wh)])), (hk, .inl (X.2.1, 512, .inl hkf)), (hv, .inl (X.2.1, 512, .inl hvf)), (rs, .inr (3, [.ref rk_, .ref rv, .ref rd, .int (nI R.length)])), (rk_, .inl (X.2.1, 150, .inl rkf)), (rv, .inl (X.2.1, 150, .inl rvf)), (rd, .inl (X.2.2, 150, .inr (.inl rdf)))] (S := (Nat → Int32) × (Nat → Int32) × (Nat → Int64) × RSL) (fun r u => rsOk u.1 u.2.1 u.2.2.2 ∧ (r, u.2.2.2) = nearF (sel s_ P Hm) R x y kq) (fun ⟨rk2, rv2, rd2, R2⟩ => [(a, .inr (5, [.int (nI bl), .int (nI bk), .int (nI sp), .ref d, .ref p, .ref t, .ref t2, .ref ch, .ref rs, .int (nI 1), .int f_ct, .int (nI cp)])), (d, .inr (1, [.ref h, .ref lk, .ref lv, .int (nI se)])), (p, .inr (2, [.ref pk, .ref pv, .int (nI P.length), .int (nI w)])), (pk, .inl (X.2.1, 512, .inl pkf)), (pv, .inl (X.2.1, 512, .inl pvf)), (h, .inr (2, [.ref hk, .ref hv, .int (nI Hm.length), .int (nI wh)])), (hk, .inl (X.2.1, 512, .inl hkf)), (hv, .inl (X.2.1, 512, .inl hvf)), (rs, .inr (3, [.ref rk_, .ref rv, .ref rd, .int (nI R2.length)])), (rk_, .inl (X.2.1, 150, .inl rk2)), (rv, .inl (X.2.1, 150, .inl rv2)), (rd, .inl (X.2.2, 150, .inr (.inl rd2)))]) := by
  refine Met.ofW (cc := cX5_nearest) (maxL := 8) (ret := some (.int)) (by decide) rfl ?_
  intro pz ez sz mz args below meth cz s₁ Bz hml hv
  obtain ⟨rfl, hP, hK, hD0, hN⟩ := hv
  have hx := Bz.exec
  have hb := Bz.bytes
  have hr := Bz.returns
  have hts := atoms_spec (ws := wsX5_nearest) Bz.pre
  have hown : sz.vm.findClass RX5 = some mz.cls := findClass_of_methodNamed Bz.named
  have hlocks := Bz.notSynchronized
  have hD := inW.self hD0
  have hS : va_S (inW [(a, .inr (5, [.int (nI bl), .int (nI bk), .int (nI sp), .ref d, .ref p, .ref t, .ref t2, .ref ch, .ref rs, .int (nI 1), .int f_ct, .int (nI cp)])), (d, .inr (1, [.ref h, .ref lk, .ref lv, .int (nI se)])), (p, .inr (2, [.ref pk, .ref pv, .int (nI P.length), .int (nI w)])), (pk, .inl (X.2.1, 512, .inl pkf)), (pv, .inl (X.2.1, 512, .inl pvf)), (h, .inr (2, [.ref hk, .ref hv, .int (nI Hm.length), .int (nI wh)])), (hk, .inl (X.2.1, 512, .inl hkf)), (hv, .inl (X.2.1, 512, .inl hvf)), (rs, .inr (3, [.ref rk_, .ref rv, .ref rd, .int (nI R.length)])), (rk_, .inl (X.2.1, 150, .inl rkf)), (rv, .inl (X.2.1, 150, .inl rvf)), (rd, .inl (X.2.2, 150, .inr (.inl rdf)))]) sz.heap sz.heap [] := va_S.rf
  have hl := lv_entry ([.ref a, .int s_, .int x, .int y, .int kq]) (n := 8) (Nat.le_of_ble_eq_true rfl)
  rw [lg_entry_eq]
  generalize (lg_sl ([.ref a, .int s_, .int x, .int y, .int kq]) ++ List.replicate (8 - (lg_sl ([.ref a, .int s_, .int x, .int y, .int kq])).length) Slot.unset).toArray = ls at hl ⊢
  have hl : lv_has ls 8 [(0, .ref a), (1, .int s_), (2, .int x), (3, .int y), (4, .int kq)] := hl
  have lk61 := hts (.fieldLink RX5 61 "PointStore" "results" "LPointStore$Results;") (by decide +kernel)
  have lk65 := hts (.fieldLink RX5 65 "PointStore" "powered" "Z") (by decide +kernel)
  have lk112 := hts (.fieldLink RX5 112 "PointStore$Points" "total" "I") (by decide +kernel)
  have lk115 := hts (.fieldLink RX5 115 "PointStore$Points" "keys" "[I") (by decide +kernel)
  have lk123 := hts (.fieldLink RX5 123 "PointStore$Points" "values" "[I") (by decide +kernel)
  have lk139 := hts (.fieldLink RX5 139 "PointStore$Results" "total" "I") (by decide +kernel)
  have hin2 : ∀ w ∈ u_ws RX2 TX2 4, w ∈ wsX5_nearest := by decide +kernel
  have hin3 : ∀ w ∈ u_ws RX3 TX3 4, w ∈ wsX5_nearest := by decide +kernel
  have hin5 : ∀ w ∈ u_ws RX5 TX5 12, w ∈ wsX5_nearest := by decide +kernel
  refine wQ (fun Q hQ => ?_)
  generalize hAe : inW [(a, .inr (5, [.int (nI bl), .int (nI bk), .int (nI sp), .ref d, .ref p, .ref t, .ref t2, .ref ch, .ref rs, .int (nI 1), .int f_ct, .int (nI cp)])), (d, .inr (1, [.ref h, .ref lk, .ref lv, .int (nI se)])), (p, .inr (2, [.ref pk, .ref pv, .int (nI P.length), .int (nI w)])), (pk, .inl (X.2.1, 512, .inl pkf)), (pv, .inl (X.2.1, 512, .inl pvf)), (h, .inr (2, [.ref hk, .ref hv, .int (nI Hm.length), .int (nI wh)])), (hk, .inl (X.2.1, 512, .inl hkf)), (hv, .inl (X.2.1, 512, .inl hvf)), (rs, .inr (3, [.ref rk_, .ref rv, .ref rd, .int (nI R.length)])), (rk_, .inl (X.2.1, 150, .inl rkf)), (rv, .inl (X.2.1, 150, .inl rvf)), (rd, .inl (X.2.2, 150, .inr (.inl rdf)))] = A_ at hD hS hQ
  have hP1 := h1.1
  have hP2 := h2.1
  have hR := h3.1
  refine lv_aload_n hx hb dX5_nearest_0 rfl (lv_at hl 0 rfl) ?_
  refine va_get (D := X.1) (ci := 5) (v := .int (nI 1)) (C := RX5) (T := TX5) (N := 12) hx hb hts hin5 hown hK hP 0 rfl rfl 9 (by decide) lk65 (fun _ h9 => h9) rfl dX5_nearest_1 ?_
  refine lv_if_ne (tgt := 10) hx hb dX5_nearest_4 (by decide) (fun c_4 => ?_) (fun c_4 => ?_)
  · skip
    refine lv_aload_n hx hb dX5_nearest_10 rfl (lv_at hl 0 rfl) ?_
    refine lv_iload_n hx hb dX5_nearest_11 rfl (lv_at hl 1 rfl) ?_
    refine ckVRq (As := [.int s_]) (rest := []) 0 [0, 1] (c_X5_pointsOf l X a d p t t2 ch rs sp (nI bl) (nI bk) (nI 1) f_ct (nI cp) h lk lv se s_) ⟨hx, hb, hml, hown, hts⟩ (cwV 1 hts gX5_nearest_X5_pointsOf rfl rfl rfl (by decide +kernel) ⟨Nat.le_of_ble_eq_true rfl, Nat.le_of_ble_eq_true rfl⟩) hK hN hP hD (by decide) rfl (ci := 5) rfl rfl rfl hl.1 rfl (Nat.le_of_ble_eq_true rfl) dX5_nearest_12 ⟨Nat.zero_le _, Nat.zero_le _⟩ (fun r_1 hc_12 => ?_)
    rcases sel3 s_ with hs | hs | hs
    · skip
      rw [if_pos hs] at hc_12
      subst hc_12
      refine lv_astore (lv' := [(5, .ref p), (0, .ref a), (1, .int s_), (2, .int x), (3, .int y), (4, .int kq)]) hx hb dX5_nearest_15 hl (by decide) rfl (fun ls hl => ?_)
      refine lv_aload hx hb dX5_nearest_17 (lv_at hl 0 rfl) ?_
      refine lv_ifnull hx hb dX5_nearest_19 ?_
      refine lv_iload_n hx hb dX5_nearest_22 rfl (lv_at hl 3 rfl) ?_
      refine ckSRi (As := [.int x]) (rest := []) [] (c_X5_isPlace l X x) ⟨hx, hb, hml, hown, hts⟩ (va_cwS 1 hts gX5_nearest_X5_isPlace rfl rfl rfl (by decide +kernel) ⟨Nat.le_of_ble_eq_true rfl, Nat.le_of_ble_eq_true rfl⟩) hK hN hP hD (by decide) rfl rfl hl.1 rfl (Nat.le_of_ble_eq_true rfl) dX5_nearest_23 ⟨Nat.zero_le _, Nat.zero_le _⟩ (fun r_2 hc_23 => ?_)
      rcases hc_23 with ⟨hc_23, rfl⟩ | ⟨hc_23, rfl⟩
      · skip
        refine lv_if_eq (tgt := 50) hx hb dX5_nearest_26 (by decide) (fun c_26 => ?_) (fun c_26 => ?_)
        · exact absurd c_26 (by decide)
        · skip
          refine lv_iload_n hx hb dX5_nearest_29 rfl (lv_at hl 4 rfl) ?_
          refine ckSRi (As := [.int y]) (rest := []) [] (c_X5_isPlace l X y) ⟨hx, hb, hml, hown, hts⟩ (va_cwS 1 hts gX5_nearest_X5_isPlace rfl rfl rfl (by decide +kernel) ⟨Nat.le_of_ble_eq_true rfl, Nat.le_of_ble_eq_true rfl⟩) hK hN hP hD (by decide) rfl rfl hl.1 rfl (Nat.le_of_ble_eq_true rfl) dX5_nearest_30 ⟨Nat.zero_le _, Nat.zero_le _⟩ (fun r_3 hc_30 => ?_)
          rcases hc_30 with ⟨hc_30, rfl⟩ | ⟨hc_30, rfl⟩
          · skip
            refine lv_if_eq (tgt := 50) hx hb dX5_nearest_33 (by decide) (fun c_33 => ?_) (fun c_33 => ?_)
            · exact absurd c_33 (by decide)
            · skip
              refine lv_iload hx hb dX5_nearest_36 (lv_at hl 5 rfl) ?_
              refine lv_iconst (v := nI 1) hx hb dX5_nearest_38 (by decide) ?_
              refine lv_icmp_lt (tgt := 50) hx hb dX5_nearest_39 (by decide) (fun c_39 => ?_) (fun c_39 => ?_)
              · skip
                refine lv_iconst (v := (-1)) hx hb dX5_nearest_50 (by decide) ?_
                refine wM hQ ?_
                exact rtI (rkf, rvf, rdf, R) hx hb hr hlocks hP hS (⟨h3, by show (-1, R) = _; rw [sel_0 hs]; exact (cif_neg (fun z => by first | exact hc_23 z.1 | exact hc_30 z.2.1 | exact z.2.2.1 c_39 | exact c_47 (Int32.not_lt.mp z.2.2.2))).symm⟩) dX5_nearest_51
              · skip
                refine lv_iload hx hb dX5_nearest_42 (lv_at hl 5 rfl) ?_
                refine lv_sipush (v := nI 150) hx hb dX5_nearest_44 (by decide) ?_
                refine lv_icmp_le (tgt := 52) hx hb dX5_nearest_47 (by decide) (fun c_47 => ?_) (fun c_47 => ?_)
                · skip
                  obtain ⟨kk, hk1, hk2, hkk⟩ := ct_le c_39 (le_nlt c_47)
                  refine lv_aload_n hx hb dX5_nearest_52 rfl (lv_at hl 1 rfl) ?_
                  refine va_get (D := X.1) (ci := 5) (v := .ref rs) (C := RX5) (T := TX5) (N := 12) hx hb hts hin5 hown hK hP 0 rfl rfl 8 (by decide) lk61 (fun _ h9 => h9) rfl dX5_nearest_53 ?_
                  refine ckVv (As := []) (rest := []) 0 [8] (c_X3_clear l X rs rk_ rv rd (nI R.length)) ⟨hx, hb, hml, hown, hts⟩ (cwV 0 hts gX5_nearest_X3_clear rfl rfl rfl (by decide +kernel) ⟨Nat.le_of_ble_eq_true rfl, Nat.le_of_ble_eq_true rfl⟩) hK hN hP hD hS (by decide) rfl (ci := 3) rfl rfl (fun _ => rfl) rfl hl.1 rfl (Nat.le_of_ble_eq_true rfl) dX5_nearest_56 ⟨Nat.zero_le _, Nat.zero_le _⟩ (fun u_4 H locs hc_56 hP hD hS => ?_)
                  have hP : va_P X.1 vwCl [(a, .inr (5, [.int (nI bl), .int (nI bk), .int (nI sp), .ref d, .ref p, .ref t, .ref t2, .ref ch, .ref rs, .int (nI 1), .int f_ct, .int (nI cp)])), (d, .inr (1, [.ref h, .ref lk, .ref lv, .int (nI se)])), (p, .inr (2, [.ref pk, .ref pv, .int (nI P.length), .int (nI w)])), (pk, .inl (X.2.1, 512, .inl pkf)), (pv, .inl (X.2.1, 512, .inl pvf)), (h, .inr (2, [.ref hk, .ref hv, .int (nI Hm.length), .int (nI wh)])), (hk, .inl (X.2.1, 512, .inl hkf)), (hv, .inl (X.2.1, 512, .inl hvf)), (rs, .inr (3, [.ref rk_, .ref rv, .ref rd, .int (nI 0)])), (rk_, .inl (X.2.1, 150, .inl rkf)), (rv, .inl (X.2.1, 150, .inl rvf)), (rd, .inl (X.2.2, 150, .inr (.inl rdf)))] H := hP
                  have hD : va_D A_ [(a, .inr (5, [.int (nI bl), .int (nI bk), .int (nI sp), .ref d, .ref p, .ref t, .ref t2, .ref ch, .ref rs, .int (nI 1), .int f_ct, .int (nI cp)])), (d, .inr (1, [.ref h, .ref lk, .ref lv, .int (nI se)])), (p, .inr (2, [.ref pk, .ref pv, .int (nI P.length), .int (nI w)])), (pk, .inl (X.2.1, 512, .inl pkf)), (pv, .inl (X.2.1, 512, .inl pvf)), (h, .inr (2, [.ref hk, .ref hv, .int (nI Hm.length), .int (nI wh)])), (hk, .inl (X.2.1, 512, .inl hkf)), (hv, .inl (X.2.1, 512, .inl hvf)), (rs, .inr (3, [.ref rk_, .ref rv, .ref rd, .int (nI 0)])), (rk_, .inl (X.2.1, 150, .inl rkf)), (rv, .inl (X.2.1, 150, .inl rvf)), (rd, .inl (X.2.2, 150, .inr (.inl rdf)))] := hD
                  refine lv_iconst (v := nI 0) hx hb dX5_nearest_59 (by decide) ?_
                  refine lv_istore (lv' := [(6, .int (nI 0)), (5, .ref p), (0, .ref a), (1, .int s_), (2, .int x), (3, .int y), (4, .int kq)]) hx hb dX5_nearest_60 hl (by decide) rfl (fun ls hl => ?_)
                  have loop_62 : ∀ (fu : Nat) (i : Nat) (rk1 : Nat → Int32) (rv1 : Nat → Int32) (rd1 : Nat → Int64), (i ≤ P.length) → (nrOk rk1 rv1 rd1 ((P.take i).foldl (nSt x y kk) [])) → P.length - i < fu → ∀ (H : Heap) (locs : List Loc), va_P X.1 vwCl [(a, .inr (5, [.int (nI bl), .int (nI bk), .int (nI sp), .ref d, .ref p, .ref t, .ref t2, .ref ch, .ref rs, .int (nI 1), .int f_ct, .int (nI cp)])), (d, .inr (1, [.ref h, .ref lk, .ref lv, .int (nI se)])), (p, .inr (2, [.ref pk, .ref pv, .int (nI P.length), .int (nI w)])), (pk, .inl (X.2.1, 512, .inl pkf)), (pv, .inl (X.2.1, 512, .inl pvf)), (h, .inr (2, [.ref hk, .ref hv, .int (nI Hm.length), .int (nI wh)])), (hk, .inl (X.2.1, 512, .inl hkf)), (hv, .inl (X.2.1, 512, .inl hvf)), (rs, .inr (3, [.ref rk_, .ref rv, .ref rd, .int (nI (((P.take i).foldl (nSt x y kk) []).length))])), (rk_, .inl (X.2.1, 150, .inl rk1)), (rv, .inl (X.2.1, 150, .inl rv1)), (rd, .inl (X.2.2, 150, .inr (.inl rd1)))] H → va_D A_ [(a, .inr (5, [.int (nI bl), .int (nI bk), .int (nI sp), .ref d, .ref p, .ref t, .ref t2, .ref ch, .ref rs, .int (nI 1), .int f_ct, .int (nI cp)])), (d, .inr (1, [.ref h, .ref lk, .ref lv, .int (nI se)])), (p, .inr (2, [.ref pk, .ref pv, .int (nI P.length), .int (nI w)])), (pk, .inl (X.2.1, 512, .inl pkf)), (pv, .inl (X.2.1, 512, .inl pvf)), (h, .inr (2, [.ref hk, .ref hv, .int (nI Hm.length), .int (nI wh)])), (hk, .inl (X.2.1, 512, .inl hkf)), (hv, .inl (X.2.1, 512, .inl hvf)), (rs, .inr (3, [.ref rk_, .ref rv, .ref rd, .int (nI (((P.take i).foldl (nSt x y kk) []).length))])), (rk_, .inl (X.2.1, 150, .inl rk1)), (rv, .inl (X.2.1, 150, .inl rv1)), (rd, .inl (X.2.2, 150, .inr (.inl rd1)))] → va_S A_ sz.heap H locs → ∀ (ls : Array Slot), lv_has ls 8 [(0, .ref a), (2, .int x), (3, .int y), (4, .int kq), (5, .ref p), (6, .int (nI i))] → W pz l ez (headSpec wsX5_nearest (rmk 2)).room sz mz ([.ref a, .int s_, .int x, .int y, .int kq].toArray) below meth cz H locs 0 0 Q (F0 mz 62 ls []) := by
                    intro fu
                    induction fu with
                    | zero => intro i rk1 rv1 rd1 hi hr1 hfu; exact absurd hfu (Nat.not_lt_zero _)
                    | succ fu ih62 =>
                      intro i rk1 rv1 rd1 hi hr1 hfu H locs hP hD hS ls hl
                      refine lv_iload hx hb dX5_nearest_62 (lv_at hl 5 rfl) ?_
                      refine lv_aload hx hb dX5_nearest_64 (lv_at hl 4 rfl) ?_
                      refine va_get (D := X.1) (ci := 2) (v := .int (nI P.length)) (C := RX2) (T := TX2) (N := 4) hx hb hts hin2 hown hK hP 2 rfl rfl 2 (by decide) lk112 (fun _ h9 => h9) rfl dX5_nearest_66 ?_
                      refine lv_icmp_ge (tgt := 114) hx hb dX5_nearest_69 (by decide) (fun c_69 => ?_) (fun c_69 => ?_)
                      · replace c_69 : P.length ≤ i := (nI_leI (by omega) (by omega)).mp c_69
                        refine lv_aload_n hx hb dX5_nearest_114 rfl (lv_at hl 0 rfl) ?_
                        refine va_get (D := X.1) (ci := 5) (v := .ref rs) (C := RX5) (T := TX5) (N := 12) hx hb hts hin5 hown hK hP 0 rfl rfl 8 (by decide) lk61 (fun _ h9 => h9) rfl dX5_nearest_115 ?_
                        refine va_get (D := X.1) (ci := 3) (v := .int (nI (((P.take i).foldl (nSt x y kk) []).length))) (C := RX3) (T := TX3) (N := 4) hx hb hts hin3 hown hK hP 8 rfl rfl 3 (by decide) lk139 (fun _ h9 => h9) rfl dX5_nearest_118 ?_
                        rw [← rOf_len] at hP
                        refine wM hQ ?_
                        exact rtI (rk1, rv1, rd1, rOf ((P.take i).foldl (nSt x y kk) [])) hx hb hr hlocks hP hS (⟨nr_rs hr1, by show (nI ((P.take i).foldl (nSt x y kk) []).length, rOf ((P.take i).foldl (nSt x y kk) [])) = _; rw [sel_0 hs]; rw [nearF_in ⟨hc_23, hc_30, c_39, le_nlt c_47⟩, hkk, nI_clamp (by omega), show i = P.length from by omega, List.take_length]; rfl⟩) dX5_nearest_121
                      · replace c_69 : ¬ P.length ≤ i := fun h9 => c_69 ((nI_leI (by omega) (by omega)).mpr h9)
                        refine lv_aload hx hb dX5_nearest_72 (lv_at hl 4 rfl) ?_
                        refine va_get (D := X.1) (ci := 2) (v := .ref pk) (C := RX2) (T := TX2) (N := 4) hx hb hts hin2 hown hK hP 2 rfl rfl 0 (by decide) lk115 (fun _ h9 => h9) rfl dX5_nearest_74 ?_
                        refine lv_iload hx hb dX5_nearest_77 (lv_at hl 5 rfl) ?_
                        have hi_6 : vp_in (nI i) 512 := vp_in_nI (by omega) (by omega)
                        refine va_iald hx hb hK hP 3 0 rfl rfl hi_6 dX5_nearest_79 ?_
                        refine lv_topi (fun x_7 ex_7 => ?_)
                        obtain rfl : x_7 = pkf i := by
                          rw [ex_7]
                          rw [nI_clamp (by omega)]
                        refine lv_topi (fun x_8 ex_8 => ?_)
                        obtain rfl : x_8 = nI (pK P i) := by
                          rw [ex_8]
                          exact h1.k (by omega)
                        refine lv_istore (lv' := [(7, .int (nI (pK P i))), (0, .ref a), (2, .int x), (3, .int y), (4, .int kq), (5, .ref p), (6, .int (nI i))]) hx hb dX5_nearest_80 hl (by decide) rfl (fun ls hl => ?_)
                        refine lv_aload_n hx hb dX5_nearest_82 rfl (lv_at hl 1 rfl) ?_
                        refine va_get (D := X.1) (ci := 5) (v := .ref rs) (C := RX5) (T := TX5) (N := 12) hx hb hts hin5 hown hK hP 0 rfl rfl 8 (by decide) lk61 (fun _ h9 => h9) rfl dX5_nearest_83 ?_
                        refine lv_iload hx hb dX5_nearest_86 (lv_at hl 0 rfl) ?_
                        refine lv_aload hx hb dX5_nearest_88 (lv_at hl 5 rfl) ?_
                        refine va_get (D := X.1) (ci := 2) (v := .ref pv) (C := RX2) (T := TX2) (N := 4) hx hb hts hin2 hown hK hP 2 rfl rfl 1 (by decide) lk123 (fun _ h9 => h9) rfl dX5_nearest_90 ?_
                        refine lv_iload hx hb dX5_nearest_93 (lv_at hl 6 rfl) ?_
                        have hi_9 : vp_in (nI i) 512 := vp_in_nI (by omega) (by omega)
                        refine va_iald hx hb hK hP 4 0 rfl rfl hi_9 dX5_nearest_95 ?_
                        refine lv_topi (fun x_10 ex_10 => ?_)
                        obtain rfl : x_10 = pvf i := by
                          rw [ex_10]
                          rw [nI_clamp (by omega)]
                        refine lv_topi (fun x_11 ex_11 => ?_)
                        obtain rfl : x_11 = nI (pV P i) := by
                          rw [ex_11]
                          exact h1.v (by omega)
                        refine lv_iload hx hb dX5_nearest_96 (lv_at hl 0 rfl) ?_
                        refine lv_iload_n hx hb dX5_nearest_98 rfl (lv_at hl 2 rfl) ?_
                        refine lv_iload_n hx hb dX5_nearest_99 rfl (lv_at hl 3 rfl) ?_
                        refine ckSRl (As := [.int (nI (pK P i)), .int x, .int y]) (rest := [.int (nI (pV P i)), .int (nI (pK P i)), .ref rs]) [] (c_X5_distance l X (pK P i) x y (h1.kb (by omega))) ⟨hx, hb, hml, hown, hts⟩ (va_cwS 3 hts gX5_nearest_X5_distance rfl rfl rfl (by decide +kernel) ⟨Nat.le_of_ble_eq_true rfl, Nat.le_of_ble_eq_true rfl⟩) hK hN hP hD (by decide) rfl rfl hl.1 rfl (Nat.le_of_ble_eq_true rfl) dX5_nearest_100 ⟨Nat.zero_le _, Nat.zero_le _⟩ (fun r_12 hc_100 => ?_)
                        subst hc_100
                        refine lv_iload hx hb dX5_nearest_103 (lv_at hl 4 rfl) ?_
                        refine lv_topi (fun x_13 ex_13 => ?_)
                        obtain rfl : x_13 = nI kk := by
                          rw [ex_13]
                          exact hkk
                        refine ckVv (As := [.int (nI (pK P i)), .int (nI (pV P i)), .long (dst (pK P i) x y), .int (nI kk)]) (rest := []) 0 [8, 9, 10, 11] (c_X3_addByDistance l X rs rk_ rv rd (pK P i) kk (nI (pV P i)) (dst (pK P i) x y) rk1 rv1 rd1 ((P.take i).foldl (nSt x y kk) []) hr1 (h1.kb (by omega)) hk1 (n_len hi) hk2) ⟨hx, hb, hml, hown, hts⟩ (cwV 4 hts gX5_nearest_X3_addByDistance rfl rfl rfl (by decide +kernel) ⟨Nat.le_of_ble_eq_true rfl, Nat.le_of_ble_eq_true rfl⟩) hK hN hP hD hS (by decide) rfl (ci := 3) rfl rfl (fun _ => rfl) rfl hl.1 rfl (Nat.le_of_ble_eq_true rfl) dX5_nearest_105 ⟨Nat.zero_le _, Nat.zero_le _⟩ (fun u_14 H locs hra hP hD hS => ?_)
                        obtain ⟨rk2, rv2, rd2⟩ := u_14
                        have hP : va_P X.1 vwCl [(a, .inr (5, [.int (nI bl), .int (nI bk), .int (nI sp), .ref d, .ref p, .ref t, .ref t2, .ref ch, .ref rs, .int (nI 1), .int f_ct, .int (nI cp)])), (d, .inr (1, [.ref h, .ref lk, .ref lv, .int (nI se)])), (p, .inr (2, [.ref pk, .ref pv, .int (nI P.length), .int (nI w)])), (pk, .inl (X.2.1, 512, .inl pkf)), (pv, .inl (X.2.1, 512, .inl pvf)), (h, .inr (2, [.ref hk, .ref hv, .int (nI Hm.length), .int (nI wh)])), (hk, .inl (X.2.1, 512, .inl hkf)), (hv, .inl (X.2.1, 512, .inl hvf)), (rs, .inr (3, [.ref rk_, .ref rv, .ref rd, .int (nI (((insD ((P.take i).foldl (nSt x y kk) []) ((pK P i), (nI (pV P i)), (dst (pK P i) x y))).take kk).length))])), (rk_, .inl (X.2.1, 150, .inl rk2)), (rv, .inl (X.2.1, 150, .inl rv2)), (rd, .inl (X.2.2, 150, .inr (.inl rd2)))] H := hP
                        have hD : va_D A_ [(a, .inr (5, [.int (nI bl), .int (nI bk), .int (nI sp), .ref d, .ref p, .ref t, .ref t2, .ref ch, .ref rs, .int (nI 1), .int f_ct, .int (nI cp)])), (d, .inr (1, [.ref h, .ref lk, .ref lv, .int (nI se)])), (p, .inr (2, [.ref pk, .ref pv, .int (nI P.length), .int (nI w)])), (pk, .inl (X.2.1, 512, .inl pkf)), (pv, .inl (X.2.1, 512, .inl pvf)), (h, .inr (2, [.ref hk, .ref hv, .int (nI Hm.length), .int (nI wh)])), (hk, .inl (X.2.1, 512, .inl hkf)), (hv, .inl (X.2.1, 512, .inl hvf)), (rs, .inr (3, [.ref rk_, .ref rv, .ref rd, .int (nI (((insD ((P.take i).foldl (nSt x y kk) []) ((pK P i), (nI (pV P i)), (dst (pK P i) x y))).take kk).length))])), (rk_, .inl (X.2.1, 150, .inl rk2)), (rv, .inl (X.2.1, 150, .inl rv2)), (rd, .inl (X.2.2, 150, .inr (.inl rd2)))] := hD
                        try dsimp only at hra
                        refine lv_iinc (v := nI (i + 1)) (lv' := [(6, .int (nI (i + 1))), (7, .int (nI (pK P i))), (0, .ref a), (2, .int x), (3, .int y), (4, .int kq), (5, .ref p)]) hx hb dX5_nearest_108 hl (k := 6) rfl (by rw [show Int32.ofInt 1 = nI 1 from by decide]; exact nI_add _ _) (by decide) rfl (fun ls hl => ?_)
                        refine lv_goto (tgt := 62) hx hb dX5_nearest_111 (by decide) ?_
                        rw [← n_step (by omega)] at hP hD hra
                        exact ih62 (i + 1) rk2 rv2 rd2 (by omega) (by exact hra) (by omega) _ _ hP hD hS ls (lv_sub hl [2, 3, 4, 5, 6, 0] rfl)
                  exact loop_62 _ 0 rkf rvf rdf (by omega) (by exact nr_nil) (Nat.lt_succ_self _) _ _ hP hD hS ls (lv_sub hl [2, 4, 5, 6, 1, 0] rfl)
                · skip
                  refine lv_iconst (v := (-1)) hx hb dX5_nearest_50 (by decide) ?_
                  refine wM hQ ?_
                  exact rtI (rkf, rvf, rdf, R) hx hb hr hlocks hP hS (⟨h3, by show (-1, R) = _; rw [sel_0 hs]; exact (cif_neg (fun z => by first | exact hc_23 z.1 | exact hc_30 z.2.1 | exact z.2.2.1 c_39 | exact c_47 (Int32.not_lt.mp z.2.2.2))).symm⟩) dX5_nearest_51
          · skip
            refine lv_if_eq (tgt := 50) hx hb dX5_nearest_33 (by decide) (fun c_33 => ?_) (fun c_33 => ?_)
            · skip
              refine lv_iconst (v := (-1)) hx hb dX5_nearest_50 (by decide) ?_
              refine wM hQ ?_
              exact rtI (rkf, rvf, rdf, R) hx hb hr hlocks hP hS (⟨h3, by show (-1, R) = _; rw [sel_0 hs]; exact (cif_neg (fun z => by first | exact hc_23 z.1 | exact hc_30 z.2.1 | exact z.2.2.1 c_39 | exact c_47 (Int32.not_lt.mp z.2.2.2))).symm⟩) dX5_nearest_51
            · exact absurd c_33 (by decide)
      · skip
        refine lv_if_eq (tgt := 50) hx hb dX5_nearest_26 (by decide) (fun c_26 => ?_) (fun c_26 => ?_)
        · skip
          refine lv_iconst (v := (-1)) hx hb dX5_nearest_50 (by decide) ?_
          refine wM hQ ?_
          exact rtI (rkf, rvf, rdf, R) hx hb hr hlocks hP hS (⟨h3, by show (-1, R) = _; rw [sel_0 hs]; exact (cif_neg (fun z => by first | exact hc_23 z.1 | exact hc_30 z.2.1 | exact z.2.2.1 c_39 | exact c_47 (Int32.not_lt.mp z.2.2.2))).symm⟩) dX5_nearest_51
        · exact absurd c_26 (by decide)
    · skip
      rw [if_neg (by rw [hs]; decide), if_pos hs] at hc_12
      subst hc_12
      refine lv_astore (lv' := [(5, .ref h), (0, .ref a), (1, .int s_), (2, .int x), (3, .int y), (4, .int kq)]) hx hb dX5_nearest_15 hl (by decide) rfl (fun ls hl => ?_)
      refine lv_aload hx hb dX5_nearest_17 (lv_at hl 0 rfl) ?_
      refine lv_ifnull hx hb dX5_nearest_19 ?_
      refine lv_iload_n hx hb dX5_nearest_22 rfl (lv_at hl 3 rfl) ?_
      refine ckSRi (As := [.int x]) (rest := []) [] (c_X5_isPlace l X x) ⟨hx, hb, hml, hown, hts⟩ (va_cwS 1 hts gX5_nearest_X5_isPlace rfl rfl rfl (by decide +kernel) ⟨Nat.le_of_ble_eq_true rfl, Nat.le_of_ble_eq_true rfl⟩) hK hN hP hD (by decide) rfl rfl hl.1 rfl (Nat.le_of_ble_eq_true rfl) dX5_nearest_23 ⟨Nat.zero_le _, Nat.zero_le _⟩ (fun r_16 hc_23 => ?_)
      rcases hc_23 with ⟨hc_23, rfl⟩ | ⟨hc_23, rfl⟩
      · skip
        refine lv_if_eq (tgt := 50) hx hb dX5_nearest_26 (by decide) (fun c_26 => ?_) (fun c_26 => ?_)
        · exact absurd c_26 (by decide)
        · skip
          refine lv_iload_n hx hb dX5_nearest_29 rfl (lv_at hl 4 rfl) ?_
          refine ckSRi (As := [.int y]) (rest := []) [] (c_X5_isPlace l X y) ⟨hx, hb, hml, hown, hts⟩ (va_cwS 1 hts gX5_nearest_X5_isPlace rfl rfl rfl (by decide +kernel) ⟨Nat.le_of_ble_eq_true rfl, Nat.le_of_ble_eq_true rfl⟩) hK hN hP hD (by decide) rfl rfl hl.1 rfl (Nat.le_of_ble_eq_true rfl) dX5_nearest_30 ⟨Nat.zero_le _, Nat.zero_le _⟩ (fun r_17 hc_30 => ?_)
          rcases hc_30 with ⟨hc_30, rfl⟩ | ⟨hc_30, rfl⟩
          · skip
            refine lv_if_eq (tgt := 50) hx hb dX5_nearest_33 (by decide) (fun c_33 => ?_) (fun c_33 => ?_)
            · exact absurd c_33 (by decide)
            · skip
              refine lv_iload hx hb dX5_nearest_36 (lv_at hl 5 rfl) ?_
              refine lv_iconst (v := nI 1) hx hb dX5_nearest_38 (by decide) ?_
              refine lv_icmp_lt (tgt := 50) hx hb dX5_nearest_39 (by decide) (fun c_39 => ?_) (fun c_39 => ?_)
              · skip
                refine lv_iconst (v := (-1)) hx hb dX5_nearest_50 (by decide) ?_
                refine wM hQ ?_
                exact rtI (rkf, rvf, rdf, R) hx hb hr hlocks hP hS (⟨h3, by show (-1, R) = _; rw [sel_1 hs]; exact (cif_neg (fun z => by first | exact hc_23 z.1 | exact hc_30 z.2.1 | exact z.2.2.1 c_39 | exact c_47 (Int32.not_lt.mp z.2.2.2))).symm⟩) dX5_nearest_51
              · skip
                refine lv_iload hx hb dX5_nearest_42 (lv_at hl 5 rfl) ?_
                refine lv_sipush (v := nI 150) hx hb dX5_nearest_44 (by decide) ?_
                refine lv_icmp_le (tgt := 52) hx hb dX5_nearest_47 (by decide) (fun c_47 => ?_) (fun c_47 => ?_)
                · skip
                  obtain ⟨kk, hk1, hk2, hkk⟩ := ct_le c_39 (le_nlt c_47)
                  refine lv_aload_n hx hb dX5_nearest_52 rfl (lv_at hl 1 rfl) ?_
                  refine va_get (D := X.1) (ci := 5) (v := .ref rs) (C := RX5) (T := TX5) (N := 12) hx hb hts hin5 hown hK hP 0 rfl rfl 8 (by decide) lk61 (fun _ h9 => h9) rfl dX5_nearest_53 ?_
                  refine ckVv (As := []) (rest := []) 0 [8] (c_X3_clear l X rs rk_ rv rd (nI R.length)) ⟨hx, hb, hml, hown, hts⟩ (cwV 0 hts gX5_nearest_X3_clear rfl rfl rfl (by decide +kernel) ⟨Nat.le_of_ble_eq_true rfl, Nat.le_of_ble_eq_true rfl⟩) hK hN hP hD hS (by decide) rfl (ci := 3) rfl rfl (fun _ => rfl) rfl hl.1 rfl (Nat.le_of_ble_eq_true rfl) dX5_nearest_56 ⟨Nat.zero_le _, Nat.zero_le _⟩ (fun u_18 H locs hc_56 hP hD hS => ?_)
                  have hP : va_P X.1 vwCl [(a, .inr (5, [.int (nI bl), .int (nI bk), .int (nI sp), .ref d, .ref p, .ref t, .ref t2, .ref ch, .ref rs, .int (nI 1), .int f_ct, .int (nI cp)])), (d, .inr (1, [.ref h, .ref lk, .ref lv, .int (nI se)])), (p, .inr (2, [.ref pk, .ref pv, .int (nI P.length), .int (nI w)])), (pk, .inl (X.2.1, 512, .inl pkf)), (pv, .inl (X.2.1, 512, .inl pvf)), (h, .inr (2, [.ref hk, .ref hv, .int (nI Hm.length), .int (nI wh)])), (hk, .inl (X.2.1, 512, .inl hkf)), (hv, .inl (X.2.1, 512, .inl hvf)), (rs, .inr (3, [.ref rk_, .ref rv, .ref rd, .int (nI 0)])), (rk_, .inl (X.2.1, 150, .inl rkf)), (rv, .inl (X.2.1, 150, .inl rvf)), (rd, .inl (X.2.2, 150, .inr (.inl rdf)))] H := hP
                  have hD : va_D A_ [(a, .inr (5, [.int (nI bl), .int (nI bk), .int (nI sp), .ref d, .ref p, .ref t, .ref t2, .ref ch, .ref rs, .int (nI 1), .int f_ct, .int (nI cp)])), (d, .inr (1, [.ref h, .ref lk, .ref lv, .int (nI se)])), (p, .inr (2, [.ref pk, .ref pv, .int (nI P.length), .int (nI w)])), (pk, .inl (X.2.1, 512, .inl pkf)), (pv, .inl (X.2.1, 512, .inl pvf)), (h, .inr (2, [.ref hk, .ref hv, .int (nI Hm.length), .int (nI wh)])), (hk, .inl (X.2.1, 512, .inl hkf)), (hv, .inl (X.2.1, 512, .inl hvf)), (rs, .inr (3, [.ref rk_, .ref rv, .ref rd, .int (nI 0)])), (rk_, .inl (X.2.1, 150, .inl rkf)), (rv, .inl (X.2.1, 150, .inl rvf)), (rd, .inl (X.2.2, 150, .inr (.inl rdf)))] := hD
                  refine lv_iconst (v := nI 0) hx hb dX5_nearest_59 (by decide) ?_
                  refine lv_istore (lv' := [(6, .int (nI 0)), (5, .ref h), (0, .ref a), (1, .int s_), (2, .int x), (3, .int y), (4, .int kq)]) hx hb dX5_nearest_60 hl (by decide) rfl (fun ls hl => ?_)
                  have loop_62 : ∀ (fu : Nat) (i : Nat) (rk1 : Nat → Int32) (rv1 : Nat → Int32) (rd1 : Nat → Int64), (i ≤ Hm.length) → (nrOk rk1 rv1 rd1 ((Hm.take i).foldl (nSt x y kk) [])) → Hm.length - i < fu → ∀ (H : Heap) (locs : List Loc), va_P X.1 vwCl [(a, .inr (5, [.int (nI bl), .int (nI bk), .int (nI sp), .ref d, .ref p, .ref t, .ref t2, .ref ch, .ref rs, .int (nI 1), .int f_ct, .int (nI cp)])), (d, .inr (1, [.ref h, .ref lk, .ref lv, .int (nI se)])), (p, .inr (2, [.ref pk, .ref pv, .int (nI P.length), .int (nI w)])), (pk, .inl (X.2.1, 512, .inl pkf)), (pv, .inl (X.2.1, 512, .inl pvf)), (h, .inr (2, [.ref hk, .ref hv, .int (nI Hm.length), .int (nI wh)])), (hk, .inl (X.2.1, 512, .inl hkf)), (hv, .inl (X.2.1, 512, .inl hvf)), (rs, .inr (3, [.ref rk_, .ref rv, .ref rd, .int (nI (((Hm.take i).foldl (nSt x y kk) []).length))])), (rk_, .inl (X.2.1, 150, .inl rk1)), (rv, .inl (X.2.1, 150, .inl rv1)), (rd, .inl (X.2.2, 150, .inr (.inl rd1)))] H → va_D A_ [(a, .inr (5, [.int (nI bl), .int (nI bk), .int (nI sp), .ref d, .ref p, .ref t, .ref t2, .ref ch, .ref rs, .int (nI 1), .int f_ct, .int (nI cp)])), (d, .inr (1, [.ref h, .ref lk, .ref lv, .int (nI se)])), (p, .inr (2, [.ref pk, .ref pv, .int (nI P.length), .int (nI w)])), (pk, .inl (X.2.1, 512, .inl pkf)), (pv, .inl (X.2.1, 512, .inl pvf)), (h, .inr (2, [.ref hk, .ref hv, .int (nI Hm.length), .int (nI wh)])), (hk, .inl (X.2.1, 512, .inl hkf)), (hv, .inl (X.2.1, 512, .inl hvf)), (rs, .inr (3, [.ref rk_, .ref rv, .ref rd, .int (nI (((Hm.take i).foldl (nSt x y kk) []).length))])), (rk_, .inl (X.2.1, 150, .inl rk1)), (rv, .inl (X.2.1, 150, .inl rv1)), (rd, .inl (X.2.2, 150, .inr (.inl rd1)))] → va_S A_ sz.heap H locs → ∀ (ls : Array Slot), lv_has ls 8 [(0, .ref a), (2, .int x), (3, .int y), (4, .int kq), (5, .ref h), (6, .int (nI i))] → W pz l ez (headSpec wsX5_nearest (rmk 2)).room sz mz ([.ref a, .int s_, .int x, .int y, .int kq].toArray) below meth cz H locs 0 0 Q (F0 mz 62 ls []) := by
                    intro fu
                    induction fu with
                    | zero => intro i rk1 rv1 rd1 hi hr1 hfu; exact absurd hfu (Nat.not_lt_zero _)
                    | succ fu ih62 =>
                      intro i rk1 rv1 rd1 hi hr1 hfu H locs hP hD hS ls hl
                      refine lv_iload hx hb dX5_nearest_62 (lv_at hl 5 rfl) ?_
                      refine lv_aload hx hb dX5_nearest_64 (lv_at hl 4 rfl) ?_
                      refine va_get (D := X.1) (ci := 2) (v := .int (nI Hm.length)) (C := RX2) (T := TX2) (N := 4) hx hb hts hin2 hown hK hP 5 rfl rfl 2 (by decide) lk112 (fun _ h9 => h9) rfl dX5_nearest_66 ?_
                      refine lv_icmp_ge (tgt := 114) hx hb dX5_nearest_69 (by decide) (fun c_69 => ?_) (fun c_69 => ?_)
                      · replace c_69 : Hm.length ≤ i := (nI_leI (by omega) (by omega)).mp c_69
                        refine lv_aload_n hx hb dX5_nearest_114 rfl (lv_at hl 0 rfl) ?_
                        refine va_get (D := X.1) (ci := 5) (v := .ref rs) (C := RX5) (T := TX5) (N := 12) hx hb hts hin5 hown hK hP 0 rfl rfl 8 (by decide) lk61 (fun _ h9 => h9) rfl dX5_nearest_115 ?_
                        refine va_get (D := X.1) (ci := 3) (v := .int (nI (((Hm.take i).foldl (nSt x y kk) []).length))) (C := RX3) (T := TX3) (N := 4) hx hb hts hin3 hown hK hP 8 rfl rfl 3 (by decide) lk139 (fun _ h9 => h9) rfl dX5_nearest_118 ?_
                        rw [← rOf_len] at hP
                        refine wM hQ ?_
                        exact rtI (rk1, rv1, rd1, rOf ((Hm.take i).foldl (nSt x y kk) [])) hx hb hr hlocks hP hS (⟨nr_rs hr1, by show (nI ((Hm.take i).foldl (nSt x y kk) []).length, rOf ((Hm.take i).foldl (nSt x y kk) [])) = _; rw [sel_1 hs]; rw [nearF_in ⟨hc_23, hc_30, c_39, le_nlt c_47⟩, hkk, nI_clamp (by omega), show i = Hm.length from by omega, List.take_length]; rfl⟩) dX5_nearest_121
                      · replace c_69 : ¬ Hm.length ≤ i := fun h9 => c_69 ((nI_leI (by omega) (by omega)).mpr h9)
                        refine lv_aload hx hb dX5_nearest_72 (lv_at hl 4 rfl) ?_
                        refine va_get (D := X.1) (ci := 2) (v := .ref hk) (C := RX2) (T := TX2) (N := 4) hx hb hts hin2 hown hK hP 5 rfl rfl 0 (by decide) lk115 (fun _ h9 => h9) rfl dX5_nearest_74 ?_
                        refine lv_iload hx hb dX5_nearest_77 (lv_at hl 5 rfl) ?_
                        have hi_20 : vp_in (nI i) 512 := vp_in_nI (by omega) (by omega)
                        refine va_iald hx hb hK hP 6 0 rfl rfl hi_20 dX5_nearest_79 ?_
                        refine lv_topi (fun x_21 ex_21 => ?_)
                        obtain rfl : x_21 = hkf i := by
                          rw [ex_21]
                          rw [nI_clamp (by omega)]
                        refine lv_topi (fun x_22 ex_22 => ?_)
                        obtain rfl : x_22 = nI (pK Hm i) := by
                          rw [ex_22]
                          exact h2.k (by omega)
                        refine lv_istore (lv' := [(7, .int (nI (pK Hm i))), (0, .ref a), (2, .int x), (3, .int y), (4, .int kq), (5, .ref h), (6, .int (nI i))]) hx hb dX5_nearest_80 hl (by decide) rfl (fun ls hl => ?_)
                        refine lv_aload_n hx hb dX5_nearest_82 rfl (lv_at hl 1 rfl) ?_
                        refine va_get (D := X.1) (ci := 5) (v := .ref rs) (C := RX5) (T := TX5) (N := 12) hx hb hts hin5 hown hK hP 0 rfl rfl 8 (by decide) lk61 (fun _ h9 => h9) rfl dX5_nearest_83 ?_
                        refine lv_iload hx hb dX5_nearest_86 (lv_at hl 0 rfl) ?_
                        refine lv_aload hx hb dX5_nearest_88 (lv_at hl 5 rfl) ?_
                        refine va_get (D := X.1) (ci := 2) (v := .ref hv) (C := RX2) (T := TX2) (N := 4) hx hb hts hin2 hown hK hP 5 rfl rfl 1 (by decide) lk123 (fun _ h9 => h9) rfl dX5_nearest_90 ?_
                        refine lv_iload hx hb dX5_nearest_93 (lv_at hl 6 rfl) ?_
                        have hi_23 : vp_in (nI i) 512 := vp_in_nI (by omega) (by omega)
                        refine va_iald hx hb hK hP 7 0 rfl rfl hi_23 dX5_nearest_95 ?_
                        refine lv_topi (fun x_24 ex_24 => ?_)
                        obtain rfl : x_24 = hvf i := by
                          rw [ex_24]
                          rw [nI_clamp (by omega)]
                        refine lv_topi (fun x_25 ex_25 => ?_)
                        obtain rfl : x_25 = nI (pV Hm i) := by
                          rw [ex_25]
                          exact h2.v (by omega)
                        refine lv_iload hx hb dX5_nearest_96 (lv_at hl 0 rfl) ?_
                        refine lv_iload_n hx hb dX5_nearest_98 rfl (lv_at hl 2 rfl) ?_
                        refine lv_iload_n hx hb dX5_nearest_99 rfl (lv_at hl 3 rfl) ?_
                        refine ckSRl (As := [.int (nI (pK Hm i)), .int x, .int y]) (rest := [.int (nI (pV Hm i)), .int (nI (pK Hm i)), .ref rs]) [] (c_X5_distance l X (pK Hm i) x y (h2.kb (by omega))) ⟨hx, hb, hml, hown, hts⟩ (va_cwS 3 hts gX5_nearest_X5_distance rfl rfl rfl (by decide +kernel) ⟨Nat.le_of_ble_eq_true rfl, Nat.le_of_ble_eq_true rfl⟩) hK hN hP hD (by decide) rfl rfl hl.1 rfl (Nat.le_of_ble_eq_true rfl) dX5_nearest_100 ⟨Nat.zero_le _, Nat.zero_le _⟩ (fun r_26 hc_100 => ?_)
                        subst hc_100
                        refine lv_iload hx hb dX5_nearest_103 (lv_at hl 4 rfl) ?_
                        refine lv_topi (fun x_27 ex_27 => ?_)
                        obtain rfl : x_27 = nI kk := by
                          rw [ex_27]
                          exact hkk
                        refine ckVv (As := [.int (nI (pK Hm i)), .int (nI (pV Hm i)), .long (dst (pK Hm i) x y), .int (nI kk)]) (rest := []) 0 [8, 9, 10, 11] (c_X3_addByDistance l X rs rk_ rv rd (pK Hm i) kk (nI (pV Hm i)) (dst (pK Hm i) x y) rk1 rv1 rd1 ((Hm.take i).foldl (nSt x y kk) []) hr1 (h2.kb (by omega)) hk1 (n_len hi) hk2) ⟨hx, hb, hml, hown, hts⟩ (cwV 4 hts gX5_nearest_X3_addByDistance rfl rfl rfl (by decide +kernel) ⟨Nat.le_of_ble_eq_true rfl, Nat.le_of_ble_eq_true rfl⟩) hK hN hP hD hS (by decide) rfl (ci := 3) rfl rfl (fun _ => rfl) rfl hl.1 rfl (Nat.le_of_ble_eq_true rfl) dX5_nearest_105 ⟨Nat.zero_le _, Nat.zero_le _⟩ (fun u_28 H locs hra hP hD hS => ?_)
                        obtain ⟨rk2, rv2, rd2⟩ := u_28
                        have hP : va_P X.1 vwCl [(a, .inr (5, [.int (nI bl), .int (nI bk), .int (nI sp), .ref d, .ref p, .ref t, .ref t2, .ref ch, .ref rs, .int (nI 1), .int f_ct, .int (nI cp)])), (d, .inr (1, [.ref h, .ref lk, .ref lv, .int (nI se)])), (p, .inr (2, [.ref pk, .ref pv, .int (nI P.length), .int (nI w)])), (pk, .inl (X.2.1, 512, .inl pkf)), (pv, .inl (X.2.1, 512, .inl pvf)), (h, .inr (2, [.ref hk, .ref hv, .int (nI Hm.length), .int (nI wh)])), (hk, .inl (X.2.1, 512, .inl hkf)), (hv, .inl (X.2.1, 512, .inl hvf)), (rs, .inr (3, [.ref rk_, .ref rv, .ref rd, .int (nI (((insD ((Hm.take i).foldl (nSt x y kk) []) ((pK Hm i), (nI (pV Hm i)), (dst (pK Hm i) x y))).take kk).length))])), (rk_, .inl (X.2.1, 150, .inl rk2)), (rv, .inl (X.2.1, 150, .inl rv2)), (rd, .inl (X.2.2, 150, .inr (.inl rd2)))] H := hP
                        have hD : va_D A_ [(a, .inr (5, [.int (nI bl), .int (nI bk), .int (nI sp), .ref d, .ref p, .ref t, .ref t2, .ref ch, .ref rs, .int (nI 1), .int f_ct, .int (nI cp)])), (d, .inr (1, [.ref h, .ref lk, .ref lv, .int (nI se)])), (p, .inr (2, [.ref pk, .ref pv, .int (nI P.length), .int (nI w)])), (pk, .inl (X.2.1, 512, .inl pkf)), (pv, .inl (X.2.1, 512, .inl pvf)), (h, .inr (2, [.ref hk, .ref hv, .int (nI Hm.length), .int (nI wh)])), (hk, .inl (X.2.1, 512, .inl hkf)), (hv, .inl (X.2.1, 512, .inl hvf)), (rs, .inr (3, [.ref rk_, .ref rv, .ref rd, .int (nI (((insD ((Hm.take i).foldl (nSt x y kk) []) ((pK Hm i), (nI (pV Hm i)), (dst (pK Hm i) x y))).take kk).length))])), (rk_, .inl (X.2.1, 150, .inl rk2)), (rv, .inl (X.2.1, 150, .inl rv2)), (rd, .inl (X.2.2, 150, .inr (.inl rd2)))] := hD
                        try dsimp only at hra
                        refine lv_iinc (v := nI (i + 1)) (lv' := [(6, .int (nI (i + 1))), (7, .int (nI (pK Hm i))), (0, .ref a), (2, .int x), (3, .int y), (4, .int kq), (5, .ref h)]) hx hb dX5_nearest_108 hl (k := 6) rfl (by rw [show Int32.ofInt 1 = nI 1 from by decide]; exact nI_add _ _) (by decide) rfl (fun ls hl => ?_)
                        refine lv_goto (tgt := 62) hx hb dX5_nearest_111 (by decide) ?_
                        rw [← n_step (by omega)] at hP hD hra
                        exact ih62 (i + 1) rk2 rv2 rd2 (by omega) (by exact hra) (by omega) _ _ hP hD hS ls (lv_sub hl [2, 3, 4, 5, 6, 0] rfl)
                  exact loop_62 _ 0 rkf rvf rdf (by omega) (by exact nr_nil) (Nat.lt_succ_self _) _ _ hP hD hS ls (lv_sub hl [2, 4, 5, 6, 1, 0] rfl)
                · skip
                  refine lv_iconst (v := (-1)) hx hb dX5_nearest_50 (by decide) ?_
                  refine wM hQ ?_
                  exact rtI (rkf, rvf, rdf, R) hx hb hr hlocks hP hS (⟨h3, by show (-1, R) = _; rw [sel_1 hs]; exact (cif_neg (fun z => by first | exact hc_23 z.1 | exact hc_30 z.2.1 | exact z.2.2.1 c_39 | exact c_47 (Int32.not_lt.mp z.2.2.2))).symm⟩) dX5_nearest_51
          · skip
            refine lv_if_eq (tgt := 50) hx hb dX5_nearest_33 (by decide) (fun c_33 => ?_) (fun c_33 => ?_)
            · skip
              refine lv_iconst (v := (-1)) hx hb dX5_nearest_50 (by decide) ?_
              refine wM hQ ?_
              exact rtI (rkf, rvf, rdf, R) hx hb hr hlocks hP hS (⟨h3, by show (-1, R) = _; rw [sel_1 hs]; exact (cif_neg (fun z => by first | exact hc_23 z.1 | exact hc_30 z.2.1 | exact z.2.2.1 c_39 | exact c_47 (Int32.not_lt.mp z.2.2.2))).symm⟩) dX5_nearest_51
            · exact absurd c_33 (by decide)
      · skip
        refine lv_if_eq (tgt := 50) hx hb dX5_nearest_26 (by decide) (fun c_26 => ?_) (fun c_26 => ?_)
        · skip
          refine lv_iconst (v := (-1)) hx hb dX5_nearest_50 (by decide) ?_
          refine wM hQ ?_
          exact rtI (rkf, rvf, rdf, R) hx hb hr hlocks hP hS (⟨h3, by show (-1, R) = _; rw [sel_1 hs]; exact (cif_neg (fun z => by first | exact hc_23 z.1 | exact hc_30 z.2.1 | exact z.2.2.1 c_39 | exact c_47 (Int32.not_lt.mp z.2.2.2))).symm⟩) dX5_nearest_51
        · exact absurd c_26 (by decide)
    · skip
      rw [if_neg hs.1, if_neg hs.2] at hc_12
      subst hc_12
      refine lv_astoreN (lv' := [(5, .null), (0, .ref a), (1, .int s_), (2, .int x), (3, .int y), (4, .int kq)]) hx hb dX5_nearest_15 hl (by decide) rfl (fun ls hl => ?_)
      refine lv_aloadN hx hb dX5_nearest_17 (lv_at hl 0 rfl) ?_
      refine lv_ifnullN (tgt := 50) hx hb dX5_nearest_19 (by decide) ?_
      refine lv_iconst (v := (-1)) hx hb dX5_nearest_50 (by decide) ?_
      refine wM hQ ?_
      exact rtI (rkf, rvf, rdf, R) hx hb hr hlocks hP hS (⟨h3, by show (-1, R) = _; rw [sel_n hs.1 hs.2]; rfl⟩) dX5_nearest_51
  · exact absurd c_4 (by decide)
