/-! PointStoreModel: the public methods: contracts, laid by program (wip/gen/spec_m5.py) -/
set_option maxHeartbeats 4000000 in
set_option maxRecDepth 100000 in
theorem c_X6_insert_off (l : Launch) (X : kX) (m bl bk b sp mn xr yr vr cr wr nc wl wc rx ry rv fr : Nat) (f_ar f_wt f_lv f_fi f_en f_rs : Int32) (f_cd : Int64) (x y v : Int32) : CRi l X yX6_insert wsX6_insert 0 [.ref m, .int x, .int y, .int v] [(m, .inr (6, [.int (nI bl), .int (nI bk), .int (nI b), .int (nI sp), .ref mn, .ref xr, .ref yr, .ref vr, .ref cr, .ref wr, .int (nI nc), .int (nI 1), .int f_ar, .ref wl, .ref wc, .int f_wt, .int f_lv, .int f_fi, .int f_en, .long f_cd, .ref rx, .ref ry, .ref rv, .ref fr, .int f_rs]))] (fun r => r = -2) := by
  refine Met.ofW (cc := cX6_insert) (maxL := 5) (ret := some (.int)) (by decide) rfl ?_
  intro pz ez sz mz args below meth cz s₁ Bz hml hv
  obtain ⟨rfl, hP, hK, hD0, hN⟩ := hv
  have hx := Bz.exec
  have hb := Bz.bytes
  have hr := Bz.returns
  have hts := atoms_spec (ws := wsX6_insert) Bz.pre
  have hown : sz.vm.findClass RX6 = some mz.cls := findClass_of_methodNamed Bz.named
  have hlocks := Bz.notSynchronized
  have hD := inW.self hD0
  have hS : va_S (inW [(m, .inr (6, [.int (nI bl), .int (nI bk), .int (nI b), .int (nI sp), .ref mn, .ref xr, .ref yr, .ref vr, .ref cr, .ref wr, .int (nI nc), .int (nI 1), .int f_ar, .ref wl, .ref wc, .int f_wt, .int f_lv, .int f_fi, .int f_en, .long f_cd, .ref rx, .ref ry, .ref rv, .ref fr, .int f_rs]))]) sz.heap sz.heap [] := va_S.rf
  have hl := lv_entry ([.ref m, .int x, .int y, .int v]) (n := 5) (Nat.le_of_ble_eq_true rfl)
  rw [lg_entry_eq]
  generalize (lg_sl ([.ref m, .int x, .int y, .int v]) ++ List.replicate (5 - (lg_sl ([.ref m, .int x, .int y, .int v])).length) Slot.unset).toArray = ls at hl ⊢
  have hl : lv_has ls 5 [(0, .ref m), (1, .int x), (2, .int y), (3, .int v)] := hl
  have lk105 := hts (.fieldLink RX6 105 "PointStoreModel" "isOff" "Z") (by decide +kernel)
  have hin6 : ∀ w ∈ u_ws RX6 TX6 25, w ∈ wsX6_insert := by decide +kernel
  refine wQ (fun Q hQ => ?_)
  generalize hAe : inW [(m, .inr (6, [.int (nI bl), .int (nI bk), .int (nI b), .int (nI sp), .ref mn, .ref xr, .ref yr, .ref vr, .ref cr, .ref wr, .int (nI nc), .int (nI 1), .int f_ar, .ref wl, .ref wc, .int f_wt, .int f_lv, .int f_fi, .int f_en, .long f_cd, .ref rx, .ref ry, .ref rv, .ref fr, .int f_rs]))] = A_ at hD hS
  refine lv_aload_n hx hb dX6_insert_0 rfl (lv_at hl 0 rfl) ?_
  refine va_get (D := X.1) (ci := 6) (v := .int (nI 1)) (C := RX6) (T := TX6) (N := 25) hx hb hts hin6 hown hK hP 0 rfl rfl 11 (by decide) lk105 (fun _ h9 => h9) rfl dX6_insert_1 ?_
  refine lv_if_eq (tgt := 10) hx hb dX6_insert_4 (by decide) (fun c_4 => ?_) (fun c_4 => ?_)
  · exact absurd c_4 (by decide)
  · skip
    refine lv_bipush (v := (-2)) hx hb dX6_insert_7 (by decide) ?_
    refine wM hQ ?_
    exact rtRI hx hb hr hlocks (rfl) dX6_insert_9
set_option maxHeartbeats 4000000 in
set_option maxRecDepth 100000 in
theorem c_X6_delete_off (l : Launch) (X : kX) (m bl bk b sp mn xr yr vr cr wr nc wl wc rx ry rv fr : Nat) (f_ar f_wt f_lv f_fi f_en f_rs : Int32) (f_cd : Int64) (x y : Int32) : CRi l X yX6_delete wsX6_delete 0 [.ref m, .int x, .int y] [(m, .inr (6, [.int (nI bl), .int (nI bk), .int (nI b), .int (nI sp), .ref mn, .ref xr, .ref yr, .ref vr, .ref cr, .ref wr, .int (nI nc), .int (nI 1), .int f_ar, .ref wl, .ref wc, .int f_wt, .int f_lv, .int f_fi, .int f_en, .long f_cd, .ref rx, .ref ry, .ref rv, .ref fr, .int f_rs]))] (fun r => r = -2) := by
  refine Met.ofW (cc := cX6_delete) (maxL := 4) (ret := some (.int)) (by decide) rfl ?_
  intro pz ez sz mz args below meth cz s₁ Bz hml hv
  obtain ⟨rfl, hP, hK, hD0, hN⟩ := hv
  have hx := Bz.exec
  have hb := Bz.bytes
  have hr := Bz.returns
  have hts := atoms_spec (ws := wsX6_delete) Bz.pre
  have hown : sz.vm.findClass RX6 = some mz.cls := findClass_of_methodNamed Bz.named
  have hlocks := Bz.notSynchronized
  have hD := inW.self hD0
  have hS : va_S (inW [(m, .inr (6, [.int (nI bl), .int (nI bk), .int (nI b), .int (nI sp), .ref mn, .ref xr, .ref yr, .ref vr, .ref cr, .ref wr, .int (nI nc), .int (nI 1), .int f_ar, .ref wl, .ref wc, .int f_wt, .int f_lv, .int f_fi, .int f_en, .long f_cd, .ref rx, .ref ry, .ref rv, .ref fr, .int f_rs]))]) sz.heap sz.heap [] := va_S.rf
  have hl := lv_entry ([.ref m, .int x, .int y]) (n := 4) (Nat.le_of_ble_eq_true rfl)
  rw [lg_entry_eq]
  generalize (lg_sl ([.ref m, .int x, .int y]) ++ List.replicate (4 - (lg_sl ([.ref m, .int x, .int y])).length) Slot.unset).toArray = ls at hl ⊢
  have hl : lv_has ls 4 [(0, .ref m), (1, .int x), (2, .int y)] := hl
  have lk105 := hts (.fieldLink RX6 105 "PointStoreModel" "isOff" "Z") (by decide +kernel)
  have hin6 : ∀ w ∈ u_ws RX6 TX6 25, w ∈ wsX6_delete := by decide +kernel
  refine wQ (fun Q hQ => ?_)
  generalize hAe : inW [(m, .inr (6, [.int (nI bl), .int (nI bk), .int (nI b), .int (nI sp), .ref mn, .ref xr, .ref yr, .ref vr, .ref cr, .ref wr, .int (nI nc), .int (nI 1), .int f_ar, .ref wl, .ref wc, .int f_wt, .int f_lv, .int f_fi, .int f_en, .long f_cd, .ref rx, .ref ry, .ref rv, .ref fr, .int f_rs]))] = A_ at hD hS
  refine lv_aload_n hx hb dX6_delete_0 rfl (lv_at hl 0 rfl) ?_
  refine va_get (D := X.1) (ci := 6) (v := .int (nI 1)) (C := RX6) (T := TX6) (N := 25) hx hb hts hin6 hown hK hP 0 rfl rfl 11 (by decide) lk105 (fun _ h9 => h9) rfl dX6_delete_1 ?_
  refine lv_if_eq (tgt := 10) hx hb dX6_delete_4 (by decide) (fun c_4 => ?_) (fun c_4 => ?_)
  · exact absurd c_4 (by decide)
  · skip
    refine lv_bipush (v := (-2)) hx hb dX6_delete_7 (by decide) ?_
    refine wM hQ ?_
    exact rtRI hx hb hr hlocks (rfl) dX6_delete_9
set_option maxHeartbeats 4000000 in
set_option maxRecDepth 100000 in
theorem c_X6_get_off (l : Launch) (X : kX) (m bl bk b sp mn xr yr vr cr wr nc wl wc rx ry rv fr : Nat) (f_ar f_wt f_lv f_fi f_en f_rs : Int32) (f_cd : Int64) (s_ x y : Int32) : CRi l X yX6_get wsX6_get 0 [.ref m, .int s_, .int x, .int y] [(m, .inr (6, [.int (nI bl), .int (nI bk), .int (nI b), .int (nI sp), .ref mn, .ref xr, .ref yr, .ref vr, .ref cr, .ref wr, .int (nI nc), .int (nI 1), .int f_ar, .ref wl, .ref wc, .int f_wt, .int f_lv, .int f_fi, .int f_en, .long f_cd, .ref rx, .ref ry, .ref rv, .ref fr, .int f_rs]))] (fun r => r = -2) := by
  refine Met.ofW (cc := cX6_get) (maxL := 5) (ret := some (.int)) (by decide) rfl ?_
  intro pz ez sz mz args below meth cz s₁ Bz hml hv
  obtain ⟨rfl, hP, hK, hD0, hN⟩ := hv
  have hx := Bz.exec
  have hb := Bz.bytes
  have hr := Bz.returns
  have hts := atoms_spec (ws := wsX6_get) Bz.pre
  have hown : sz.vm.findClass RX6 = some mz.cls := findClass_of_methodNamed Bz.named
  have hlocks := Bz.notSynchronized
  have hD := inW.self hD0
  have hS : va_S (inW [(m, .inr (6, [.int (nI bl), .int (nI bk), .int (nI b), .int (nI sp), .ref mn, .ref xr, .ref yr, .ref vr, .ref cr, .ref wr, .int (nI nc), .int (nI 1), .int f_ar, .ref wl, .ref wc, .int f_wt, .int f_lv, .int f_fi, .int f_en, .long f_cd, .ref rx, .ref ry, .ref rv, .ref fr, .int f_rs]))]) sz.heap sz.heap [] := va_S.rf
  have hl := lv_entry ([.ref m, .int s_, .int x, .int y]) (n := 5) (Nat.le_of_ble_eq_true rfl)
  rw [lg_entry_eq]
  generalize (lg_sl ([.ref m, .int s_, .int x, .int y]) ++ List.replicate (5 - (lg_sl ([.ref m, .int s_, .int x, .int y])).length) Slot.unset).toArray = ls at hl ⊢
  have hl : lv_has ls 5 [(0, .ref m), (1, .int s_), (2, .int x), (3, .int y)] := hl
  have lk105 := hts (.fieldLink RX6 105 "PointStoreModel" "isOff" "Z") (by decide +kernel)
  have hin6 : ∀ w ∈ u_ws RX6 TX6 25, w ∈ wsX6_get := by decide +kernel
  refine wQ (fun Q hQ => ?_)
  generalize hAe : inW [(m, .inr (6, [.int (nI bl), .int (nI bk), .int (nI b), .int (nI sp), .ref mn, .ref xr, .ref yr, .ref vr, .ref cr, .ref wr, .int (nI nc), .int (nI 1), .int f_ar, .ref wl, .ref wc, .int f_wt, .int f_lv, .int f_fi, .int f_en, .long f_cd, .ref rx, .ref ry, .ref rv, .ref fr, .int f_rs]))] = A_ at hD hS
  refine lv_aload_n hx hb dX6_get_0 rfl (lv_at hl 0 rfl) ?_
  refine va_get (D := X.1) (ci := 6) (v := .int (nI 1)) (C := RX6) (T := TX6) (N := 25) hx hb hts hin6 hown hK hP 0 rfl rfl 11 (by decide) lk105 (fun _ h9 => h9) rfl dX6_get_1 ?_
  refine lv_if_eq (tgt := 10) hx hb dX6_get_4 (by decide) (fun c_4 => ?_) (fun c_4 => ?_)
  · exact absurd c_4 (by decide)
  · skip
    refine lv_bipush (v := (-2)) hx hb dX6_get_7 (by decide) ?_
    refine wM hQ ?_
    exact rtRI hx hb hr hlocks (rfl) dX6_get_9
set_option maxHeartbeats 4000000 in
set_option maxRecDepth 100000 in
theorem c_X6_window_off (l : Launch) (X : kX) (m bl bk b sp mn xr yr vr cr wr nc wl wc rx ry rv fr : Nat) (f_ar f_wt f_lv f_fi f_en f_rs : Int32) (f_cd : Int64) (s_ x0 y0 x1 y1 : Int32) : CRi l X yX6_window wsX6_window 0 [.ref m, .int s_, .int x0, .int y0, .int x1, .int y1] [(m, .inr (6, [.int (nI bl), .int (nI bk), .int (nI b), .int (nI sp), .ref mn, .ref xr, .ref yr, .ref vr, .ref cr, .ref wr, .int (nI nc), .int (nI 1), .int f_ar, .ref wl, .ref wc, .int f_wt, .int f_lv, .int f_fi, .int f_en, .long f_cd, .ref rx, .ref ry, .ref rv, .ref fr, .int f_rs]))] (fun r => r = -2) := by
  refine Met.ofW (cc := cX6_window) (maxL := 9) (ret := some (.int)) (by decide) rfl ?_
  intro pz ez sz mz args below meth cz s₁ Bz hml hv
  obtain ⟨rfl, hP, hK, hD0, hN⟩ := hv
  have hx := Bz.exec
  have hb := Bz.bytes
  have hr := Bz.returns
  have hts := atoms_spec (ws := wsX6_window) Bz.pre
  have hown : sz.vm.findClass RX6 = some mz.cls := findClass_of_methodNamed Bz.named
  have hlocks := Bz.notSynchronized
  have hD := inW.self hD0
  have hS : va_S (inW [(m, .inr (6, [.int (nI bl), .int (nI bk), .int (nI b), .int (nI sp), .ref mn, .ref xr, .ref yr, .ref vr, .ref cr, .ref wr, .int (nI nc), .int (nI 1), .int f_ar, .ref wl, .ref wc, .int f_wt, .int f_lv, .int f_fi, .int f_en, .long f_cd, .ref rx, .ref ry, .ref rv, .ref fr, .int f_rs]))]) sz.heap sz.heap [] := va_S.rf
  have hl := lv_entry ([.ref m, .int s_, .int x0, .int y0, .int x1, .int y1]) (n := 9) (Nat.le_of_ble_eq_true rfl)
  rw [lg_entry_eq]
  generalize (lg_sl ([.ref m, .int s_, .int x0, .int y0, .int x1, .int y1]) ++ List.replicate (9 - (lg_sl ([.ref m, .int s_, .int x0, .int y0, .int x1, .int y1])).length) Slot.unset).toArray = ls at hl ⊢
  have hl : lv_has ls 9 [(0, .ref m), (1, .int s_), (2, .int x0), (3, .int y0), (4, .int x1), (5, .int y1)] := hl
  have lk105 := hts (.fieldLink RX6 105 "PointStoreModel" "isOff" "Z") (by decide +kernel)
  have hin6 : ∀ w ∈ u_ws RX6 TX6 25, w ∈ wsX6_window := by decide +kernel
  refine wQ (fun Q hQ => ?_)
  generalize hAe : inW [(m, .inr (6, [.int (nI bl), .int (nI bk), .int (nI b), .int (nI sp), .ref mn, .ref xr, .ref yr, .ref vr, .ref cr, .ref wr, .int (nI nc), .int (nI 1), .int f_ar, .ref wl, .ref wc, .int f_wt, .int f_lv, .int f_fi, .int f_en, .long f_cd, .ref rx, .ref ry, .ref rv, .ref fr, .int f_rs]))] = A_ at hD hS
  refine lv_aload_n hx hb dX6_window_0 rfl (lv_at hl 0 rfl) ?_
  refine va_get (D := X.1) (ci := 6) (v := .int (nI 1)) (C := RX6) (T := TX6) (N := 25) hx hb hts hin6 hown hK hP 0 rfl rfl 11 (by decide) lk105 (fun _ h9 => h9) rfl dX6_window_1 ?_
  refine lv_if_eq (tgt := 10) hx hb dX6_window_4 (by decide) (fun c_4 => ?_) (fun c_4 => ?_)
  · exact absurd c_4 (by decide)
  · skip
    refine lv_bipush (v := (-2)) hx hb dX6_window_7 (by decide) ?_
    refine wM hQ ?_
    exact rtRI hx hb hr hlocks (rfl) dX6_window_9
set_option maxHeartbeats 4000000 in
set_option maxRecDepth 100000 in
theorem c_X6_nearest_off (l : Launch) (X : kX) (m bl bk b sp mn xr yr vr cr wr nc wl wc rx ry rv fr : Nat) (f_ar f_wt f_lv f_fi f_en f_rs : Int32) (f_cd : Int64) (s_ x y kq : Int32) : CRi l X yX6_nearest wsX6_nearest 0 [.ref m, .int s_, .int x, .int y, .int kq] [(m, .inr (6, [.int (nI bl), .int (nI bk), .int (nI b), .int (nI sp), .ref mn, .ref xr, .ref yr, .ref vr, .ref cr, .ref wr, .int (nI nc), .int (nI 1), .int f_ar, .ref wl, .ref wc, .int f_wt, .int f_lv, .int f_fi, .int f_en, .long f_cd, .ref rx, .ref ry, .ref rv, .ref fr, .int f_rs]))] (fun r => r = -2) := by
  refine Met.ofW (cc := cX6_nearest) (maxL := 14) (ret := some (.int)) (by decide) rfl ?_
  intro pz ez sz mz args below meth cz s₁ Bz hml hv
  obtain ⟨rfl, hP, hK, hD0, hN⟩ := hv
  have hx := Bz.exec
  have hb := Bz.bytes
  have hr := Bz.returns
  have hts := atoms_spec (ws := wsX6_nearest) Bz.pre
  have hown : sz.vm.findClass RX6 = some mz.cls := findClass_of_methodNamed Bz.named
  have hlocks := Bz.notSynchronized
  have hD := inW.self hD0
  have hS : va_S (inW [(m, .inr (6, [.int (nI bl), .int (nI bk), .int (nI b), .int (nI sp), .ref mn, .ref xr, .ref yr, .ref vr, .ref cr, .ref wr, .int (nI nc), .int (nI 1), .int f_ar, .ref wl, .ref wc, .int f_wt, .int f_lv, .int f_fi, .int f_en, .long f_cd, .ref rx, .ref ry, .ref rv, .ref fr, .int f_rs]))]) sz.heap sz.heap [] := va_S.rf
  have hl := lv_entry ([.ref m, .int s_, .int x, .int y, .int kq]) (n := 14) (Nat.le_of_ble_eq_true rfl)
  rw [lg_entry_eq]
  generalize (lg_sl ([.ref m, .int s_, .int x, .int y, .int kq]) ++ List.replicate (14 - (lg_sl ([.ref m, .int s_, .int x, .int y, .int kq])).length) Slot.unset).toArray = ls at hl ⊢
  have hl : lv_has ls 14 [(0, .ref m), (1, .int s_), (2, .int x), (3, .int y), (4, .int kq)] := hl
  have lk105 := hts (.fieldLink RX6 105 "PointStoreModel" "isOff" "Z") (by decide +kernel)
  have hin6 : ∀ w ∈ u_ws RX6 TX6 25, w ∈ wsX6_nearest := by decide +kernel
  refine wQ (fun Q hQ => ?_)
  generalize hAe : inW [(m, .inr (6, [.int (nI bl), .int (nI bk), .int (nI b), .int (nI sp), .ref mn, .ref xr, .ref yr, .ref vr, .ref cr, .ref wr, .int (nI nc), .int (nI 1), .int f_ar, .ref wl, .ref wc, .int f_wt, .int f_lv, .int f_fi, .int f_en, .long f_cd, .ref rx, .ref ry, .ref rv, .ref fr, .int f_rs]))] = A_ at hD hS
  refine lv_aload_n hx hb dX6_nearest_0 rfl (lv_at hl 0 rfl) ?_
  refine va_get (D := X.1) (ci := 6) (v := .int (nI 1)) (C := RX6) (T := TX6) (N := 25) hx hb hts hin6 hown hK hP 0 rfl rfl 11 (by decide) lk105 (fun _ h9 => h9) rfl dX6_nearest_1 ?_
  refine lv_if_eq (tgt := 10) hx hb dX6_nearest_4 (by decide) (fun c_4 => ?_) (fun c_4 => ?_)
  · exact absurd c_4 (by decide)
  · skip
    refine lv_bipush (v := (-2)) hx hb dX6_nearest_7 (by decide) ?_
    refine wM hQ ?_
    exact rtRI hx hb hr hlocks (rfl) dX6_nearest_9
set_option maxHeartbeats 4000000 in
set_option maxRecDepth 100000 in
theorem c_X6_differs_off (l : Launch) (X : kX) (m bl bk b sp mn xr yr vr cr wr nc wl wc rx ry rv fr : Nat) (f_ar f_wt f_lv f_fi f_en f_rs : Int32) (f_cd : Int64) : CRi l X yX6_differs wsX6_differs 0 [.ref m] [(m, .inr (6, [.int (nI bl), .int (nI bk), .int (nI b), .int (nI sp), .ref mn, .ref xr, .ref yr, .ref vr, .ref cr, .ref wr, .int (nI nc), .int (nI 1), .int f_ar, .ref wl, .ref wc, .int f_wt, .int f_lv, .int f_fi, .int f_en, .long f_cd, .ref rx, .ref ry, .ref rv, .ref fr, .int f_rs]))] (fun r => r = -2) := by
  refine Met.ofW (cc := cX6_differs) (maxL := 7) (ret := some (.int)) (by decide) rfl ?_
  intro pz ez sz mz args below meth cz s₁ Bz hml hv
  obtain ⟨rfl, hP, hK, hD0, hN⟩ := hv
  have hx := Bz.exec
  have hb := Bz.bytes
  have hr := Bz.returns
  have hts := atoms_spec (ws := wsX6_differs) Bz.pre
  have hown : sz.vm.findClass RX6 = some mz.cls := findClass_of_methodNamed Bz.named
  have hlocks := Bz.notSynchronized
  have hD := inW.self hD0
  have hS : va_S (inW [(m, .inr (6, [.int (nI bl), .int (nI bk), .int (nI b), .int (nI sp), .ref mn, .ref xr, .ref yr, .ref vr, .ref cr, .ref wr, .int (nI nc), .int (nI 1), .int f_ar, .ref wl, .ref wc, .int f_wt, .int f_lv, .int f_fi, .int f_en, .long f_cd, .ref rx, .ref ry, .ref rv, .ref fr, .int f_rs]))]) sz.heap sz.heap [] := va_S.rf
  have hl := lv_entry ([.ref m]) (n := 7) (Nat.le_of_ble_eq_true rfl)
  rw [lg_entry_eq]
  generalize (lg_sl ([.ref m]) ++ List.replicate (7 - (lg_sl ([.ref m])).length) Slot.unset).toArray = ls at hl ⊢
  have hl : lv_has ls 7 [(0, .ref m)] := hl
  have lk105 := hts (.fieldLink RX6 105 "PointStoreModel" "isOff" "Z") (by decide +kernel)
  have hin6 : ∀ w ∈ u_ws RX6 TX6 25, w ∈ wsX6_differs := by decide +kernel
  refine wQ (fun Q hQ => ?_)
  generalize hAe : inW [(m, .inr (6, [.int (nI bl), .int (nI bk), .int (nI b), .int (nI sp), .ref mn, .ref xr, .ref yr, .ref vr, .ref cr, .ref wr, .int (nI nc), .int (nI 1), .int f_ar, .ref wl, .ref wc, .int f_wt, .int f_lv, .int f_fi, .int f_en, .long f_cd, .ref rx, .ref ry, .ref rv, .ref fr, .int f_rs]))] = A_ at hD hS
  refine lv_aload_n hx hb dX6_differs_0 rfl (lv_at hl 0 rfl) ?_
  refine va_get (D := X.1) (ci := 6) (v := .int (nI 1)) (C := RX6) (T := TX6) (N := 25) hx hb hts hin6 hown hK hP 0 rfl rfl 11 (by decide) lk105 (fun _ h9 => h9) rfl dX6_differs_1 ?_
  refine lv_if_eq (tgt := 10) hx hb dX6_differs_4 (by decide) (fun c_4 => ?_) (fun c_4 => ?_)
  · exact absurd c_4 (by decide)
  · skip
    refine lv_bipush (v := (-2)) hx hb dX6_differs_7 (by decide) ?_
    refine wM hQ ?_
    exact rtRI hx hb hr hlocks (rfl) dX6_differs_9
set_option maxHeartbeats 4000000 in
set_option maxRecDepth 100000 in
theorem c_X6_commit_off (l : Launch) (X : kX) (m bl bk b sp mn xr yr vr cr wr nc wl wc rx ry rv fr : Nat) (f_ar f_wt f_lv f_fi f_en f_rs : Int32) (f_cd : Int64) : CRi l X yX6_commit wsX6_commit 0 [.ref m] [(m, .inr (6, [.int (nI bl), .int (nI bk), .int (nI b), .int (nI sp), .ref mn, .ref xr, .ref yr, .ref vr, .ref cr, .ref wr, .int (nI nc), .int (nI 1), .int f_ar, .ref wl, .ref wc, .int f_wt, .int f_lv, .int f_fi, .int f_en, .long f_cd, .ref rx, .ref ry, .ref rv, .ref fr, .int f_rs]))] (fun r => r = -2) := by
  refine Met.ofW (cc := cX6_commit) (maxL := 2) (ret := some (.int)) (by decide) rfl ?_
  intro pz ez sz mz args below meth cz s₁ Bz hml hv
  obtain ⟨rfl, hP, hK, hD0, hN⟩ := hv
  have hx := Bz.exec
  have hb := Bz.bytes
  have hr := Bz.returns
  have hts := atoms_spec (ws := wsX6_commit) Bz.pre
  have hown : sz.vm.findClass RX6 = some mz.cls := findClass_of_methodNamed Bz.named
  have hlocks := Bz.notSynchronized
  have hD := inW.self hD0
  have hS : va_S (inW [(m, .inr (6, [.int (nI bl), .int (nI bk), .int (nI b), .int (nI sp), .ref mn, .ref xr, .ref yr, .ref vr, .ref cr, .ref wr, .int (nI nc), .int (nI 1), .int f_ar, .ref wl, .ref wc, .int f_wt, .int f_lv, .int f_fi, .int f_en, .long f_cd, .ref rx, .ref ry, .ref rv, .ref fr, .int f_rs]))]) sz.heap sz.heap [] := va_S.rf
  have hl := lv_entry ([.ref m]) (n := 2) (Nat.le_of_ble_eq_true rfl)
  rw [lg_entry_eq]
  generalize (lg_sl ([.ref m]) ++ List.replicate (2 - (lg_sl ([.ref m])).length) Slot.unset).toArray = ls at hl ⊢
  have hl : lv_has ls 2 [(0, .ref m)] := hl
  have lk105 := hts (.fieldLink RX6 105 "PointStoreModel" "isOff" "Z") (by decide +kernel)
  have hin6 : ∀ w ∈ u_ws RX6 TX6 25, w ∈ wsX6_commit := by decide +kernel
  refine wQ (fun Q hQ => ?_)
  generalize hAe : inW [(m, .inr (6, [.int (nI bl), .int (nI bk), .int (nI b), .int (nI sp), .ref mn, .ref xr, .ref yr, .ref vr, .ref cr, .ref wr, .int (nI nc), .int (nI 1), .int f_ar, .ref wl, .ref wc, .int f_wt, .int f_lv, .int f_fi, .int f_en, .long f_cd, .ref rx, .ref ry, .ref rv, .ref fr, .int f_rs]))] = A_ at hD hS
  refine lv_aload_n hx hb dX6_commit_0 rfl (lv_at hl 0 rfl) ?_
  refine va_get (D := X.1) (ci := 6) (v := .int (nI 1)) (C := RX6) (T := TX6) (N := 25) hx hb hts hin6 hown hK hP 0 rfl rfl 11 (by decide) lk105 (fun _ h9 => h9) rfl dX6_commit_1 ?_
  refine lv_if_eq (tgt := 10) hx hb dX6_commit_4 (by decide) (fun c_4 => ?_) (fun c_4 => ?_)
  · exact absurd c_4 (by decide)
  · skip
    refine lv_bipush (v := (-2)) hx hb dX6_commit_7 (by decide) ?_
    refine wM hQ ?_
    exact rtRI hx hb hr hlocks (rfl) dX6_commit_9
set_option maxHeartbeats 4000000 in
set_option maxRecDepth 100000 in
theorem c_X6_abort_off (l : Launch) (X : kX) (m bl bk b sp mn xr yr vr cr wr nc wl wc rx ry rv fr : Nat) (f_ar f_wt f_lv f_fi f_en f_rs : Int32) (f_cd : Int64) : CRi l X yX6_abort wsX6_abort 0 [.ref m] [(m, .inr (6, [.int (nI bl), .int (nI bk), .int (nI b), .int (nI sp), .ref mn, .ref xr, .ref yr, .ref vr, .ref cr, .ref wr, .int (nI nc), .int (nI 1), .int f_ar, .ref wl, .ref wc, .int f_wt, .int f_lv, .int f_fi, .int f_en, .long f_cd, .ref rx, .ref ry, .ref rv, .ref fr, .int f_rs]))] (fun r => r = -2) := by
  refine Met.ofW (cc := cX6_abort) (maxL := 2) (ret := some (.int)) (by decide) rfl ?_
  intro pz ez sz mz args below meth cz s₁ Bz hml hv
  obtain ⟨rfl, hP, hK, hD0, hN⟩ := hv
  have hx := Bz.exec
  have hb := Bz.bytes
  have hr := Bz.returns
  have hts := atoms_spec (ws := wsX6_abort) Bz.pre
  have hown : sz.vm.findClass RX6 = some mz.cls := findClass_of_methodNamed Bz.named
  have hlocks := Bz.notSynchronized
  have hD := inW.self hD0
  have hS : va_S (inW [(m, .inr (6, [.int (nI bl), .int (nI bk), .int (nI b), .int (nI sp), .ref mn, .ref xr, .ref yr, .ref vr, .ref cr, .ref wr, .int (nI nc), .int (nI 1), .int f_ar, .ref wl, .ref wc, .int f_wt, .int f_lv, .int f_fi, .int f_en, .long f_cd, .ref rx, .ref ry, .ref rv, .ref fr, .int f_rs]))]) sz.heap sz.heap [] := va_S.rf
  have hl := lv_entry ([.ref m]) (n := 2) (Nat.le_of_ble_eq_true rfl)
  rw [lg_entry_eq]
  generalize (lg_sl ([.ref m]) ++ List.replicate (2 - (lg_sl ([.ref m])).length) Slot.unset).toArray = ls at hl ⊢
  have hl : lv_has ls 2 [(0, .ref m)] := hl
  have lk105 := hts (.fieldLink RX6 105 "PointStoreModel" "isOff" "Z") (by decide +kernel)
  have hin6 : ∀ w ∈ u_ws RX6 TX6 25, w ∈ wsX6_abort := by decide +kernel
  refine wQ (fun Q hQ => ?_)
  generalize hAe : inW [(m, .inr (6, [.int (nI bl), .int (nI bk), .int (nI b), .int (nI sp), .ref mn, .ref xr, .ref yr, .ref vr, .ref cr, .ref wr, .int (nI nc), .int (nI 1), .int f_ar, .ref wl, .ref wc, .int f_wt, .int f_lv, .int f_fi, .int f_en, .long f_cd, .ref rx, .ref ry, .ref rv, .ref fr, .int f_rs]))] = A_ at hD hS
  refine lv_aload_n hx hb dX6_abort_0 rfl (lv_at hl 0 rfl) ?_
  refine va_get (D := X.1) (ci := 6) (v := .int (nI 1)) (C := RX6) (T := TX6) (N := 25) hx hb hts hin6 hown hK hP 0 rfl rfl 11 (by decide) lk105 (fun _ h9 => h9) rfl dX6_abort_1 ?_
  refine lv_if_eq (tgt := 10) hx hb dX6_abort_4 (by decide) (fun c_4 => ?_) (fun c_4 => ?_)
  · exact absurd c_4 (by decide)
  · skip
    refine lv_bipush (v := (-2)) hx hb dX6_abort_7 (by decide) ?_
    refine wM hQ ?_
    exact rtRI hx hb hr hlocks (rfl) dX6_abort_9
set_option maxHeartbeats 4000000 in
set_option maxRecDepth 100000 in
theorem c_X6_format_off (l : Launch) (X : kX) (m bl bk b sp mn xr yr vr cr wr nc wl wc rx ry rv fr : Nat) (f_ar f_wt f_lv f_fi f_en f_rs : Int32) (f_cd : Int64) : CRi l X yX6_format wsX6_format 0 [.ref m] [(m, .inr (6, [.int (nI bl), .int (nI bk), .int (nI b), .int (nI sp), .ref mn, .ref xr, .ref yr, .ref vr, .ref cr, .ref wr, .int (nI nc), .int (nI 1), .int f_ar, .ref wl, .ref wc, .int f_wt, .int f_lv, .int f_fi, .int f_en, .long f_cd, .ref rx, .ref ry, .ref rv, .ref fr, .int f_rs]))] (fun r => r = -2) := by
  refine Met.ofW (cc := cX6_format) (maxL := 1) (ret := some (.int)) (by decide) rfl ?_
  intro pz ez sz mz args below meth cz s₁ Bz hml hv
  obtain ⟨rfl, hP, hK, hD0, hN⟩ := hv
  have hx := Bz.exec
  have hb := Bz.bytes
  have hr := Bz.returns
  have hts := atoms_spec (ws := wsX6_format) Bz.pre
  have hown : sz.vm.findClass RX6 = some mz.cls := findClass_of_methodNamed Bz.named
  have hlocks := Bz.notSynchronized
  have hD := inW.self hD0
  have hS : va_S (inW [(m, .inr (6, [.int (nI bl), .int (nI bk), .int (nI b), .int (nI sp), .ref mn, .ref xr, .ref yr, .ref vr, .ref cr, .ref wr, .int (nI nc), .int (nI 1), .int f_ar, .ref wl, .ref wc, .int f_wt, .int f_lv, .int f_fi, .int f_en, .long f_cd, .ref rx, .ref ry, .ref rv, .ref fr, .int f_rs]))]) sz.heap sz.heap [] := va_S.rf
  have hl := lv_entry ([.ref m]) (n := 1) (Nat.le_of_ble_eq_true rfl)
  rw [lg_entry_eq]
  generalize (lg_sl ([.ref m]) ++ List.replicate (1 - (lg_sl ([.ref m])).length) Slot.unset).toArray = ls at hl ⊢
  have hl : lv_has ls 1 [(0, .ref m)] := hl
  have lk105 := hts (.fieldLink RX6 105 "PointStoreModel" "isOff" "Z") (by decide +kernel)
  have hin6 : ∀ w ∈ u_ws RX6 TX6 25, w ∈ wsX6_format := by decide +kernel
  refine wQ (fun Q hQ => ?_)
  generalize hAe : inW [(m, .inr (6, [.int (nI bl), .int (nI bk), .int (nI b), .int (nI sp), .ref mn, .ref xr, .ref yr, .ref vr, .ref cr, .ref wr, .int (nI nc), .int (nI 1), .int f_ar, .ref wl, .ref wc, .int f_wt, .int f_lv, .int f_fi, .int f_en, .long f_cd, .ref rx, .ref ry, .ref rv, .ref fr, .int f_rs]))] = A_ at hD hS
  refine lv_aload_n hx hb dX6_format_0 rfl (lv_at hl 0 rfl) ?_
  refine va_get (D := X.1) (ci := 6) (v := .int (nI 1)) (C := RX6) (T := TX6) (N := 25) hx hb hts hin6 hown hK hP 0 rfl rfl 11 (by decide) lk105 (fun _ h9 => h9) rfl dX6_format_1 ?_
  refine lv_if_eq (tgt := 10) hx hb dX6_format_4 (by decide) (fun c_4 => ?_) (fun c_4 => ?_)
  · exact absurd c_4 (by decide)
  · skip
    refine lv_bipush (v := (-2)) hx hb dX6_format_7 (by decide) ?_
    refine wM hQ ?_
    exact rtRI hx hb hr hlocks (rfl) dX6_format_9
set_option maxHeartbeats 4000000 in
set_option maxRecDepth 100000 in
theorem c_X6_node_off (l : Launch) (X : kX) (m bl bk b sp mn xr yr vr cr wr nc wl wc rx ry rv fr : Nat) (f_ar f_wt f_lv f_fi f_en f_rs : Int32) (f_cd : Int64) (s_ x y : Int32) : CRi l X yX6_node wsX6_node 0 [.ref m, .int s_, .int x, .int y] [(m, .inr (6, [.int (nI bl), .int (nI bk), .int (nI b), .int (nI sp), .ref mn, .ref xr, .ref yr, .ref vr, .ref cr, .ref wr, .int (nI nc), .int (nI 1), .int f_ar, .ref wl, .ref wc, .int f_wt, .int f_lv, .int f_fi, .int f_en, .long f_cd, .ref rx, .ref ry, .ref rv, .ref fr, .int f_rs]))] (fun r => r = -2) := by
  refine Met.ofW (cc := cX6_node) (maxL := 6) (ret := some (.int)) (by decide) rfl ?_
  intro pz ez sz mz args below meth cz s₁ Bz hml hv
  obtain ⟨rfl, hP, hK, hD0, hN⟩ := hv
  have hx := Bz.exec
  have hb := Bz.bytes
  have hr := Bz.returns
  have hts := atoms_spec (ws := wsX6_node) Bz.pre
  have hown : sz.vm.findClass RX6 = some mz.cls := findClass_of_methodNamed Bz.named
  have hlocks := Bz.notSynchronized
  have hD := inW.self hD0
  have hS : va_S (inW [(m, .inr (6, [.int (nI bl), .int (nI bk), .int (nI b), .int (nI sp), .ref mn, .ref xr, .ref yr, .ref vr, .ref cr, .ref wr, .int (nI nc), .int (nI 1), .int f_ar, .ref wl, .ref wc, .int f_wt, .int f_lv, .int f_fi, .int f_en, .long f_cd, .ref rx, .ref ry, .ref rv, .ref fr, .int f_rs]))]) sz.heap sz.heap [] := va_S.rf
  have hl := lv_entry ([.ref m, .int s_, .int x, .int y]) (n := 6) (Nat.le_of_ble_eq_true rfl)
  rw [lg_entry_eq]
  generalize (lg_sl ([.ref m, .int s_, .int x, .int y]) ++ List.replicate (6 - (lg_sl ([.ref m, .int s_, .int x, .int y])).length) Slot.unset).toArray = ls at hl ⊢
  have hl : lv_has ls 6 [(0, .ref m), (1, .int s_), (2, .int x), (3, .int y)] := hl
  have lk105 := hts (.fieldLink RX6 105 "PointStoreModel" "isOff" "Z") (by decide +kernel)
  have hin6 : ∀ w ∈ u_ws RX6 TX6 25, w ∈ wsX6_node := by decide +kernel
  refine wQ (fun Q hQ => ?_)
  generalize hAe : inW [(m, .inr (6, [.int (nI bl), .int (nI bk), .int (nI b), .int (nI sp), .ref mn, .ref xr, .ref yr, .ref vr, .ref cr, .ref wr, .int (nI nc), .int (nI 1), .int f_ar, .ref wl, .ref wc, .int f_wt, .int f_lv, .int f_fi, .int f_en, .long f_cd, .ref rx, .ref ry, .ref rv, .ref fr, .int f_rs]))] = A_ at hD hS
  refine lv_aload_n hx hb dX6_node_0 rfl (lv_at hl 0 rfl) ?_
  refine va_get (D := X.1) (ci := 6) (v := .int (nI 1)) (C := RX6) (T := TX6) (N := 25) hx hb hts hin6 hown hK hP 0 rfl rfl 11 (by decide) lk105 (fun _ h9 => h9) rfl dX6_node_1 ?_
  refine lv_if_eq (tgt := 10) hx hb dX6_node_4 (by decide) (fun c_4 => ?_) (fun c_4 => ?_)
  · exact absurd c_4 (by decide)
  · skip
    refine lv_bipush (v := (-2)) hx hb dX6_node_7 (by decide) ?_
    refine wM hQ ?_
    exact rtRI hx hb hr hlocks (rfl) dX6_node_9
set_option maxHeartbeats 4000000 in
set_option maxRecDepth 100000 in
theorem c_X6_count_off (l : Launch) (X : kX) (m bl bk b sp mn xr yr vr cr wr nc wl wc rx ry rv fr : Nat) (f_ar f_wt f_lv f_fi f_en f_rs : Int32) (f_cd : Int64) (x : Int32) : CRi l X yX6_count wsX6_count 0 [.ref m, .int x] [(m, .inr (6, [.int (nI bl), .int (nI bk), .int (nI b), .int (nI sp), .ref mn, .ref xr, .ref yr, .ref vr, .ref cr, .ref wr, .int (nI nc), .int (nI 1), .int f_ar, .ref wl, .ref wc, .int f_wt, .int f_lv, .int f_fi, .int f_en, .long f_cd, .ref rx, .ref ry, .ref rv, .ref fr, .int f_rs]))] (fun r => r = -2) := by
  refine Met.ofW (cc := cX6_count) (maxL := 2) (ret := some (.int)) (by decide) rfl ?_
  intro pz ez sz mz args below meth cz s₁ Bz hml hv
  obtain ⟨rfl, hP, hK, hD0, hN⟩ := hv
  have hx := Bz.exec
  have hb := Bz.bytes
  have hr := Bz.returns
  have hts := atoms_spec (ws := wsX6_count) Bz.pre
  have hown : sz.vm.findClass RX6 = some mz.cls := findClass_of_methodNamed Bz.named
  have hlocks := Bz.notSynchronized
  have hD := inW.self hD0
  have hS : va_S (inW [(m, .inr (6, [.int (nI bl), .int (nI bk), .int (nI b), .int (nI sp), .ref mn, .ref xr, .ref yr, .ref vr, .ref cr, .ref wr, .int (nI nc), .int (nI 1), .int f_ar, .ref wl, .ref wc, .int f_wt, .int f_lv, .int f_fi, .int f_en, .long f_cd, .ref rx, .ref ry, .ref rv, .ref fr, .int f_rs]))]) sz.heap sz.heap [] := va_S.rf
  have hl := lv_entry ([.ref m, .int x]) (n := 2) (Nat.le_of_ble_eq_true rfl)
  rw [lg_entry_eq]
  generalize (lg_sl ([.ref m, .int x]) ++ List.replicate (2 - (lg_sl ([.ref m, .int x])).length) Slot.unset).toArray = ls at hl ⊢
  have hl : lv_has ls 2 [(0, .ref m), (1, .int x)] := hl
  have lk105 := hts (.fieldLink RX6 105 "PointStoreModel" "isOff" "Z") (by decide +kernel)
  have hin6 : ∀ w ∈ u_ws RX6 TX6 25, w ∈ wsX6_count := by decide +kernel
  refine wQ (fun Q hQ => ?_)
  generalize hAe : inW [(m, .inr (6, [.int (nI bl), .int (nI bk), .int (nI b), .int (nI sp), .ref mn, .ref xr, .ref yr, .ref vr, .ref cr, .ref wr, .int (nI nc), .int (nI 1), .int f_ar, .ref wl, .ref wc, .int f_wt, .int f_lv, .int f_fi, .int f_en, .long f_cd, .ref rx, .ref ry, .ref rv, .ref fr, .int f_rs]))] = A_ at hD hS
  refine lv_aload_n hx hb dX6_count_0 rfl (lv_at hl 0 rfl) ?_
  refine va_get (D := X.1) (ci := 6) (v := .int (nI 1)) (C := RX6) (T := TX6) (N := 25) hx hb hts hin6 hown hK hP 0 rfl rfl 11 (by decide) lk105 (fun _ h9 => h9) rfl dX6_count_1 ?_
  refine lv_if_eq (tgt := 10) hx hb dX6_count_4 (by decide) (fun c_4 => ?_) (fun c_4 => ?_)
  · exact absurd c_4 (by decide)
  · skip
    refine lv_bipush (v := (-2)) hx hb dX6_count_7 (by decide) ?_
    refine wM hQ ?_
    exact rtRI hx hb hr hlocks (rfl) dX6_count_9
set_option maxHeartbeats 4000000 in
set_option maxRecDepth 100000 in
theorem c_X6_sum_off (l : Launch) (X : kX) (m bl bk b sp mn xr yr vr cr wr nc wl wc rx ry rv fr : Nat) (f_ar f_wt f_lv f_fi f_en f_rs : Int32) (f_cd : Int64) (s_ x0 y0 x1 y1 : Int32) : CRl l X yX6_sum wsX6_sum 0 [.ref m, .int s_, .int x0, .int y0, .int x1, .int y1] [(m, .inr (6, [.int (nI bl), .int (nI bk), .int (nI b), .int (nI sp), .ref mn, .ref xr, .ref yr, .ref vr, .ref cr, .ref wr, .int (nI nc), .int (nI 1), .int f_ar, .ref wl, .ref wc, .int f_wt, .int f_lv, .int f_fi, .int f_en, .long f_cd, .ref rx, .ref ry, .ref rv, .ref fr, .int f_rs]))] (fun r => r = -2) := by
  refine Met.ofW (cc := cX6_sum) (maxL := 10) (ret := some (.long)) (by decide) rfl ?_
  intro pz ez sz mz args below meth cz s₁ Bz hml hv
  obtain ⟨rfl, hP, hK, hD0, hN⟩ := hv
  have hx := Bz.exec
  have hb := Bz.bytes
  have hr := Bz.returns
  have hts := atoms_spec (ws := wsX6_sum) Bz.pre
  have hown : sz.vm.findClass RX6 = some mz.cls := findClass_of_methodNamed Bz.named
  have hlocks := Bz.notSynchronized
  have hD := inW.self hD0
  have hS : va_S (inW [(m, .inr (6, [.int (nI bl), .int (nI bk), .int (nI b), .int (nI sp), .ref mn, .ref xr, .ref yr, .ref vr, .ref cr, .ref wr, .int (nI nc), .int (nI 1), .int f_ar, .ref wl, .ref wc, .int f_wt, .int f_lv, .int f_fi, .int f_en, .long f_cd, .ref rx, .ref ry, .ref rv, .ref fr, .int f_rs]))]) sz.heap sz.heap [] := va_S.rf
  have hl := lv_entry ([.ref m, .int s_, .int x0, .int y0, .int x1, .int y1]) (n := 10) (Nat.le_of_ble_eq_true rfl)
  rw [lg_entry_eq]
  generalize (lg_sl ([.ref m, .int s_, .int x0, .int y0, .int x1, .int y1]) ++ List.replicate (10 - (lg_sl ([.ref m, .int s_, .int x0, .int y0, .int x1, .int y1])).length) Slot.unset).toArray = ls at hl ⊢
  have hl : lv_has ls 10 [(0, .ref m), (1, .int s_), (2, .int x0), (3, .int y0), (4, .int x1), (5, .int y1)] := hl
  have lk105 := hts (.fieldLink RX6 105 "PointStoreModel" "isOff" "Z") (by decide +kernel)
  have hin6 : ∀ w ∈ u_ws RX6 TX6 25, w ∈ wsX6_sum := by decide +kernel
  refine wQ (fun Q hQ => ?_)
  generalize hAe : inW [(m, .inr (6, [.int (nI bl), .int (nI bk), .int (nI b), .int (nI sp), .ref mn, .ref xr, .ref yr, .ref vr, .ref cr, .ref wr, .int (nI nc), .int (nI 1), .int f_ar, .ref wl, .ref wc, .int f_wt, .int f_lv, .int f_fi, .int f_en, .long f_cd, .ref rx, .ref ry, .ref rv, .ref fr, .int f_rs]))] = A_ at hD hS
  refine lv_aload_n hx hb dX6_sum_0 rfl (lv_at hl 0 rfl) ?_
  refine va_get (D := X.1) (ci := 6) (v := .int (nI 1)) (C := RX6) (T := TX6) (N := 25) hx hb hts hin6 hown hK hP 0 rfl rfl 11 (by decide) lk105 (fun _ h9 => h9) rfl dX6_sum_1 ?_
  refine lv_if_eq (tgt := 11) hx hb dX6_sum_4 (by decide) (fun c_4 => ?_) (fun c_4 => ?_)
  · exact absurd c_4 (by decide)
  · skip
    refine lv_ldc2 (v := -2) hx hb hown (hts (.constantLong RX6 143 (-2)) (by decide +kernel)) dX6_sum_7 ?_
    refine wM hQ ?_
    exact rtRL hx hb hr hlocks (rfl) dX6_sum_10
set_option maxHeartbeats 4000000 in
set_option maxRecDepth 100000 in
theorem c_X6_size (l : Launch) (X : kX) (m bl bk b sp mn xr yr vr cr wr nc wl wc rx ry rv fr : Nat) (f_of f_ar f_wt f_lv f_fi f_en : Int32) (f_cd : Int64) (n : Nat) : CRi l X yX6_size wsX6_size 0 [.ref m] [(m, .inr (6, [.int (nI bl), .int (nI bk), .int (nI b), .int (nI sp), .ref mn, .ref xr, .ref yr, .ref vr, .ref cr, .ref wr, .int (nI nc), .int f_of, .int f_ar, .ref wl, .ref wc, .int f_wt, .int f_lv, .int f_fi, .int f_en, .long f_cd, .ref rx, .ref ry, .ref rv, .ref fr, .int (nI n)]))] (fun r => r = nI n) := by
  refine Met.ofW (cc := cX6_size) (maxL := 1) (ret := some (.int)) (by decide) rfl ?_
  intro pz ez sz mz args below meth cz s₁ Bz hml hv
  obtain ⟨rfl, hP, hK, hD0, hN⟩ := hv
  have hx := Bz.exec
  have hb := Bz.bytes
  have hr := Bz.returns
  have hts := atoms_spec (ws := wsX6_size) Bz.pre
  have hown : sz.vm.findClass RX6 = some mz.cls := findClass_of_methodNamed Bz.named
  have hlocks := Bz.notSynchronized
  have hD := inW.self hD0
  have hS : va_S (inW [(m, .inr (6, [.int (nI bl), .int (nI bk), .int (nI b), .int (nI sp), .ref mn, .ref xr, .ref yr, .ref vr, .ref cr, .ref wr, .int (nI nc), .int f_of, .int f_ar, .ref wl, .ref wc, .int f_wt, .int f_lv, .int f_fi, .int f_en, .long f_cd, .ref rx, .ref ry, .ref rv, .ref fr, .int (nI n)]))]) sz.heap sz.heap [] := va_S.rf
  have hl := lv_entry ([.ref m]) (n := 1) (Nat.le_of_ble_eq_true rfl)
  rw [lg_entry_eq]
  generalize (lg_sl ([.ref m]) ++ List.replicate (1 - (lg_sl ([.ref m])).length) Slot.unset).toArray = ls at hl ⊢
  have hl : lv_has ls 1 [(0, .ref m)] := hl
  have lk137 := hts (.fieldLink RX6 137 "PointStoreModel" "results" "I") (by decide +kernel)
  have hin6 : ∀ w ∈ u_ws RX6 TX6 25, w ∈ wsX6_size := by decide +kernel
  refine wQ (fun Q hQ => ?_)
  generalize hAe : inW [(m, .inr (6, [.int (nI bl), .int (nI bk), .int (nI b), .int (nI sp), .ref mn, .ref xr, .ref yr, .ref vr, .ref cr, .ref wr, .int (nI nc), .int f_of, .int f_ar, .ref wl, .ref wc, .int f_wt, .int f_lv, .int f_fi, .int f_en, .long f_cd, .ref rx, .ref ry, .ref rv, .ref fr, .int (nI n)]))] = A_ at hD hS
  refine lv_aload_n hx hb dX6_size_0 rfl (lv_at hl 0 rfl) ?_
  refine va_get (D := X.1) (ci := 6) (v := .int (nI n)) (C := RX6) (T := TX6) (N := 25) hx hb hts hin6 hown hK hP 0 rfl rfl 24 (by decide) lk137 (fun _ h9 => h9) rfl dX6_size_1 ?_
  refine wM hQ ?_
  exact rtRI hx hb hr hlocks (rfl) dX6_size_4
set_option maxHeartbeats 4000000 in
set_option maxRecDepth 100000 in
theorem c_X6_result (l : Launch) (X : kX) (m bl bk b sp mn xr yr vr cr wr nc wl wc rx ry rv fr : Nat) (f_of f_ar f_wt f_lv f_fi f_en : Int32) (f_cd : Int64) (i q : Int32) (rxf ryf rvf : Nat → Int32) (R : RSL) (h : mR rxf ryf rvf R) : CRi l X yX6_result wsX6_result 0 [.ref m, .int i, .int q] [(m, .inr (6, [.int (nI bl), .int (nI bk), .int (nI b), .int (nI sp), .ref mn, .ref xr, .ref yr, .ref vr, .ref cr, .ref wr, .int (nI nc), .int f_of, .int f_ar, .ref wl, .ref wc, .int f_wt, .int f_lv, .int f_fi, .int f_en, .long f_cd, .ref rx, .ref ry, .ref rv, .ref fr, .int (nI R.length)])), (rx, .inl (X.2.1, 150, .inl rxf)), (ry, .inl (X.2.1, 150, .inl ryf)), (rv, .inl (X.2.1, 150, .inl rvf))] (fun r => r = resV R i q) := by
  refine Met.ofW (cc := cX6_result) (maxL := 3) (ret := some (.int)) (by decide) rfl ?_
  intro pz ez sz mz args below meth cz s₁ Bz hml hv
  obtain ⟨rfl, hP, hK, hD0, hN⟩ := hv
  have hx := Bz.exec
  have hb := Bz.bytes
  have hr := Bz.returns
  have hts := atoms_spec (ws := wsX6_result) Bz.pre
  have hown : sz.vm.findClass RX6 = some mz.cls := findClass_of_methodNamed Bz.named
  have hlocks := Bz.notSynchronized
  have hD := inW.self hD0
  have hS : va_S (inW [(m, .inr (6, [.int (nI bl), .int (nI bk), .int (nI b), .int (nI sp), .ref mn, .ref xr, .ref yr, .ref vr, .ref cr, .ref wr, .int (nI nc), .int f_of, .int f_ar, .ref wl, .ref wc, .int f_wt, .int f_lv, .int f_fi, .int f_en, .long f_cd, .ref rx, .ref ry, .ref rv, .ref fr, .int (nI R.length)])), (rx, .inl (X.2.1, 150, .inl rxf)), (ry, .inl (X.2.1, 150, .inl ryf)), (rv, .inl (X.2.1, 150, .inl rvf))]) sz.heap sz.heap [] := va_S.rf
  have hl := lv_entry ([.ref m, .int i, .int q]) (n := 3) (Nat.le_of_ble_eq_true rfl)
  rw [lg_entry_eq]
  generalize (lg_sl ([.ref m, .int i, .int q]) ++ List.replicate (3 - (lg_sl ([.ref m, .int i, .int q])).length) Slot.unset).toArray = ls at hl ⊢
  have hl : lv_has ls 3 [(0, .ref m), (1, .int i), (2, .int q)] := hl
  have lk39 := hts (.fieldLink RX6 39 "PointStoreModel" "resultX" "[I") (by decide +kernel)
  have lk42 := hts (.fieldLink RX6 42 "PointStoreModel" "resultY" "[I") (by decide +kernel)
  have lk45 := hts (.fieldLink RX6 45 "PointStoreModel" "resultValue" "[I") (by decide +kernel)
  have lk137 := hts (.fieldLink RX6 137 "PointStoreModel" "results" "I") (by decide +kernel)
  have hin6 : ∀ w ∈ u_ws RX6 TX6 25, w ∈ wsX6_result := by decide +kernel
  refine wQ (fun Q hQ => ?_)
  generalize hAe : inW [(m, .inr (6, [.int (nI bl), .int (nI bk), .int (nI b), .int (nI sp), .ref mn, .ref xr, .ref yr, .ref vr, .ref cr, .ref wr, .int (nI nc), .int f_of, .int f_ar, .ref wl, .ref wc, .int f_wt, .int f_lv, .int f_fi, .int f_en, .long f_cd, .ref rx, .ref ry, .ref rv, .ref fr, .int (nI R.length)])), (rx, .inl (X.2.1, 150, .inl rxf)), (ry, .inl (X.2.1, 150, .inl ryf)), (rv, .inl (X.2.1, 150, .inl rvf))] = A_ at hD hS
  refine lv_iload_n hx hb dX6_result_0 rfl (lv_at hl 1 rfl) ?_
  refine lv_if_lt (tgt := 12) hx hb dX6_result_1 (by decide) (fun c_1 => ?_) (fun c_1 => ?_)
  · skip
    refine lv_iconst (v := (-1)) hx hb dX6_result_12 (by decide) ?_
    refine wM hQ ?_
    exact rtRI hx hb hr hlocks ((by show _ = _; unfold resV; rw [cif_neg (fun z => by first | exact z.1 c_1 | exact c_9 z.2)])) dX6_result_13
  · skip
    refine lv_iload_n hx hb dX6_result_4 rfl (lv_at hl 1 rfl) ?_
    refine lv_aload_n hx hb dX6_result_5 rfl (lv_at hl 0 rfl) ?_
    refine va_get (D := X.1) (ci := 6) (v := .int (nI R.length)) (C := RX6) (T := TX6) (N := 25) hx hb hts hin6 hown hK hP 0 rfl rfl 24 (by decide) lk137 (fun _ h9 => h9) rfl dX6_result_6 ?_
    refine lv_icmp_lt (tgt := 14) hx hb dX6_result_9 (by decide) (fun c_9 => ?_) (fun c_9 => ?_)
    · skip
      obtain ⟨j, hj, rfl⟩ := nI_of c_1
      have hR := h.1
      have hj2 : j < R.length := (nI_ltI (by omega) (by omega)).mp c_9
      have hjk := h.2 j hj2
      · skip
        refine lv_iload_n hx hb dX6_result_14 rfl (lv_at hl 2 rfl) ?_
        refine lv_if_ne (tgt := 27) hx hb dX6_result_15 (by decide) (fun c_15 => ?_) (fun c_15 => ?_)
        · skip
          refine lv_iload_n hx hb dX6_result_27 rfl (lv_at hl 2 rfl) ?_
          refine lv_iconst (v := nI 1) hx hb dX6_result_28 (by decide) ?_
          refine lv_icmp_ne (tgt := 41) hx hb dX6_result_29 (by decide) (fun c_29 => ?_) (fun c_29 => ?_)
          · skip
            refine lv_iload_n hx hb dX6_result_41 rfl (lv_at hl 2 rfl) ?_
            refine lv_iconst (v := nI 2) hx hb dX6_result_42 (by decide) ?_
            refine lv_icmp_ne (tgt := 55) hx hb dX6_result_43 (by decide) (fun c_43 => ?_) (fun c_43 => ?_)
            · skip
              refine lv_iconst (v := (-1)) hx hb dX6_result_55 (by decide) ?_
              refine wM hQ ?_
              exact rtRI hx hb hr hlocks ((by show _ = _; unfold resV; rw [cif_pos ⟨c_1, c_9⟩, nI_clamp hj]; rw [cif_neg (show ¬ q = nI 0 from c_15), cif_neg c_29, cif_neg c_43])) dX6_result_56
            · skip
              refine lv_aload_n hx hb dX6_result_46 rfl (lv_at hl 0 rfl) ?_
              refine va_get (D := X.1) (ci := 6) (v := .ref rv) (C := RX6) (T := TX6) (N := 25) hx hb hts hin6 hown hK hP 0 rfl rfl 22 (by decide) lk45 (fun _ h9 => h9) rfl dX6_result_47 ?_
              refine lv_iload_n hx hb dX6_result_50 rfl (lv_at hl 1 rfl) ?_
              have hi_1 : vp_in (nI j) 150 := vp_in_nI (by omega) (by omega)
              refine va_iald hx hb hK hP 3 0 rfl rfl hi_1 dX6_result_51 ?_
              refine lv_topi (fun x_2 ex_2 => ?_)
              obtain rfl : x_2 = rvf j := by
                rw [ex_2]
                rw [nI_clamp (by omega)]
              refine lv_topi (fun x_3 ex_3 => ?_)
              obtain rfl : x_3 = (R.getD j (0, 0)).2 := by
                rw [ex_3]
                exact hjk.2.2
              refine lv_goto (tgt := 56) hx hb dX6_result_52 (by decide) ?_
              refine wM hQ ?_
              exact rtRI hx hb hr hlocks ((by show _ = _; unfold resV; rw [cif_pos ⟨c_1, c_9⟩, nI_clamp hj]; rw [cif_neg (show ¬ q = nI 0 from c_15), cif_neg c_29, cif_pos c_43])) dX6_result_56
          · skip
            refine lv_aload_n hx hb dX6_result_32 rfl (lv_at hl 0 rfl) ?_
            refine va_get (D := X.1) (ci := 6) (v := .ref ry) (C := RX6) (T := TX6) (N := 25) hx hb hts hin6 hown hK hP 0 rfl rfl 21 (by decide) lk42 (fun _ h9 => h9) rfl dX6_result_33 ?_
            refine lv_iload_n hx hb dX6_result_36 rfl (lv_at hl 1 rfl) ?_
            have hi_4 : vp_in (nI j) 150 := vp_in_nI (by omega) (by omega)
            refine va_iald hx hb hK hP 2 0 rfl rfl hi_4 dX6_result_37 ?_
            refine lv_topi (fun x_5 ex_5 => ?_)
            obtain rfl : x_5 = ryf j := by
              rw [ex_5]
              rw [nI_clamp (by omega)]
            refine lv_topi (fun x_6 ex_6 => ?_)
            obtain rfl : x_6 = nI ((R.getD j (0, 0)).1 % 32768) := by
              rw [ex_6]
              exact hjk.2.1
            refine lv_goto (tgt := 56) hx hb dX6_result_38 (by decide) ?_
            refine wM hQ ?_
            exact rtRI hx hb hr hlocks ((by show _ = _; unfold resV; rw [cif_pos ⟨c_1, c_9⟩, nI_clamp hj]; rw [cif_neg (show ¬ q = nI 0 from c_15), cif_pos c_29])) dX6_result_56
        · skip
          refine lv_aload_n hx hb dX6_result_18 rfl (lv_at hl 0 rfl) ?_
          refine va_get (D := X.1) (ci := 6) (v := .ref rx) (C := RX6) (T := TX6) (N := 25) hx hb hts hin6 hown hK hP 0 rfl rfl 20 (by decide) lk39 (fun _ h9 => h9) rfl dX6_result_19 ?_
          refine lv_iload_n hx hb dX6_result_22 rfl (lv_at hl 1 rfl) ?_
          have hi_7 : vp_in (nI j) 150 := vp_in_nI (by omega) (by omega)
          refine va_iald hx hb hK hP 1 0 rfl rfl hi_7 dX6_result_23 ?_
          refine lv_topi (fun x_8 ex_8 => ?_)
          obtain rfl : x_8 = rxf j := by
            rw [ex_8]
            rw [nI_clamp (by omega)]
          refine lv_topi (fun x_9 ex_9 => ?_)
          obtain rfl : x_9 = nI ((R.getD j (0, 0)).1 / 32768) := by
            rw [ex_9]
            exact hjk.1
          refine lv_goto (tgt := 56) hx hb dX6_result_24 (by decide) ?_
          refine wM hQ ?_
          exact rtRI hx hb hr hlocks ((by show _ = _; unfold resV; rw [cif_pos ⟨c_1, c_9⟩, nI_clamp hj]; rw [cif_pos (show q = nI 0 from c_15)])) dX6_result_56
    · skip
      refine lv_iconst (v := (-1)) hx hb dX6_result_12 (by decide) ?_
      refine wM hQ ?_
      exact rtRI hx hb hr hlocks ((by show _ = _; unfold resV; rw [cif_neg (fun z => by first | exact z.1 c_1 | exact c_9 z.2)])) dX6_result_13
set_option maxHeartbeats 4000000 in
set_option maxRecDepth 100000 in
theorem c_X6_arm (l : Launch) (X : kX) (m bl bk b sp mn xr yr vr cr wr nc wl wc rx ry rv fr : Nat) (f_of f_ar f_wt f_lv f_fi f_en f_rs : Int32) (f_cd : Int64) (cp : Nat) (x n : Int32) : CWi l X yX6_arm wsX6_arm 0 [.ref m, .int x, .int n] [(m, .inr (6, [.int (nI bl), .int (nI bk), .int (nI b), .int (nI sp), .ref mn, .ref xr, .ref yr, .ref vr, .ref cr, .ref wr, .int (nI nc), .int f_of, .int f_ar, .ref wl, .ref wc, .int f_wt, .int f_lv, .int f_fi, .int f_en, .long f_cd, .ref rx, .ref ry, .ref rv, .ref fr, .int f_rs]))] (S := Int32) (fun r u => ∃ c2, (r, u, c2) = armF x n f_ar cp) (fun ar2 => [(m, .inr (6, [.int (nI bl), .int (nI bk), .int (nI b), .int (nI sp), .ref mn, .ref xr, .ref yr, .ref vr, .ref cr, .ref wr, .int (nI nc), .int f_of, .int ar2, .ref wl, .ref wc, .int f_wt, .int f_lv, .int f_fi, .int f_en, .long f_cd, .ref rx, .ref ry, .ref rv, .ref fr, .int f_rs]))]) := by
  refine Met.ofW (cc := cX6_arm) (maxL := 3) (ret := some (.boolean)) (by decide) rfl ?_
  intro pz ez sz mz args below meth cz s₁ Bz hml hv
  obtain ⟨rfl, hP, hK, hD0, hN⟩ := hv
  have hx := Bz.exec
  have hb := Bz.bytes
  have hr := Bz.returns
  have hts := atoms_spec (ws := wsX6_arm) Bz.pre
  have hown : sz.vm.findClass RX6 = some mz.cls := findClass_of_methodNamed Bz.named
  have hlocks := Bz.notSynchronized
  have hD := inW.self hD0
  have hS : va_S (inW [(m, .inr (6, [.int (nI bl), .int (nI bk), .int (nI b), .int (nI sp), .ref mn, .ref xr, .ref yr, .ref vr, .ref cr, .ref wr, .int (nI nc), .int f_of, .int f_ar, .ref wl, .ref wc, .int f_wt, .int f_lv, .int f_fi, .int f_en, .long f_cd, .ref rx, .ref ry, .ref rv, .ref fr, .int f_rs]))]) sz.heap sz.heap [] := va_S.rf
  have hl := lv_entry ([.ref m, .int x, .int n]) (n := 3) (Nat.le_of_ble_eq_true rfl)
  rw [lg_entry_eq]
  generalize (lg_sl ([.ref m, .int x, .int n]) ++ List.replicate (3 - (lg_sl ([.ref m, .int x, .int n])).length) Slot.unset).toArray = ls at hl ⊢
  have hl : lv_has ls 3 [(0, .ref m), (1, .int x), (2, .int n)] := hl
  have lk29 := hts (.fieldLink RX6 29 "PointStoreModel" "armed" "I") (by decide +kernel)
  have hin6 : ∀ w ∈ u_ws RX6 TX6 25, w ∈ wsX6_arm := by decide +kernel
  refine wQ (fun Q hQ => ?_)
  generalize hAe : inW [(m, .inr (6, [.int (nI bl), .int (nI bk), .int (nI b), .int (nI sp), .ref mn, .ref xr, .ref yr, .ref vr, .ref cr, .ref wr, .int (nI nc), .int f_of, .int f_ar, .ref wl, .ref wc, .int f_wt, .int f_lv, .int f_fi, .int f_en, .long f_cd, .ref rx, .ref ry, .ref rv, .ref fr, .int f_rs]))] = A_ at hD hS hQ
  refine lv_iload_n hx hb dX6_arm_0 rfl (lv_at hl 1 rfl) ?_
  refine lv_iconst (v := nI 3) hx hb dX6_arm_1 (by decide) ?_
  refine lv_icmp_ne (tgt := 12) hx hb dX6_arm_2 (by decide) (fun c_2 => ?_) (fun c_2 => ?_)
  · skip
    refine lv_iload_n hx hb dX6_arm_12 rfl (lv_at hl 1 rfl) ?_
    refine lv_if_lt (tgt := 32) hx hb dX6_arm_13 (by decide) (fun c_13 => ?_) (fun c_13 => ?_)
    · skip
      refine lv_iconst (v := nI 0) hx hb dX6_arm_32 (by decide) ?_
      refine wM hQ ?_
      exact rtZ f_ar hx hb hr hlocks (by decide) hP hS (⟨cp, (by show (nI 0, f_ar, cp) = _; unfold armF; rw [cif_neg c_2, cif_neg (fun z => by first | exact z.1 c_13 | exact z.2.1 c_18 | exact z.2.2.1 c_22 | exact c_29 (Int32.not_lt.mp z.2.2.2))])⟩) dX6_arm_33
    · skip
      refine lv_iload_n hx hb dX6_arm_16 rfl (lv_at hl 1 rfl) ?_
      refine lv_iconst (v := nI 2) hx hb dX6_arm_17 (by decide) ?_
      refine lv_icmp_gt (tgt := 32) hx hb dX6_arm_18 (by decide) (fun c_18 => ?_) (fun c_18 => ?_)
      · skip
        refine lv_iconst (v := nI 0) hx hb dX6_arm_32 (by decide) ?_
        refine wM hQ ?_
        exact rtZ f_ar hx hb hr hlocks (by decide) hP hS (⟨cp, (by show (nI 0, f_ar, cp) = _; unfold armF; rw [cif_neg c_2, cif_neg (fun z => by first | exact z.1 c_13 | exact z.2.1 c_18 | exact z.2.2.1 c_22 | exact c_29 (Int32.not_lt.mp z.2.2.2))])⟩) dX6_arm_33
      · skip
        refine lv_iload_n hx hb dX6_arm_21 rfl (lv_at hl 2 rfl) ?_
        refine lv_if_lt (tgt := 32) hx hb dX6_arm_22 (by decide) (fun c_22 => ?_) (fun c_22 => ?_)
        · skip
          refine lv_iconst (v := nI 0) hx hb dX6_arm_32 (by decide) ?_
          refine wM hQ ?_
          exact rtZ f_ar hx hb hr hlocks (by decide) hP hS (⟨cp, (by show (nI 0, f_ar, cp) = _; unfold armF; rw [cif_neg c_2, cif_neg (fun z => by first | exact z.1 c_13 | exact z.2.1 c_18 | exact z.2.2.1 c_22 | exact c_29 (Int32.not_lt.mp z.2.2.2))])⟩) dX6_arm_33
        · skip
          refine lv_iload_n hx hb dX6_arm_25 rfl (lv_at hl 2 rfl) ?_
          refine lv_sipush (v := nI 256) hx hb dX6_arm_26 (by decide) ?_
          refine lv_icmp_le (tgt := 34) hx hb dX6_arm_29 (by decide) (fun c_29 => ?_) (fun c_29 => ?_)
          · skip
            refine lv_aload_n hx hb dX6_arm_34 rfl (lv_at hl 0 rfl) ?_
            refine lv_iload_n hx hb dX6_arm_35 rfl (lv_at hl 1 rfl) ?_
            refine va_put (D := X.1) (ci := 6) (v := .int x) (ty := .int) (C := RX6) (T := TX6) (N := 25) hx hb hts hin6 tyX6 tyX6_ok nmX6 hown hK hP hD hS 0 rfl rfl 12 (by decide) lk29 (fun _ h9 => h9) rfl (by decide +kernel) rfl rfl (Nat.le_of_ble_eq_true rfl) dX6_arm_36 (fun H locs hP hD hS => ?_)
            have hP : va_P X.1 vwCl [(m, .inr (6, [.int (nI bl), .int (nI bk), .int (nI b), .int (nI sp), .ref mn, .ref xr, .ref yr, .ref vr, .ref cr, .ref wr, .int (nI nc), .int f_of, .int x, .ref wl, .ref wc, .int f_wt, .int f_lv, .int f_fi, .int f_en, .long f_cd, .ref rx, .ref ry, .ref rv, .ref fr, .int f_rs]))] H := hP
            have hD : va_D A_ [(m, .inr (6, [.int (nI bl), .int (nI bk), .int (nI b), .int (nI sp), .ref mn, .ref xr, .ref yr, .ref vr, .ref cr, .ref wr, .int (nI nc), .int f_of, .int x, .ref wl, .ref wc, .int f_wt, .int f_lv, .int f_fi, .int f_en, .long f_cd, .ref rx, .ref ry, .ref rv, .ref fr, .int f_rs]))] := hD
            refine lv_iconst (v := nI 1) hx hb dX6_arm_39 (by decide) ?_
            refine wM hQ ?_
            exact rtZ x hx hb hr hlocks (by decide) hP hS (⟨n.toNatClampNeg, (by show (nI 1, x, n.toNatClampNeg) = _; unfold armF; rw [cif_neg c_2, cif_pos ⟨c_13, c_18, c_22, le_nlt c_29⟩])⟩) dX6_arm_40
          · skip
            refine lv_iconst (v := nI 0) hx hb dX6_arm_32 (by decide) ?_
            refine wM hQ ?_
            exact rtZ f_ar hx hb hr hlocks (by decide) hP hS (⟨cp, (by show (nI 0, f_ar, cp) = _; unfold armF; rw [cif_neg c_2, cif_neg (fun z => by first | exact z.1 c_13 | exact z.2.1 c_18 | exact z.2.2.1 c_22 | exact c_29 (Int32.not_lt.mp z.2.2.2))])⟩) dX6_arm_33
  · skip
    refine lv_aload_n hx hb dX6_arm_5 rfl (lv_at hl 0 rfl) ?_
    refine lv_iconst (v := (-1)) hx hb dX6_arm_6 (by decide) ?_
    refine va_put (D := X.1) (ci := 6) (v := .int (-1)) (ty := .int) (C := RX6) (T := TX6) (N := 25) hx hb hts hin6 tyX6 tyX6_ok nmX6 hown hK hP hD hS 0 rfl rfl 12 (by decide) lk29 (fun _ h9 => h9) rfl (by decide +kernel) rfl rfl (Nat.le_of_ble_eq_true rfl) dX6_arm_7 (fun H locs hP hD hS => ?_)
    have hP : va_P X.1 vwCl [(m, .inr (6, [.int (nI bl), .int (nI bk), .int (nI b), .int (nI sp), .ref mn, .ref xr, .ref yr, .ref vr, .ref cr, .ref wr, .int (nI nc), .int f_of, .int (-1), .ref wl, .ref wc, .int f_wt, .int f_lv, .int f_fi, .int f_en, .long f_cd, .ref rx, .ref ry, .ref rv, .ref fr, .int f_rs]))] H := hP
    have hD : va_D A_ [(m, .inr (6, [.int (nI bl), .int (nI bk), .int (nI b), .int (nI sp), .ref mn, .ref xr, .ref yr, .ref vr, .ref cr, .ref wr, .int (nI nc), .int f_of, .int (-1), .ref wl, .ref wc, .int f_wt, .int f_lv, .int f_fi, .int f_en, .long f_cd, .ref rx, .ref ry, .ref rv, .ref fr, .int f_rs]))] := hD
    refine lv_iconst (v := nI 1) hx hb dX6_arm_10 (by decide) ?_
    refine wM hQ ?_
    exact rtZ (-1) hx hb hr hlocks (by decide) hP hS (⟨cp, (by show (nI 1, -1, cp) = _; unfold armF; rw [cif_pos c_2])⟩) dX6_arm_11
set_option maxHeartbeats 4000000 in
set_option maxRecDepth 100000 in
theorem c_X6_goes (l : Launch) (X : kX) (m bl bk b sp mn xr yr vr cr wr nc wl wc rx ry rv fr : Nat) (f_of f_ar f_wt f_lv f_fi f_en f_rs : Int32) (f_cd : Int64) : CWi l X yX6_goes wsX6_goes 0 [.ref m] [(m, .inr (6, [.int (nI bl), .int (nI bk), .int (nI b), .int (nI sp), .ref mn, .ref xr, .ref yr, .ref vr, .ref cr, .ref wr, .int (nI nc), .int f_of, .int f_ar, .ref wl, .ref wc, .int f_wt, .int f_lv, .int f_fi, .int f_en, .long f_cd, .ref rx, .ref ry, .ref rv, .ref fr, .int f_rs]))] (S := Unit) (fun r _ => r = -2) (fun _ => [(m, .inr (6, [.int (nI bl), .int (nI bk), .int (nI b), .int (nI sp), .ref mn, .ref xr, .ref yr, .ref vr, .ref cr, .ref wr, .int (nI nc), .int (nI 1), .int (-1), .ref wl, .ref wc, .int f_wt, .int f_lv, .int f_fi, .int f_en, .long f_cd, .ref rx, .ref ry, .ref rv, .ref fr, .int (nI 0)]))]) := by
  refine Met.ofW (cc := cX6_goes) (maxL := 1) (ret := some (.int)) (by decide) rfl ?_
  intro pz ez sz mz args below meth cz s₁ Bz hml hv
  obtain ⟨rfl, hP, hK, hD0, hN⟩ := hv
  have hx := Bz.exec
  have hb := Bz.bytes
  have hr := Bz.returns
  have hts := atoms_spec (ws := wsX6_goes) Bz.pre
  have hown : sz.vm.findClass RX6 = some mz.cls := findClass_of_methodNamed Bz.named
  have hlocks := Bz.notSynchronized
  have hD := inW.self hD0
  have hS : va_S (inW [(m, .inr (6, [.int (nI bl), .int (nI bk), .int (nI b), .int (nI sp), .ref mn, .ref xr, .ref yr, .ref vr, .ref cr, .ref wr, .int (nI nc), .int f_of, .int f_ar, .ref wl, .ref wc, .int f_wt, .int f_lv, .int f_fi, .int f_en, .long f_cd, .ref rx, .ref ry, .ref rv, .ref fr, .int f_rs]))]) sz.heap sz.heap [] := va_S.rf
  have hl := lv_entry ([.ref m]) (n := 1) (Nat.le_of_ble_eq_true rfl)
  rw [lg_entry_eq]
  generalize (lg_sl ([.ref m]) ++ List.replicate (1 - (lg_sl ([.ref m])).length) Slot.unset).toArray = ls at hl ⊢
  have hl : lv_has ls 1 [(0, .ref m)] := hl
  have lk29 := hts (.fieldLink RX6 29 "PointStoreModel" "armed" "I") (by decide +kernel)
  have lk105 := hts (.fieldLink RX6 105 "PointStoreModel" "isOff" "Z") (by decide +kernel)
  have lk137 := hts (.fieldLink RX6 137 "PointStoreModel" "results" "I") (by decide +kernel)
  have hin6 : ∀ w ∈ u_ws RX6 TX6 25, w ∈ wsX6_goes := by decide +kernel
  refine wQ (fun Q hQ => ?_)
  generalize hAe : inW [(m, .inr (6, [.int (nI bl), .int (nI bk), .int (nI b), .int (nI sp), .ref mn, .ref xr, .ref yr, .ref vr, .ref cr, .ref wr, .int (nI nc), .int f_of, .int f_ar, .ref wl, .ref wc, .int f_wt, .int f_lv, .int f_fi, .int f_en, .long f_cd, .ref rx, .ref ry, .ref rv, .ref fr, .int f_rs]))] = A_ at hD hS hQ
  refine lv_aload_n hx hb dX6_goes_0 rfl (lv_at hl 0 rfl) ?_
  refine lv_iconst (v := nI 1) hx hb dX6_goes_1 (by decide) ?_
  refine va_put (D := X.1) (ci := 6) (v := .int (nI 1)) (ty := .boolean) (C := RX6) (T := TX6) (N := 25) hx hb hts hin6 tyX6 tyX6_ok nmX6 hown hK hP hD hS 0 rfl rfl 11 (by decide) lk105 (fun _ h9 => h9) rfl (by decide +kernel) (by decide) rfl (Nat.le_of_ble_eq_true rfl) dX6_goes_2 (fun H locs hP hD hS => ?_)
  have hP : va_P X.1 vwCl [(m, .inr (6, [.int (nI bl), .int (nI bk), .int (nI b), .int (nI sp), .ref mn, .ref xr, .ref yr, .ref vr, .ref cr, .ref wr, .int (nI nc), .int (nI 1), .int f_ar, .ref wl, .ref wc, .int f_wt, .int f_lv, .int f_fi, .int f_en, .long f_cd, .ref rx, .ref ry, .ref rv, .ref fr, .int f_rs]))] H := hP
  have hD : va_D A_ [(m, .inr (6, [.int (nI bl), .int (nI bk), .int (nI b), .int (nI sp), .ref mn, .ref xr, .ref yr, .ref vr, .ref cr, .ref wr, .int (nI nc), .int (nI 1), .int f_ar, .ref wl, .ref wc, .int f_wt, .int f_lv, .int f_fi, .int f_en, .long f_cd, .ref rx, .ref ry, .ref rv, .ref fr, .int f_rs]))] := hD
  refine lv_aload_n hx hb dX6_goes_5 rfl (lv_at hl 0 rfl) ?_
  refine lv_iconst (v := (-1)) hx hb dX6_goes_6 (by decide) ?_
  refine va_put (D := X.1) (ci := 6) (v := .int (-1)) (ty := .int) (C := RX6) (T := TX6) (N := 25) hx hb hts hin6 tyX6 tyX6_ok nmX6 hown hK hP hD hS 0 rfl rfl 12 (by decide) lk29 (fun _ h9 => h9) rfl (by decide +kernel) rfl rfl (Nat.le_of_ble_eq_true rfl) dX6_goes_7 (fun H locs hP hD hS => ?_)
  have hP : va_P X.1 vwCl [(m, .inr (6, [.int (nI bl), .int (nI bk), .int (nI b), .int (nI sp), .ref mn, .ref xr, .ref yr, .ref vr, .ref cr, .ref wr, .int (nI nc), .int (nI 1), .int (-1), .ref wl, .ref wc, .int f_wt, .int f_lv, .int f_fi, .int f_en, .long f_cd, .ref rx, .ref ry, .ref rv, .ref fr, .int f_rs]))] H := hP
  have hD : va_D A_ [(m, .inr (6, [.int (nI bl), .int (nI bk), .int (nI b), .int (nI sp), .ref mn, .ref xr, .ref yr, .ref vr, .ref cr, .ref wr, .int (nI nc), .int (nI 1), .int (-1), .ref wl, .ref wc, .int f_wt, .int f_lv, .int f_fi, .int f_en, .long f_cd, .ref rx, .ref ry, .ref rv, .ref fr, .int f_rs]))] := hD
  refine lv_aload_n hx hb dX6_goes_10 rfl (lv_at hl 0 rfl) ?_
  refine lv_iconst (v := nI 0) hx hb dX6_goes_11 (by decide) ?_
  refine va_put (D := X.1) (ci := 6) (v := .int (nI 0)) (ty := .int) (C := RX6) (T := TX6) (N := 25) hx hb hts hin6 tyX6 tyX6_ok nmX6 hown hK hP hD hS 0 rfl rfl 24 (by decide) lk137 (fun _ h9 => h9) rfl (by decide +kernel) rfl rfl (Nat.le_of_ble_eq_true rfl) dX6_goes_12 (fun H locs hP hD hS => ?_)
  have hP : va_P X.1 vwCl [(m, .inr (6, [.int (nI bl), .int (nI bk), .int (nI b), .int (nI sp), .ref mn, .ref xr, .ref yr, .ref vr, .ref cr, .ref wr, .int (nI nc), .int (nI 1), .int (-1), .ref wl, .ref wc, .int f_wt, .int f_lv, .int f_fi, .int f_en, .long f_cd, .ref rx, .ref ry, .ref rv, .ref fr, .int (nI 0)]))] H := hP
  have hD : va_D A_ [(m, .inr (6, [.int (nI bl), .int (nI bk), .int (nI b), .int (nI sp), .ref mn, .ref xr, .ref yr, .ref vr, .ref cr, .ref wr, .int (nI nc), .int (nI 1), .int (-1), .ref wl, .ref wc, .int f_wt, .int f_lv, .int f_fi, .int f_en, .long f_cd, .ref rx, .ref ry, .ref rv, .ref fr, .int (nI 0)]))] := hD
  refine lv_bipush (v := (-2)) hx hb dX6_goes_15 (by decide) ?_
  refine wM hQ ?_
  exact rtI () hx hb hr hlocks hP hS (rfl) dX6_goes_17
set_option maxHeartbeats 4000000 in
set_option maxRecDepth 100000 in
theorem c_X6_commit_0 (l : Launch) (X : kX) (m bl bk b sp mn xr yr vr cr wr wl wc rx ry rv fr : Nat) (f_ar f_wt f_lv f_fi f_en f_rs : Int32) (f_cd : Int64) : CWi l X yX6_commit wsX6_commit 2 [.ref m] [(m, .inr (6, [.int (nI bl), .int (nI bk), .int (nI b), .int (nI sp), .ref mn, .ref xr, .ref yr, .ref vr, .ref cr, .ref wr, .int (nI 0), .int (nI 0), .int f_ar, .ref wl, .ref wc, .int f_wt, .int f_lv, .int f_fi, .int f_en, .long f_cd, .ref rx, .ref ry, .ref rv, .ref fr, .int f_rs]))] (S := Unit) (fun r _ => r = nI 0) (fun _ => [(m, .inr (6, [.int (nI bl), .int (nI bk), .int (nI b), .int (nI sp), .ref mn, .ref xr, .ref yr, .ref vr, .ref cr, .ref wr, .int (nI 0), .int (nI 0), .int f_ar, .ref wl, .ref wc, .int f_wt, .int f_lv, .int f_fi, .int f_en, .long f_cd, .ref rx, .ref ry, .ref rv, .ref fr, .int f_rs]))]) := by
  refine Met.ofW (cc := cX6_commit) (maxL := 2) (ret := some (.int)) (by decide) rfl ?_
  intro pz ez sz mz args below meth cz s₁ Bz hml hv
  obtain ⟨rfl, hP, hK, hD0, hN⟩ := hv
  have hx := Bz.exec
  have hb := Bz.bytes
  have hr := Bz.returns
  have hts := atoms_spec (ws := wsX6_commit) Bz.pre
  have hown : sz.vm.findClass RX6 = some mz.cls := findClass_of_methodNamed Bz.named
  have hlocks := Bz.notSynchronized
  have hD := inW.self hD0
  have hS : va_S (inW [(m, .inr (6, [.int (nI bl), .int (nI bk), .int (nI b), .int (nI sp), .ref mn, .ref xr, .ref yr, .ref vr, .ref cr, .ref wr, .int (nI 0), .int (nI 0), .int f_ar, .ref wl, .ref wc, .int f_wt, .int f_lv, .int f_fi, .int f_en, .long f_cd, .ref rx, .ref ry, .ref rv, .ref fr, .int f_rs]))]) sz.heap sz.heap [] := va_S.rf
  have hl := lv_entry ([.ref m]) (n := 2) (Nat.le_of_ble_eq_true rfl)
  rw [lg_entry_eq]
  generalize (lg_sl ([.ref m]) ++ List.replicate (2 - (lg_sl ([.ref m])).length) Slot.unset).toArray = ls at hl ⊢
  have hl : lv_has ls 2 [(0, .ref m)] := hl
  have lk71 := hts (.fieldLink RX6 71 "PointStoreModel" "changes" "I") (by decide +kernel)
  have lk105 := hts (.fieldLink RX6 105 "PointStoreModel" "isOff" "Z") (by decide +kernel)
  have hin6 : ∀ w ∈ u_ws RX6 TX6 25, w ∈ wsX6_commit := by decide +kernel
  refine wQ (fun Q hQ => ?_)
  generalize hAe : inW [(m, .inr (6, [.int (nI bl), .int (nI bk), .int (nI b), .int (nI sp), .ref mn, .ref xr, .ref yr, .ref vr, .ref cr, .ref wr, .int (nI 0), .int (nI 0), .int f_ar, .ref wl, .ref wc, .int f_wt, .int f_lv, .int f_fi, .int f_en, .long f_cd, .ref rx, .ref ry, .ref rv, .ref fr, .int f_rs]))] = A_ at hD hS hQ
  refine lv_aload_n hx hb dX6_commit_0 rfl (lv_at hl 0 rfl) ?_
  refine va_get (D := X.1) (ci := 6) (v := .int (nI 0)) (C := RX6) (T := TX6) (N := 25) hx hb hts hin6 hown hK hP 0 rfl rfl 11 (by decide) lk105 (fun _ h9 => h9) rfl dX6_commit_1 ?_
  refine lv_if_eq (tgt := 10) hx hb dX6_commit_4 (by decide) (fun c_4 => ?_) (fun c_4 => ?_)
  · skip
    refine lv_aload_n hx hb dX6_commit_10 rfl (lv_at hl 0 rfl) ?_
    refine va_get (D := X.1) (ci := 6) (v := .int (nI 0)) (C := RX6) (T := TX6) (N := 25) hx hb hts hin6 hown hK hP 0 rfl rfl 10 (by decide) lk71 (fun _ h9 => h9) rfl dX6_commit_11 ?_
    refine lv_istore_n (lv' := [(1, .int (nI 0)), (0, .ref m)]) hx hb dX6_commit_14 rfl hl (by decide) rfl (fun ls hl => ?_)
    refine lv_iload_n hx hb dX6_commit_15 rfl (lv_at hl 0 rfl) ?_
    refine lv_if_ne (tgt := 21) hx hb dX6_commit_16 (by decide) (fun c_16 => ?_) (fun c_16 => ?_)
    · exact absurd c_16 (by decide)
    · skip
      refine lv_iconst (v := nI 0) hx hb dX6_commit_19 (by decide) ?_
      refine wM hQ ?_
      exact rtI () hx hb hr hlocks hP hS (rfl) dX6_commit_20
  · exact absurd c_4 (by decide)
set_option maxHeartbeats 4000000 in
set_option maxRecDepth 100000 in
theorem c_X6_commit_a (l : Launch) (X : kX) (m bl bk b sp mn xr yr vr cr wr nc wl wc rx ry rv fr : Nat) (f_wt f_lv f_fi f_en f_rs : Int32) (f_cd : Int64) (hnc : nc ≤ 60) (hn0 : 0 < nc) : CWi l X yX6_commit wsX6_commit 2 [.ref m] [(m, .inr (6, [.int (nI bl), .int (nI bk), .int (nI b), .int (nI sp), .ref mn, .ref xr, .ref yr, .ref vr, .ref cr, .ref wr, .int (nI nc), .int (nI 0), .int (nI 0), .ref wl, .ref wc, .int f_wt, .int f_lv, .int f_fi, .int f_en, .long f_cd, .ref rx, .ref ry, .ref rv, .ref fr, .int f_rs]))] (S := Unit) (fun r _ => r = -2) (fun _ => [(m, .inr (6, [.int (nI bl), .int (nI bk), .int (nI b), .int (nI sp), .ref mn, .ref xr, .ref yr, .ref vr, .ref cr, .ref wr, .int (nI nc), .int (nI 1), .int (-1), .ref wl, .ref wc, .int f_wt, .int f_lv, .int f_fi, .int f_en, .long f_cd, .ref rx, .ref ry, .ref rv, .ref fr, .int (nI 0)]))]) := by
  refine Met.ofW (cc := cX6_commit) (maxL := 2) (ret := some (.int)) (by decide) rfl ?_
  intro pz ez sz mz args below meth cz s₁ Bz hml hv
  obtain ⟨rfl, hP, hK, hD0, hN⟩ := hv
  have hx := Bz.exec
  have hb := Bz.bytes
  have hr := Bz.returns
  have hts := atoms_spec (ws := wsX6_commit) Bz.pre
  have hown : sz.vm.findClass RX6 = some mz.cls := findClass_of_methodNamed Bz.named
  have hlocks := Bz.notSynchronized
  have hD := inW.self hD0
  have hS : va_S (inW [(m, .inr (6, [.int (nI bl), .int (nI bk), .int (nI b), .int (nI sp), .ref mn, .ref xr, .ref yr, .ref vr, .ref cr, .ref wr, .int (nI nc), .int (nI 0), .int (nI 0), .ref wl, .ref wc, .int f_wt, .int f_lv, .int f_fi, .int f_en, .long f_cd, .ref rx, .ref ry, .ref rv, .ref fr, .int f_rs]))]) sz.heap sz.heap [] := va_S.rf
  have hl := lv_entry ([.ref m]) (n := 2) (Nat.le_of_ble_eq_true rfl)
  rw [lg_entry_eq]
  generalize (lg_sl ([.ref m]) ++ List.replicate (2 - (lg_sl ([.ref m])).length) Slot.unset).toArray = ls at hl ⊢
  have hl : lv_has ls 2 [(0, .ref m)] := hl
  have lk29 := hts (.fieldLink RX6 29 "PointStoreModel" "armed" "I") (by decide +kernel)
  have lk71 := hts (.fieldLink RX6 71 "PointStoreModel" "changes" "I") (by decide +kernel)
  have lk105 := hts (.fieldLink RX6 105 "PointStoreModel" "isOff" "Z") (by decide +kernel)
  have hin6 : ∀ w ∈ u_ws RX6 TX6 25, w ∈ wsX6_commit := by decide +kernel
  refine wQ (fun Q hQ => ?_)
  generalize hAe : inW [(m, .inr (6, [.int (nI bl), .int (nI bk), .int (nI b), .int (nI sp), .ref mn, .ref xr, .ref yr, .ref vr, .ref cr, .ref wr, .int (nI nc), .int (nI 0), .int (nI 0), .ref wl, .ref wc, .int f_wt, .int f_lv, .int f_fi, .int f_en, .long f_cd, .ref rx, .ref ry, .ref rv, .ref fr, .int f_rs]))] = A_ at hD hS hQ
  refine lv_aload_n hx hb dX6_commit_0 rfl (lv_at hl 0 rfl) ?_
  refine va_get (D := X.1) (ci := 6) (v := .int (nI 0)) (C := RX6) (T := TX6) (N := 25) hx hb hts hin6 hown hK hP 0 rfl rfl 11 (by decide) lk105 (fun _ h9 => h9) rfl dX6_commit_1 ?_
  refine lv_if_eq (tgt := 10) hx hb dX6_commit_4 (by decide) (fun c_4 => ?_) (fun c_4 => ?_)
  · skip
    refine lv_aload_n hx hb dX6_commit_10 rfl (lv_at hl 0 rfl) ?_
    refine va_get (D := X.1) (ci := 6) (v := .int (nI nc)) (C := RX6) (T := TX6) (N := 25) hx hb hts hin6 hown hK hP 0 rfl rfl 10 (by decide) lk71 (fun _ h9 => h9) rfl dX6_commit_11 ?_
    refine lv_istore_n (lv' := [(1, .int (nI nc)), (0, .ref m)]) hx hb dX6_commit_14 rfl hl (by decide) rfl (fun ls hl => ?_)
    refine lv_iload_n hx hb dX6_commit_15 rfl (lv_at hl 0 rfl) ?_
    refine lv_if_ne (tgt := 21) hx hb dX6_commit_16 (by decide) (fun c_16 => ?_) (fun c_16 => ?_)
    · change ¬ nI nc = nI 0 at c_16
      replace c_16 : ¬ nc = 0 := fun h9 => c_16 ((nI_eq (by omega) (by omega)).mpr h9)
      refine lv_aload_n hx hb dX6_commit_21 rfl (lv_at hl 1 rfl) ?_
      refine va_get (D := X.1) (ci := 6) (v := .int (nI 0)) (C := RX6) (T := TX6) (N := 25) hx hb hts hin6 hown hK hP 0 rfl rfl 12 (by decide) lk29 (fun _ h9 => h9) rfl dX6_commit_22 ?_
      refine lv_if_eq (tgt := 34) hx hb dX6_commit_25 (by decide) (fun c_25 => ?_) (fun c_25 => ?_)
      · skip
        refine lv_aload_n hx hb dX6_commit_34 rfl (lv_at hl 1 rfl) ?_
        refine va_get (D := X.1) (ci := 6) (v := .int (nI 0)) (C := RX6) (T := TX6) (N := 25) hx hb hts hin6 hown hK hP 0 rfl rfl 12 (by decide) lk29 (fun _ h9 => h9) rfl dX6_commit_35 ?_
        refine lv_if_eq (tgt := 49) hx hb dX6_commit_38 (by decide) (fun c_38 => ?_) (fun c_38 => ?_)
        · skip
          refine lv_aload_n hx hb dX6_commit_49 rfl (lv_at hl 1 rfl) ?_
          refine ckVi (As := []) (rest := []) 0 [0] (c_X6_goes l X m bl bk b sp mn xr yr vr cr wr nc wl wc rx ry rv fr (nI 0) (nI 0) f_wt f_lv f_fi f_en f_rs f_cd) ⟨hx, hb, hml, hown, hts⟩ (cwV 0 hts gX6_commit_X6_goes rfl rfl rfl (by decide +kernel) ⟨Nat.le_of_ble_eq_true rfl, Nat.le_of_ble_eq_true rfl⟩) hK hN hP hD hS (by decide) rfl (ci := 6) rfl rfl (fun _ => rfl) rfl hl.1 rfl (Nat.le_of_ble_eq_true rfl) dX6_commit_50 ⟨Nat.zero_le _, Nat.zero_le _⟩ (fun r_2 u_1 H locs hc_50 hP hD hS => ?_)
          have hP : va_P X.1 vwCl [(m, .inr (6, [.int (nI bl), .int (nI bk), .int (nI b), .int (nI sp), .ref mn, .ref xr, .ref yr, .ref vr, .ref cr, .ref wr, .int (nI nc), .int (nI 1), .int (-1), .ref wl, .ref wc, .int f_wt, .int f_lv, .int f_fi, .int f_en, .long f_cd, .ref rx, .ref ry, .ref rv, .ref fr, .int (nI 0)]))] H := hP
          have hD : va_D A_ [(m, .inr (6, [.int (nI bl), .int (nI bk), .int (nI b), .int (nI sp), .ref mn, .ref xr, .ref yr, .ref vr, .ref cr, .ref wr, .int (nI nc), .int (nI 1), .int (-1), .ref wl, .ref wc, .int f_wt, .int f_lv, .int f_fi, .int f_en, .long f_cd, .ref rx, .ref ry, .ref rv, .ref fr, .int (nI 0)]))] := hD
          subst hc_50
          refine lv_goto (tgt := 57) hx hb dX6_commit_53 (by decide) ?_
          refine wM hQ ?_
          exact rtI () hx hb hr hlocks hP hS (rfl) dX6_commit_57
        · exact absurd c_38 (by decide)
      · exact absurd c_25 (by decide)
    · change nI nc = nI 0 at c_16
      replace c_16 : nc = 0 := (nI_eq (by omega) (by omega)).mp c_16
      omega
  · exact absurd c_4 (by decide)
set_option maxHeartbeats 4000000 in
set_option maxRecDepth 100000 in
theorem c_X6_commit_b (l : Launch) (X : kX) (m bl bk b sp mn xr yr vr cr wr nc wl wc rx ry rv fr : Nat) (f_wt f_lv f_fi f_en f_rs : Int32) (f_cd : Int64) (mf xf yf vf wf : Nat → Int32) (cf : Nat → Int64) (P ZP : PL) (h0 : mSt b mf xf yf vf wf cf 0 P ZP) (hnc : nc ≤ 60) (hn0 : 0 < nc) : CWi l X yX6_commit wsX6_commit 2 [.ref m] [(m, .inr (6, [.int (nI bl), .int (nI bk), .int (nI b), .int (nI sp), .ref mn, .ref xr, .ref yr, .ref vr, .ref cr, .ref wr, .int (nI nc), .int (nI 0), .int (nI 1), .ref wl, .ref wc, .int f_wt, .int f_lv, .int f_fi, .int f_en, .long f_cd, .ref rx, .ref ry, .ref rv, .ref fr, .int f_rs])), (mn, .inl (X.2.1, 2, .inl mf)), (xr, .inl (X.2.1, 6600, .inl xf)), (yr, .inl (X.2.1, 6600, .inl yf)), (vr, .inl (X.2.1, 6600, .inl vf)), (cr, .inl (X.2.2, 6600, .inr (.inl cf))), (wr, .inl (X.2.1, 6600, .inl wf))] (S := (Nat → Int32) × (Nat → Int32) × (Nat → Int32) × (Nat → Int32) × (Nat → Int32) × (Nat → Int64)) (fun r u => r = -2 ∧ mSt b u.1 u.2.1 u.2.2.1 u.2.2.2.1 u.2.2.2.2.1 u.2.2.2.2.2 0 P ZP ∧ mSt b u.1 u.2.1 u.2.2.1 u.2.2.2.1 u.2.2.2.2.1 u.2.2.2.2.2 1 P ZP) (fun ⟨mf2, xf2, yf2, vf2, wf2, cf2⟩ => [(m, .inr (6, [.int (nI bl), .int (nI bk), .int (nI b), .int (nI sp), .ref mn, .ref xr, .ref yr, .ref vr, .ref cr, .ref wr, .int (nI 0), .int (nI 1), .int (-1), .ref wl, .ref wc, .int f_wt, .int f_lv, .int f_fi, .int f_en, .long f_cd, .ref rx, .ref ry, .ref rv, .ref fr, .int (nI 0)])), (mn, .inl (X.2.1, 2, .inl mf2)), (xr, .inl (X.2.1, 6600, .inl xf2)), (yr, .inl (X.2.1, 6600, .inl yf2)), (vr, .inl (X.2.1, 6600, .inl vf2)), (cr, .inl (X.2.2, 6600, .inr (.inl cf2))), (wr, .inl (X.2.1, 6600, .inl wf2))]) := by
  refine Met.ofW (cc := cX6_commit) (maxL := 2) (ret := some (.int)) (by decide) rfl ?_
  intro pz ez sz mz args below meth cz s₁ Bz hml hv
  obtain ⟨rfl, hP, hK, hD0, hN⟩ := hv
  have hx := Bz.exec
  have hb := Bz.bytes
  have hr := Bz.returns
  have hts := atoms_spec (ws := wsX6_commit) Bz.pre
  have hown : sz.vm.findClass RX6 = some mz.cls := findClass_of_methodNamed Bz.named
  have hlocks := Bz.notSynchronized
  have hD := inW.self hD0
  have hS : va_S (inW [(m, .inr (6, [.int (nI bl), .int (nI bk), .int (nI b), .int (nI sp), .ref mn, .ref xr, .ref yr, .ref vr, .ref cr, .ref wr, .int (nI nc), .int (nI 0), .int (nI 1), .ref wl, .ref wc, .int f_wt, .int f_lv, .int f_fi, .int f_en, .long f_cd, .ref rx, .ref ry, .ref rv, .ref fr, .int f_rs])), (mn, .inl (X.2.1, 2, .inl mf)), (xr, .inl (X.2.1, 6600, .inl xf)), (yr, .inl (X.2.1, 6600, .inl yf)), (vr, .inl (X.2.1, 6600, .inl vf)), (cr, .inl (X.2.2, 6600, .inr (.inl cf))), (wr, .inl (X.2.1, 6600, .inl wf))]) sz.heap sz.heap [] := va_S.rf
  have hl := lv_entry ([.ref m]) (n := 2) (Nat.le_of_ble_eq_true rfl)
  rw [lg_entry_eq]
  generalize (lg_sl ([.ref m]) ++ List.replicate (2 - (lg_sl ([.ref m])).length) Slot.unset).toArray = ls at hl ⊢
  have hl : lv_has ls 2 [(0, .ref m)] := hl
  have lk29 := hts (.fieldLink RX6 29 "PointStoreModel" "armed" "I") (by decide +kernel)
  have lk71 := hts (.fieldLink RX6 71 "PointStoreModel" "changes" "I") (by decide +kernel)
  have lk105 := hts (.fieldLink RX6 105 "PointStoreModel" "isOff" "Z") (by decide +kernel)
  have hin6 : ∀ w ∈ u_ws RX6 TX6 25, w ∈ wsX6_commit := by decide +kernel
  refine wQ (fun Q hQ => ?_)
  generalize hAe : inW [(m, .inr (6, [.int (nI bl), .int (nI bk), .int (nI b), .int (nI sp), .ref mn, .ref xr, .ref yr, .ref vr, .ref cr, .ref wr, .int (nI nc), .int (nI 0), .int (nI 1), .ref wl, .ref wc, .int f_wt, .int f_lv, .int f_fi, .int f_en, .long f_cd, .ref rx, .ref ry, .ref rv, .ref fr, .int f_rs])), (mn, .inl (X.2.1, 2, .inl mf)), (xr, .inl (X.2.1, 6600, .inl xf)), (yr, .inl (X.2.1, 6600, .inl yf)), (vr, .inl (X.2.1, 6600, .inl vf)), (cr, .inl (X.2.2, 6600, .inr (.inl cf))), (wr, .inl (X.2.1, 6600, .inl wf))] = A_ at hD hS hQ
  refine lv_aload_n hx hb dX6_commit_0 rfl (lv_at hl 0 rfl) ?_
  refine va_get (D := X.1) (ci := 6) (v := .int (nI 0)) (C := RX6) (T := TX6) (N := 25) hx hb hts hin6 hown hK hP 0 rfl rfl 11 (by decide) lk105 (fun _ h9 => h9) rfl dX6_commit_1 ?_
  refine lv_if_eq (tgt := 10) hx hb dX6_commit_4 (by decide) (fun c_4 => ?_) (fun c_4 => ?_)
  · skip
    refine lv_aload_n hx hb dX6_commit_10 rfl (lv_at hl 0 rfl) ?_
    refine va_get (D := X.1) (ci := 6) (v := .int (nI nc)) (C := RX6) (T := TX6) (N := 25) hx hb hts hin6 hown hK hP 0 rfl rfl 10 (by decide) lk71 (fun _ h9 => h9) rfl dX6_commit_11 ?_
    refine lv_istore_n (lv' := [(1, .int (nI nc)), (0, .ref m)]) hx hb dX6_commit_14 rfl hl (by decide) rfl (fun ls hl => ?_)
    refine lv_iload_n hx hb dX6_commit_15 rfl (lv_at hl 0 rfl) ?_
    refine lv_if_ne (tgt := 21) hx hb dX6_commit_16 (by decide) (fun c_16 => ?_) (fun c_16 => ?_)
    · change ¬ nI nc = nI 0 at c_16
      replace c_16 : ¬ nc = 0 := fun h9 => c_16 ((nI_eq (by omega) (by omega)).mpr h9)
      refine lv_aload_n hx hb dX6_commit_21 rfl (lv_at hl 1 rfl) ?_
      refine va_get (D := X.1) (ci := 6) (v := .int (nI 1)) (C := RX6) (T := TX6) (N := 25) hx hb hts hin6 hown hK hP 0 rfl rfl 12 (by decide) lk29 (fun _ h9 => h9) rfl dX6_commit_22 ?_
      refine lv_if_eq (tgt := 34) hx hb dX6_commit_25 (by decide) (fun c_25 => ?_) (fun c_25 => ?_)
      · exact absurd c_25 (by decide)
      · skip
        refine lv_aload_n hx hb dX6_commit_28 rfl (lv_at hl 1 rfl) ?_
        refine lv_iconst (v := nI 1) hx hb dX6_commit_29 (by decide) ?_
        refine lv_iconst (v := nI 0) hx hb dX6_commit_30 (by decide) ?_
        refine ckVv (As := [.int (nI 1), .int (nI 0)]) (rest := []) 0 [0, 1, 2, 3, 4, 5, 6] (c_X6_becomes l X m bl bk b sp mn xr yr vr cr wr nc wl wc rx ry rv fr (nI 0) (nI 1) f_wt f_lv f_fi f_en f_rs f_cd 1 0 mf xf yf vf wf cf P ZP h0 rfl) ⟨hx, hb, hml, hown, hts⟩ (cwV 2 hts gX6_commit_X6_becomes rfl rfl rfl (by decide +kernel) ⟨Nat.le_of_ble_eq_true rfl, Nat.le_of_ble_eq_true rfl⟩) hK hN hP hD hS (by decide) rfl (ci := 6) rfl rfl (fun _ => rfl) rfl hl.1 rfl (Nat.le_of_ble_eq_true rfl) dX6_commit_31 ⟨Nat.zero_le _, Nat.zero_le _⟩ (fun u_1 H locs hbc hP hD hS => ?_)
        obtain ⟨mf2, xf2, yf2, vf2, wf2, cf2⟩ := u_1
        have hP : va_P X.1 vwCl [(m, .inr (6, [.int (nI bl), .int (nI bk), .int (nI b), .int (nI sp), .ref mn, .ref xr, .ref yr, .ref vr, .ref cr, .ref wr, .int (nI 0), .int (nI 0), .int (nI 1), .ref wl, .ref wc, .int f_wt, .int f_lv, .int f_fi, .int f_en, .long f_cd, .ref rx, .ref ry, .ref rv, .ref fr, .int f_rs])), (mn, .inl (X.2.1, 2, .inl mf2)), (xr, .inl (X.2.1, 6600, .inl xf2)), (yr, .inl (X.2.1, 6600, .inl yf2)), (vr, .inl (X.2.1, 6600, .inl vf2)), (cr, .inl (X.2.2, 6600, .inr (.inl cf2))), (wr, .inl (X.2.1, 6600, .inl wf2))] H := hP
        have hD : va_D A_ [(m, .inr (6, [.int (nI bl), .int (nI bk), .int (nI b), .int (nI sp), .ref mn, .ref xr, .ref yr, .ref vr, .ref cr, .ref wr, .int (nI 0), .int (nI 0), .int (nI 1), .ref wl, .ref wc, .int f_wt, .int f_lv, .int f_fi, .int f_en, .long f_cd, .ref rx, .ref ry, .ref rv, .ref fr, .int f_rs])), (mn, .inl (X.2.1, 2, .inl mf2)), (xr, .inl (X.2.1, 6600, .inl xf2)), (yr, .inl (X.2.1, 6600, .inl yf2)), (vr, .inl (X.2.1, 6600, .inl vf2)), (cr, .inl (X.2.2, 6600, .inr (.inl cf2))), (wr, .inl (X.2.1, 6600, .inl wf2))] := hD
        try dsimp only at hbc
        refine lv_aload_n hx hb dX6_commit_34 rfl (lv_at hl 1 rfl) ?_
        refine va_get (D := X.1) (ci := 6) (v := .int (nI 1)) (C := RX6) (T := TX6) (N := 25) hx hb hts hin6 hown hK hP 0 rfl rfl 12 (by decide) lk29 (fun _ h9 => h9) rfl dX6_commit_35 ?_
        refine lv_if_eq (tgt := 49) hx hb dX6_commit_38 (by decide) (fun c_38 => ?_) (fun c_38 => ?_)
        · exact absurd c_38 (by decide)
        · skip
          refine lv_aload_n hx hb dX6_commit_41 rfl (lv_at hl 1 rfl) ?_
          refine va_get (D := X.1) (ci := 6) (v := .int (nI 1)) (C := RX6) (T := TX6) (N := 25) hx hb hts hin6 hown hK hP 0 rfl rfl 12 (by decide) lk29 (fun _ h9 => h9) rfl dX6_commit_42 ?_
          refine lv_iconst (v := nI 1) hx hb dX6_commit_45 (by decide) ?_
          refine lv_icmp_ne (tgt := 56) hx hb dX6_commit_46 (by decide) (fun c_46 => ?_) (fun c_46 => ?_)
          · exact absurd c_46 (by decide)
          · skip
            refine lv_aload_n hx hb dX6_commit_49 rfl (lv_at hl 1 rfl) ?_
            refine ckVi (As := []) (rest := []) 0 [0] (c_X6_goes l X m bl bk b sp mn xr yr vr cr wr 0 wl wc rx ry rv fr (nI 0) (nI 1) f_wt f_lv f_fi f_en f_rs f_cd) ⟨hx, hb, hml, hown, hts⟩ (cwV 0 hts gX6_commit_X6_goes rfl rfl rfl (by decide +kernel) ⟨Nat.le_of_ble_eq_true rfl, Nat.le_of_ble_eq_true rfl⟩) hK hN hP hD hS (by decide) rfl (ci := 6) rfl rfl (fun _ => rfl) rfl hl.1 rfl (Nat.le_of_ble_eq_true rfl) dX6_commit_50 ⟨Nat.zero_le _, Nat.zero_le _⟩ (fun r_4 u_3 H locs hc_50 hP hD hS => ?_)
            have hP : va_P X.1 vwCl [(m, .inr (6, [.int (nI bl), .int (nI bk), .int (nI b), .int (nI sp), .ref mn, .ref xr, .ref yr, .ref vr, .ref cr, .ref wr, .int (nI 0), .int (nI 1), .int (-1), .ref wl, .ref wc, .int f_wt, .int f_lv, .int f_fi, .int f_en, .long f_cd, .ref rx, .ref ry, .ref rv, .ref fr, .int (nI 0)])), (mn, .inl (X.2.1, 2, .inl mf2)), (xr, .inl (X.2.1, 6600, .inl xf2)), (yr, .inl (X.2.1, 6600, .inl yf2)), (vr, .inl (X.2.1, 6600, .inl vf2)), (cr, .inl (X.2.2, 6600, .inr (.inl cf2))), (wr, .inl (X.2.1, 6600, .inl wf2))] H := hP
            have hD : va_D A_ [(m, .inr (6, [.int (nI bl), .int (nI bk), .int (nI b), .int (nI sp), .ref mn, .ref xr, .ref yr, .ref vr, .ref cr, .ref wr, .int (nI 0), .int (nI 1), .int (-1), .ref wl, .ref wc, .int f_wt, .int f_lv, .int f_fi, .int f_en, .long f_cd, .ref rx, .ref ry, .ref rv, .ref fr, .int (nI 0)])), (mn, .inl (X.2.1, 2, .inl mf2)), (xr, .inl (X.2.1, 6600, .inl xf2)), (yr, .inl (X.2.1, 6600, .inl yf2)), (vr, .inl (X.2.1, 6600, .inl vf2)), (cr, .inl (X.2.2, 6600, .inr (.inl cf2))), (wr, .inl (X.2.1, 6600, .inl wf2))] := hD
            subst hc_50
            refine lv_goto (tgt := 57) hx hb dX6_commit_53 (by decide) ?_
            refine wM hQ ?_
            exact rtI (mf2, xf2, yf2, vf2, wf2, cf2) hx hb hr hlocks hP hS (⟨rfl, hbc⟩) dX6_commit_57
    · change nI nc = nI 0 at c_16
      replace c_16 : nc = 0 := (nI_eq (by omega) (by omega)).mp c_16
      omega
  · exact absurd c_4 (by decide)
set_option maxHeartbeats 4000000 in
set_option maxRecDepth 100000 in
theorem c_X6_commit_n (l : Launch) (X : kX) (m bl bk b sp mn xr yr vr cr wr nc wl wc rx ry rv fr : Nat) (f_ar f_wt f_lv f_fi f_en f_rs : Int32) (f_cd : Int64) (mf xf yf vf wf : Nat → Int32) (cf : Nat → Int64) (P ZP : PL) (h0 : mSt b mf xf yf vf wf cf 0 P ZP) (hnc : nc ≤ 60) (hn0 : 0 < nc) (ha0 : ¬ f_ar = 0) (ha1 : ¬ f_ar = nI 1) : CWi l X yX6_commit wsX6_commit 2 [.ref m] [(m, .inr (6, [.int (nI bl), .int (nI bk), .int (nI b), .int (nI sp), .ref mn, .ref xr, .ref yr, .ref vr, .ref cr, .ref wr, .int (nI nc), .int (nI 0), .int f_ar, .ref wl, .ref wc, .int f_wt, .int f_lv, .int f_fi, .int f_en, .long f_cd, .ref rx, .ref ry, .ref rv, .ref fr, .int f_rs])), (mn, .inl (X.2.1, 2, .inl mf)), (xr, .inl (X.2.1, 6600, .inl xf)), (yr, .inl (X.2.1, 6600, .inl yf)), (vr, .inl (X.2.1, 6600, .inl vf)), (cr, .inl (X.2.2, 6600, .inr (.inl cf))), (wr, .inl (X.2.1, 6600, .inl wf))] (S := (Nat → Int32) × (Nat → Int32) × (Nat → Int32) × (Nat → Int32) × (Nat → Int32) × (Nat → Int64)) (fun r u => r = nI nc ∧ mSt b u.1 u.2.1 u.2.2.1 u.2.2.2.1 u.2.2.2.2.1 u.2.2.2.2.2 0 P ZP ∧ mSt b u.1 u.2.1 u.2.2.1 u.2.2.2.1 u.2.2.2.2.1 u.2.2.2.2.2 1 P ZP) (fun ⟨mf2, xf2, yf2, vf2, wf2, cf2⟩ => [(m, .inr (6, [.int (nI bl), .int (nI bk), .int (nI b), .int (nI sp), .ref mn, .ref xr, .ref yr, .ref vr, .ref cr, .ref wr, .int (nI 0), .int (nI 0), .int f_ar, .ref wl, .ref wc, .int f_wt, .int f_lv, .int f_fi, .int f_en, .long f_cd, .ref rx, .ref ry, .ref rv, .ref fr, .int f_rs])), (mn, .inl (X.2.1, 2, .inl mf2)), (xr, .inl (X.2.1, 6600, .inl xf2)), (yr, .inl (X.2.1, 6600, .inl yf2)), (vr, .inl (X.2.1, 6600, .inl vf2)), (cr, .inl (X.2.2, 6600, .inr (.inl cf2))), (wr, .inl (X.2.1, 6600, .inl wf2))]) := by
  refine Met.ofW (cc := cX6_commit) (maxL := 2) (ret := some (.int)) (by decide) rfl ?_
  intro pz ez sz mz args below meth cz s₁ Bz hml hv
  obtain ⟨rfl, hP, hK, hD0, hN⟩ := hv
  have hx := Bz.exec
  have hb := Bz.bytes
  have hr := Bz.returns
  have hts := atoms_spec (ws := wsX6_commit) Bz.pre
  have hown : sz.vm.findClass RX6 = some mz.cls := findClass_of_methodNamed Bz.named
  have hlocks := Bz.notSynchronized
  have hD := inW.self hD0
  have hS : va_S (inW [(m, .inr (6, [.int (nI bl), .int (nI bk), .int (nI b), .int (nI sp), .ref mn, .ref xr, .ref yr, .ref vr, .ref cr, .ref wr, .int (nI nc), .int (nI 0), .int f_ar, .ref wl, .ref wc, .int f_wt, .int f_lv, .int f_fi, .int f_en, .long f_cd, .ref rx, .ref ry, .ref rv, .ref fr, .int f_rs])), (mn, .inl (X.2.1, 2, .inl mf)), (xr, .inl (X.2.1, 6600, .inl xf)), (yr, .inl (X.2.1, 6600, .inl yf)), (vr, .inl (X.2.1, 6600, .inl vf)), (cr, .inl (X.2.2, 6600, .inr (.inl cf))), (wr, .inl (X.2.1, 6600, .inl wf))]) sz.heap sz.heap [] := va_S.rf
  have hl := lv_entry ([.ref m]) (n := 2) (Nat.le_of_ble_eq_true rfl)
  rw [lg_entry_eq]
  generalize (lg_sl ([.ref m]) ++ List.replicate (2 - (lg_sl ([.ref m])).length) Slot.unset).toArray = ls at hl ⊢
  have hl : lv_has ls 2 [(0, .ref m)] := hl
  have lk29 := hts (.fieldLink RX6 29 "PointStoreModel" "armed" "I") (by decide +kernel)
  have lk71 := hts (.fieldLink RX6 71 "PointStoreModel" "changes" "I") (by decide +kernel)
  have lk105 := hts (.fieldLink RX6 105 "PointStoreModel" "isOff" "Z") (by decide +kernel)
  have hin6 : ∀ w ∈ u_ws RX6 TX6 25, w ∈ wsX6_commit := by decide +kernel
  refine wQ (fun Q hQ => ?_)
  generalize hAe : inW [(m, .inr (6, [.int (nI bl), .int (nI bk), .int (nI b), .int (nI sp), .ref mn, .ref xr, .ref yr, .ref vr, .ref cr, .ref wr, .int (nI nc), .int (nI 0), .int f_ar, .ref wl, .ref wc, .int f_wt, .int f_lv, .int f_fi, .int f_en, .long f_cd, .ref rx, .ref ry, .ref rv, .ref fr, .int f_rs])), (mn, .inl (X.2.1, 2, .inl mf)), (xr, .inl (X.2.1, 6600, .inl xf)), (yr, .inl (X.2.1, 6600, .inl yf)), (vr, .inl (X.2.1, 6600, .inl vf)), (cr, .inl (X.2.2, 6600, .inr (.inl cf))), (wr, .inl (X.2.1, 6600, .inl wf))] = A_ at hD hS hQ
  refine lv_aload_n hx hb dX6_commit_0 rfl (lv_at hl 0 rfl) ?_
  refine va_get (D := X.1) (ci := 6) (v := .int (nI 0)) (C := RX6) (T := TX6) (N := 25) hx hb hts hin6 hown hK hP 0 rfl rfl 11 (by decide) lk105 (fun _ h9 => h9) rfl dX6_commit_1 ?_
  refine lv_if_eq (tgt := 10) hx hb dX6_commit_4 (by decide) (fun c_4 => ?_) (fun c_4 => ?_)
  · skip
    refine lv_aload_n hx hb dX6_commit_10 rfl (lv_at hl 0 rfl) ?_
    refine va_get (D := X.1) (ci := 6) (v := .int (nI nc)) (C := RX6) (T := TX6) (N := 25) hx hb hts hin6 hown hK hP 0 rfl rfl 10 (by decide) lk71 (fun _ h9 => h9) rfl dX6_commit_11 ?_
    refine lv_istore_n (lv' := [(1, .int (nI nc)), (0, .ref m)]) hx hb dX6_commit_14 rfl hl (by decide) rfl (fun ls hl => ?_)
    refine lv_iload_n hx hb dX6_commit_15 rfl (lv_at hl 0 rfl) ?_
    refine lv_if_ne (tgt := 21) hx hb dX6_commit_16 (by decide) (fun c_16 => ?_) (fun c_16 => ?_)
    · change ¬ nI nc = nI 0 at c_16
      replace c_16 : ¬ nc = 0 := fun h9 => c_16 ((nI_eq (by omega) (by omega)).mpr h9)
      refine lv_aload_n hx hb dX6_commit_21 rfl (lv_at hl 1 rfl) ?_
      refine va_get (D := X.1) (ci := 6) (v := .int f_ar) (C := RX6) (T := TX6) (N := 25) hx hb hts hin6 hown hK hP 0 rfl rfl 12 (by decide) lk29 (fun _ h9 => h9) rfl dX6_commit_22 ?_
      refine lv_if_eq (tgt := 34) hx hb dX6_commit_25 (by decide) (fun c_25 => ?_) (fun c_25 => ?_)
      · skip
        exact absurd c_25 ha0
      · skip
        refine lv_aload_n hx hb dX6_commit_28 rfl (lv_at hl 1 rfl) ?_
        refine lv_iconst (v := nI 1) hx hb dX6_commit_29 (by decide) ?_
        refine lv_iconst (v := nI 0) hx hb dX6_commit_30 (by decide) ?_
        refine ckVv (As := [.int (nI 1), .int (nI 0)]) (rest := []) 0 [0, 1, 2, 3, 4, 5, 6] (c_X6_becomes l X m bl bk b sp mn xr yr vr cr wr nc wl wc rx ry rv fr (nI 0) f_ar f_wt f_lv f_fi f_en f_rs f_cd 1 0 mf xf yf vf wf cf P ZP h0 rfl) ⟨hx, hb, hml, hown, hts⟩ (cwV 2 hts gX6_commit_X6_becomes rfl rfl rfl (by decide +kernel) ⟨Nat.le_of_ble_eq_true rfl, Nat.le_of_ble_eq_true rfl⟩) hK hN hP hD hS (by decide) rfl (ci := 6) rfl rfl (fun _ => rfl) rfl hl.1 rfl (Nat.le_of_ble_eq_true rfl) dX6_commit_31 ⟨Nat.zero_le _, Nat.zero_le _⟩ (fun u_1 H locs hbc hP hD hS => ?_)
        obtain ⟨mf2, xf2, yf2, vf2, wf2, cf2⟩ := u_1
        have hP : va_P X.1 vwCl [(m, .inr (6, [.int (nI bl), .int (nI bk), .int (nI b), .int (nI sp), .ref mn, .ref xr, .ref yr, .ref vr, .ref cr, .ref wr, .int (nI 0), .int (nI 0), .int f_ar, .ref wl, .ref wc, .int f_wt, .int f_lv, .int f_fi, .int f_en, .long f_cd, .ref rx, .ref ry, .ref rv, .ref fr, .int f_rs])), (mn, .inl (X.2.1, 2, .inl mf2)), (xr, .inl (X.2.1, 6600, .inl xf2)), (yr, .inl (X.2.1, 6600, .inl yf2)), (vr, .inl (X.2.1, 6600, .inl vf2)), (cr, .inl (X.2.2, 6600, .inr (.inl cf2))), (wr, .inl (X.2.1, 6600, .inl wf2))] H := hP
        have hD : va_D A_ [(m, .inr (6, [.int (nI bl), .int (nI bk), .int (nI b), .int (nI sp), .ref mn, .ref xr, .ref yr, .ref vr, .ref cr, .ref wr, .int (nI 0), .int (nI 0), .int f_ar, .ref wl, .ref wc, .int f_wt, .int f_lv, .int f_fi, .int f_en, .long f_cd, .ref rx, .ref ry, .ref rv, .ref fr, .int f_rs])), (mn, .inl (X.2.1, 2, .inl mf2)), (xr, .inl (X.2.1, 6600, .inl xf2)), (yr, .inl (X.2.1, 6600, .inl yf2)), (vr, .inl (X.2.1, 6600, .inl vf2)), (cr, .inl (X.2.2, 6600, .inr (.inl cf2))), (wr, .inl (X.2.1, 6600, .inl wf2))] := hD
        try dsimp only at hbc
        refine lv_aload_n hx hb dX6_commit_34 rfl (lv_at hl 1 rfl) ?_
        refine va_get (D := X.1) (ci := 6) (v := .int f_ar) (C := RX6) (T := TX6) (N := 25) hx hb hts hin6 hown hK hP 0 rfl rfl 12 (by decide) lk29 (fun _ h9 => h9) rfl dX6_commit_35 ?_
        refine lv_if_eq (tgt := 49) hx hb dX6_commit_38 (by decide) (fun c_38 => ?_) (fun c_38 => ?_)
        · skip
          exact absurd c_38 ha0
        · skip
          refine lv_aload_n hx hb dX6_commit_41 rfl (lv_at hl 1 rfl) ?_
          refine va_get (D := X.1) (ci := 6) (v := .int f_ar) (C := RX6) (T := TX6) (N := 25) hx hb hts hin6 hown hK hP 0 rfl rfl 12 (by decide) lk29 (fun _ h9 => h9) rfl dX6_commit_42 ?_
          refine lv_iconst (v := nI 1) hx hb dX6_commit_45 (by decide) ?_
          refine lv_icmp_ne (tgt := 56) hx hb dX6_commit_46 (by decide) (fun c_46 => ?_) (fun c_46 => ?_)
          · skip
            refine lv_iload_n hx hb dX6_commit_56 rfl (lv_at hl 0 rfl) ?_
            refine wM hQ ?_
            exact rtI (mf2, xf2, yf2, vf2, wf2, cf2) hx hb hr hlocks hP hS (⟨rfl, hbc⟩) dX6_commit_57
          · skip
            exact absurd c_46 ha1
    · change nI nc = nI 0 at c_16
      replace c_16 : nc = 0 := (nI_eq (by omega) (by omega)).mp c_16
      omega
  · exact absurd c_4 (by decide)
set_option maxHeartbeats 4000000 in
set_option maxRecDepth 100000 in
theorem c_X6_abort (l : Launch) (X : kX) (m bl bk b sp mn xr yr vr cr wr nc wl wc rx ry rv fr : Nat) (f_ar f_wt f_lv f_fi f_en f_rs : Int32) (f_cd : Int64) (mf xf yf vf wf : Nat → Int32) (cf : Nat → Int64) (Qm ZQm : PL) (h1 : mSt b mf xf yf vf wf cf 1 Qm ZQm) : CWi l X yX6_abort wsX6_abort 2 [.ref m] [(m, .inr (6, [.int (nI bl), .int (nI bk), .int (nI b), .int (nI sp), .ref mn, .ref xr, .ref yr, .ref vr, .ref cr, .ref wr, .int (nI nc), .int (nI 0), .int f_ar, .ref wl, .ref wc, .int f_wt, .int f_lv, .int f_fi, .int f_en, .long f_cd, .ref rx, .ref ry, .ref rv, .ref fr, .int f_rs])), (mn, .inl (X.2.1, 2, .inl mf)), (xr, .inl (X.2.1, 6600, .inl xf)), (yr, .inl (X.2.1, 6600, .inl yf)), (vr, .inl (X.2.1, 6600, .inl vf)), (cr, .inl (X.2.2, 6600, .inr (.inl cf))), (wr, .inl (X.2.1, 6600, .inl wf))] (S := (Nat → Int32) × (Nat → Int32) × (Nat → Int32) × (Nat → Int32) × (Nat → Int32) × (Nat → Int64)) (fun r u => r = nI nc ∧ mSt b u.1 u.2.1 u.2.2.1 u.2.2.2.1 u.2.2.2.2.1 u.2.2.2.2.2 0 Qm ZQm ∧ mSt b u.1 u.2.1 u.2.2.1 u.2.2.2.1 u.2.2.2.2.1 u.2.2.2.2.2 1 Qm ZQm) (fun ⟨mf2, xf2, yf2, vf2, wf2, cf2⟩ => [(m, .inr (6, [.int (nI bl), .int (nI bk), .int (nI b), .int (nI sp), .ref mn, .ref xr, .ref yr, .ref vr, .ref cr, .ref wr, .int (nI 0), .int (nI 0), .int f_ar, .ref wl, .ref wc, .int f_wt, .int f_lv, .int f_fi, .int f_en, .long f_cd, .ref rx, .ref ry, .ref rv, .ref fr, .int f_rs])), (mn, .inl (X.2.1, 2, .inl mf2)), (xr, .inl (X.2.1, 6600, .inl xf2)), (yr, .inl (X.2.1, 6600, .inl yf2)), (vr, .inl (X.2.1, 6600, .inl vf2)), (cr, .inl (X.2.2, 6600, .inr (.inl cf2))), (wr, .inl (X.2.1, 6600, .inl wf2))]) := by
  refine Met.ofW (cc := cX6_abort) (maxL := 2) (ret := some (.int)) (by decide) rfl ?_
  intro pz ez sz mz args below meth cz s₁ Bz hml hv
  obtain ⟨rfl, hP, hK, hD0, hN⟩ := hv
  have hx := Bz.exec
  have hb := Bz.bytes
  have hr := Bz.returns
  have hts := atoms_spec (ws := wsX6_abort) Bz.pre
  have hown : sz.vm.findClass RX6 = some mz.cls := findClass_of_methodNamed Bz.named
  have hlocks := Bz.notSynchronized
  have hD := inW.self hD0
  have hS : va_S (inW [(m, .inr (6, [.int (nI bl), .int (nI bk), .int (nI b), .int (nI sp), .ref mn, .ref xr, .ref yr, .ref vr, .ref cr, .ref wr, .int (nI nc), .int (nI 0), .int f_ar, .ref wl, .ref wc, .int f_wt, .int f_lv, .int f_fi, .int f_en, .long f_cd, .ref rx, .ref ry, .ref rv, .ref fr, .int f_rs])), (mn, .inl (X.2.1, 2, .inl mf)), (xr, .inl (X.2.1, 6600, .inl xf)), (yr, .inl (X.2.1, 6600, .inl yf)), (vr, .inl (X.2.1, 6600, .inl vf)), (cr, .inl (X.2.2, 6600, .inr (.inl cf))), (wr, .inl (X.2.1, 6600, .inl wf))]) sz.heap sz.heap [] := va_S.rf
  have hl := lv_entry ([.ref m]) (n := 2) (Nat.le_of_ble_eq_true rfl)
  rw [lg_entry_eq]
  generalize (lg_sl ([.ref m]) ++ List.replicate (2 - (lg_sl ([.ref m])).length) Slot.unset).toArray = ls at hl ⊢
  have hl : lv_has ls 2 [(0, .ref m)] := hl
  have lk71 := hts (.fieldLink RX6 71 "PointStoreModel" "changes" "I") (by decide +kernel)
  have lk105 := hts (.fieldLink RX6 105 "PointStoreModel" "isOff" "Z") (by decide +kernel)
  have hin6 : ∀ w ∈ u_ws RX6 TX6 25, w ∈ wsX6_abort := by decide +kernel
  refine wQ (fun Q hQ => ?_)
  generalize hAe : inW [(m, .inr (6, [.int (nI bl), .int (nI bk), .int (nI b), .int (nI sp), .ref mn, .ref xr, .ref yr, .ref vr, .ref cr, .ref wr, .int (nI nc), .int (nI 0), .int f_ar, .ref wl, .ref wc, .int f_wt, .int f_lv, .int f_fi, .int f_en, .long f_cd, .ref rx, .ref ry, .ref rv, .ref fr, .int f_rs])), (mn, .inl (X.2.1, 2, .inl mf)), (xr, .inl (X.2.1, 6600, .inl xf)), (yr, .inl (X.2.1, 6600, .inl yf)), (vr, .inl (X.2.1, 6600, .inl vf)), (cr, .inl (X.2.2, 6600, .inr (.inl cf))), (wr, .inl (X.2.1, 6600, .inl wf))] = A_ at hD hS hQ
  refine lv_aload_n hx hb dX6_abort_0 rfl (lv_at hl 0 rfl) ?_
  refine va_get (D := X.1) (ci := 6) (v := .int (nI 0)) (C := RX6) (T := TX6) (N := 25) hx hb hts hin6 hown hK hP 0 rfl rfl 11 (by decide) lk105 (fun _ h9 => h9) rfl dX6_abort_1 ?_
  refine lv_if_eq (tgt := 10) hx hb dX6_abort_4 (by decide) (fun c_4 => ?_) (fun c_4 => ?_)
  · skip
    refine lv_aload_n hx hb dX6_abort_10 rfl (lv_at hl 0 rfl) ?_
    refine va_get (D := X.1) (ci := 6) (v := .int (nI nc)) (C := RX6) (T := TX6) (N := 25) hx hb hts hin6 hown hK hP 0 rfl rfl 10 (by decide) lk71 (fun _ h9 => h9) rfl dX6_abort_11 ?_
    refine lv_istore_n (lv' := [(1, .int (nI nc)), (0, .ref m)]) hx hb dX6_abort_14 rfl hl (by decide) rfl (fun ls hl => ?_)
    refine lv_aload_n hx hb dX6_abort_15 rfl (lv_at hl 1 rfl) ?_
    refine lv_iconst (v := nI 0) hx hb dX6_abort_16 (by decide) ?_
    refine lv_iconst (v := nI 1) hx hb dX6_abort_17 (by decide) ?_
    refine ckVv (As := [.int (nI 0), .int (nI 1)]) (rest := []) 0 [0, 1, 2, 3, 4, 5, 6] (c_X6_becomes l X m bl bk b sp mn xr yr vr cr wr nc wl wc rx ry rv fr (nI 0) f_ar f_wt f_lv f_fi f_en f_rs f_cd 0 1 mf xf yf vf wf cf Qm ZQm h1 rfl) ⟨hx, hb, hml, hown, hts⟩ (cwV 2 hts gX6_abort_X6_becomes rfl rfl rfl (by decide +kernel) ⟨Nat.le_of_ble_eq_true rfl, Nat.le_of_ble_eq_true rfl⟩) hK hN hP hD hS (by decide) rfl (ci := 6) rfl rfl (fun _ => rfl) rfl hl.1 rfl (Nat.le_of_ble_eq_true rfl) dX6_abort_18 ⟨Nat.zero_le _, Nat.zero_le _⟩ (fun u_1 H locs hbc hP hD hS => ?_)
    obtain ⟨mf2, xf2, yf2, vf2, wf2, cf2⟩ := u_1
    have hP : va_P X.1 vwCl [(m, .inr (6, [.int (nI bl), .int (nI bk), .int (nI b), .int (nI sp), .ref mn, .ref xr, .ref yr, .ref vr, .ref cr, .ref wr, .int (nI 0), .int (nI 0), .int f_ar, .ref wl, .ref wc, .int f_wt, .int f_lv, .int f_fi, .int f_en, .long f_cd, .ref rx, .ref ry, .ref rv, .ref fr, .int f_rs])), (mn, .inl (X.2.1, 2, .inl mf2)), (xr, .inl (X.2.1, 6600, .inl xf2)), (yr, .inl (X.2.1, 6600, .inl yf2)), (vr, .inl (X.2.1, 6600, .inl vf2)), (cr, .inl (X.2.2, 6600, .inr (.inl cf2))), (wr, .inl (X.2.1, 6600, .inl wf2))] H := hP
    have hD : va_D A_ [(m, .inr (6, [.int (nI bl), .int (nI bk), .int (nI b), .int (nI sp), .ref mn, .ref xr, .ref yr, .ref vr, .ref cr, .ref wr, .int (nI 0), .int (nI 0), .int f_ar, .ref wl, .ref wc, .int f_wt, .int f_lv, .int f_fi, .int f_en, .long f_cd, .ref rx, .ref ry, .ref rv, .ref fr, .int f_rs])), (mn, .inl (X.2.1, 2, .inl mf2)), (xr, .inl (X.2.1, 6600, .inl xf2)), (yr, .inl (X.2.1, 6600, .inl yf2)), (vr, .inl (X.2.1, 6600, .inl vf2)), (cr, .inl (X.2.2, 6600, .inr (.inl cf2))), (wr, .inl (X.2.1, 6600, .inl wf2))] := hD
    try dsimp only at hbc
    refine lv_iload_n hx hb dX6_abort_21 rfl (lv_at hl 0 rfl) ?_
    refine wM hQ ?_
    exact rtI (mf2, xf2, yf2, vf2, wf2, cf2) hx hb hr hlocks hP hS (⟨rfl, hbc⟩) dX6_abort_22
  · exact absurd c_4 (by decide)
set_option maxHeartbeats 4000000 in
set_option maxRecDepth 100000 in
theorem c_X6_format_a (l : Launch) (X : kX) (m bl bk b sp mn xr yr vr cr wr nc wl wc rx ry rv fr : Nat) (f_wt f_lv f_fi f_en f_rs : Int32) (f_cd : Int64) : CWi l X yX6_format wsX6_format 2 [.ref m] [(m, .inr (6, [.int (nI bl), .int (nI bk), .int (nI b), .int (nI sp), .ref mn, .ref xr, .ref yr, .ref vr, .ref cr, .ref wr, .int (nI nc), .int (nI 0), .int (nI 0), .ref wl, .ref wc, .int f_wt, .int f_lv, .int f_fi, .int f_en, .long f_cd, .ref rx, .ref ry, .ref rv, .ref fr, .int f_rs]))] (S := Unit) (fun r _ => r = -2) (fun _ => [(m, .inr (6, [.int (nI bl), .int (nI bk), .int (nI b), .int (nI sp), .ref mn, .ref xr, .ref yr, .ref vr, .ref cr, .ref wr, .int (nI nc), .int (nI 1), .int (-1), .ref wl, .ref wc, .int f_wt, .int f_lv, .int f_fi, .int f_en, .long f_cd, .ref rx, .ref ry, .ref rv, .ref fr, .int (nI 0)]))]) := by
  refine Met.ofW (cc := cX6_format) (maxL := 1) (ret := some (.int)) (by decide) rfl ?_
  intro pz ez sz mz args below meth cz s₁ Bz hml hv
  obtain ⟨rfl, hP, hK, hD0, hN⟩ := hv
  have hx := Bz.exec
  have hb := Bz.bytes
  have hr := Bz.returns
  have hts := atoms_spec (ws := wsX6_format) Bz.pre
  have hown : sz.vm.findClass RX6 = some mz.cls := findClass_of_methodNamed Bz.named
  have hlocks := Bz.notSynchronized
  have hD := inW.self hD0
  have hS : va_S (inW [(m, .inr (6, [.int (nI bl), .int (nI bk), .int (nI b), .int (nI sp), .ref mn, .ref xr, .ref yr, .ref vr, .ref cr, .ref wr, .int (nI nc), .int (nI 0), .int (nI 0), .ref wl, .ref wc, .int f_wt, .int f_lv, .int f_fi, .int f_en, .long f_cd, .ref rx, .ref ry, .ref rv, .ref fr, .int f_rs]))]) sz.heap sz.heap [] := va_S.rf
  have hl := lv_entry ([.ref m]) (n := 1) (Nat.le_of_ble_eq_true rfl)
  rw [lg_entry_eq]
  generalize (lg_sl ([.ref m]) ++ List.replicate (1 - (lg_sl ([.ref m])).length) Slot.unset).toArray = ls at hl ⊢
  have hl : lv_has ls 1 [(0, .ref m)] := hl
  have lk29 := hts (.fieldLink RX6 29 "PointStoreModel" "armed" "I") (by decide +kernel)
  have lk105 := hts (.fieldLink RX6 105 "PointStoreModel" "isOff" "Z") (by decide +kernel)
  have hin6 : ∀ w ∈ u_ws RX6 TX6 25, w ∈ wsX6_format := by decide +kernel
  refine wQ (fun Q hQ => ?_)
  generalize hAe : inW [(m, .inr (6, [.int (nI bl), .int (nI bk), .int (nI b), .int (nI sp), .ref mn, .ref xr, .ref yr, .ref vr, .ref cr, .ref wr, .int (nI nc), .int (nI 0), .int (nI 0), .ref wl, .ref wc, .int f_wt, .int f_lv, .int f_fi, .int f_en, .long f_cd, .ref rx, .ref ry, .ref rv, .ref fr, .int f_rs]))] = A_ at hD hS hQ
  refine lv_aload_n hx hb dX6_format_0 rfl (lv_at hl 0 rfl) ?_
  refine va_get (D := X.1) (ci := 6) (v := .int (nI 0)) (C := RX6) (T := TX6) (N := 25) hx hb hts hin6 hown hK hP 0 rfl rfl 11 (by decide) lk105 (fun _ h9 => h9) rfl dX6_format_1 ?_
  refine lv_if_eq (tgt := 10) hx hb dX6_format_4 (by decide) (fun c_4 => ?_) (fun c_4 => ?_)
  · skip
    refine lv_aload_n hx hb dX6_format_10 rfl (lv_at hl 0 rfl) ?_
    refine va_get (D := X.1) (ci := 6) (v := .int (nI 0)) (C := RX6) (T := TX6) (N := 25) hx hb hts hin6 hown hK hP 0 rfl rfl 12 (by decide) lk29 (fun _ h9 => h9) rfl dX6_format_11 ?_
    refine lv_if_eq (tgt := 36) hx hb dX6_format_14 (by decide) (fun c_14 => ?_) (fun c_14 => ?_)
    · skip
      refine lv_aload_n hx hb dX6_format_36 rfl (lv_at hl 0 rfl) ?_
      refine va_get (D := X.1) (ci := 6) (v := .int (nI 0)) (C := RX6) (T := TX6) (N := 25) hx hb hts hin6 hown hK hP 0 rfl rfl 12 (by decide) lk29 (fun _ h9 => h9) rfl dX6_format_37 ?_
      refine lv_if_eq (tgt := 51) hx hb dX6_format_40 (by decide) (fun c_40 => ?_) (fun c_40 => ?_)
      · skip
        refine lv_aload_n hx hb dX6_format_51 rfl (lv_at hl 0 rfl) ?_
        refine ckVi (As := []) (rest := []) 0 [0] (c_X6_goes l X m bl bk b sp mn xr yr vr cr wr nc wl wc rx ry rv fr (nI 0) (nI 0) f_wt f_lv f_fi f_en f_rs f_cd) ⟨hx, hb, hml, hown, hts⟩ (cwV 0 hts gX6_format_X6_goes rfl rfl rfl (by decide +kernel) ⟨Nat.le_of_ble_eq_true rfl, Nat.le_of_ble_eq_true rfl⟩) hK hN hP hD hS (by decide) rfl (ci := 6) rfl rfl (fun _ => rfl) rfl hl.1 rfl (Nat.le_of_ble_eq_true rfl) dX6_format_52 ⟨Nat.zero_le _, Nat.zero_le _⟩ (fun r_2 u_1 H locs hc_52 hP hD hS => ?_)
        have hP : va_P X.1 vwCl [(m, .inr (6, [.int (nI bl), .int (nI bk), .int (nI b), .int (nI sp), .ref mn, .ref xr, .ref yr, .ref vr, .ref cr, .ref wr, .int (nI nc), .int (nI 1), .int (-1), .ref wl, .ref wc, .int f_wt, .int f_lv, .int f_fi, .int f_en, .long f_cd, .ref rx, .ref ry, .ref rv, .ref fr, .int (nI 0)]))] H := hP
        have hD : va_D A_ [(m, .inr (6, [.int (nI bl), .int (nI bk), .int (nI b), .int (nI sp), .ref mn, .ref xr, .ref yr, .ref vr, .ref cr, .ref wr, .int (nI nc), .int (nI 1), .int (-1), .ref wl, .ref wc, .int f_wt, .int f_lv, .int f_fi, .int f_en, .long f_cd, .ref rx, .ref ry, .ref rv, .ref fr, .int (nI 0)]))] := hD
        subst hc_52
        refine lv_goto (tgt := 59) hx hb dX6_format_55 (by decide) ?_
        refine wM hQ ?_
        exact rtI () hx hb hr hlocks hP hS (rfl) dX6_format_59
      · exact absurd c_40 (by decide)
    · exact absurd c_14 (by decide)
  · exact absurd c_4 (by decide)
set_option maxHeartbeats 4000000 in
set_option maxRecDepth 100000 in
theorem c_X6_format_b (l : Launch) (X : kX) (m bl bk b sp mn xr yr vr cr wr nc wl wc rx ry rv fr : Nat) (f_wt f_lv f_fi f_en f_rs : Int32) (f_cd : Int64) (mf : Nat → Int32) : CWi l X yX6_format wsX6_format 2 [.ref m] [(m, .inr (6, [.int (nI bl), .int (nI bk), .int (nI b), .int (nI sp), .ref mn, .ref xr, .ref yr, .ref vr, .ref cr, .ref wr, .int (nI nc), .int (nI 0), .int (nI 1), .ref wl, .ref wc, .int f_wt, .int f_lv, .int f_fi, .int f_en, .long f_cd, .ref rx, .ref ry, .ref rv, .ref fr, .int f_rs])), (mn, .inl (X.2.1, 2, .inl mf))] (S := Unit) (fun r _ => r = -2) (fun _ => [(m, .inr (6, [.int (nI bl), .int (nI bk), .int (nI b), .int (nI sp), .ref mn, .ref xr, .ref yr, .ref vr, .ref cr, .ref wr, .int (nI 0), .int (nI 1), .int (-1), .ref wl, .ref wc, .int f_wt, .int f_lv, .int f_fi, .int f_en, .long f_cd, .ref rx, .ref ry, .ref rv, .ref fr, .int (nI 0)])), (mn, .inl (X.2.1, 2, .inl (upd (upd mf 0 (nI 0)) 1 (nI 0))))]) := by
  refine Met.ofW (cc := cX6_format) (maxL := 1) (ret := some (.int)) (by decide) rfl ?_
  intro pz ez sz mz args below meth cz s₁ Bz hml hv
  obtain ⟨rfl, hP, hK, hD0, hN⟩ := hv
  have hx := Bz.exec
  have hb := Bz.bytes
  have hr := Bz.returns
  have hts := atoms_spec (ws := wsX6_format) Bz.pre
  have hown : sz.vm.findClass RX6 = some mz.cls := findClass_of_methodNamed Bz.named
  have hlocks := Bz.notSynchronized
  have hD := inW.self hD0
  have hS : va_S (inW [(m, .inr (6, [.int (nI bl), .int (nI bk), .int (nI b), .int (nI sp), .ref mn, .ref xr, .ref yr, .ref vr, .ref cr, .ref wr, .int (nI nc), .int (nI 0), .int (nI 1), .ref wl, .ref wc, .int f_wt, .int f_lv, .int f_fi, .int f_en, .long f_cd, .ref rx, .ref ry, .ref rv, .ref fr, .int f_rs])), (mn, .inl (X.2.1, 2, .inl mf))]) sz.heap sz.heap [] := va_S.rf
  have hl := lv_entry ([.ref m]) (n := 1) (Nat.le_of_ble_eq_true rfl)
  rw [lg_entry_eq]
  generalize (lg_sl ([.ref m]) ++ List.replicate (1 - (lg_sl ([.ref m])).length) Slot.unset).toArray = ls at hl ⊢
  have hl : lv_has ls 1 [(0, .ref m)] := hl
  have lk7 := hts (.fieldLink RX6 7 "PointStoreModel" "many" "[I") (by decide +kernel)
  have lk29 := hts (.fieldLink RX6 29 "PointStoreModel" "armed" "I") (by decide +kernel)
  have lk71 := hts (.fieldLink RX6 71 "PointStoreModel" "changes" "I") (by decide +kernel)
  have lk105 := hts (.fieldLink RX6 105 "PointStoreModel" "isOff" "Z") (by decide +kernel)
  have hin6 : ∀ w ∈ u_ws RX6 TX6 25, w ∈ wsX6_format := by decide +kernel
  refine wQ (fun Q hQ => ?_)
  generalize hAe : inW [(m, .inr (6, [.int (nI bl), .int (nI bk), .int (nI b), .int (nI sp), .ref mn, .ref xr, .ref yr, .ref vr, .ref cr, .ref wr, .int (nI nc), .int (nI 0), .int (nI 1), .ref wl, .ref wc, .int f_wt, .int f_lv, .int f_fi, .int f_en, .long f_cd, .ref rx, .ref ry, .ref rv, .ref fr, .int f_rs])), (mn, .inl (X.2.1, 2, .inl mf))] = A_ at hD hS hQ
  refine lv_aload_n hx hb dX6_format_0 rfl (lv_at hl 0 rfl) ?_
  refine va_get (D := X.1) (ci := 6) (v := .int (nI 0)) (C := RX6) (T := TX6) (N := 25) hx hb hts hin6 hown hK hP 0 rfl rfl 11 (by decide) lk105 (fun _ h9 => h9) rfl dX6_format_1 ?_
  refine lv_if_eq (tgt := 10) hx hb dX6_format_4 (by decide) (fun c_4 => ?_) (fun c_4 => ?_)
  · skip
    refine lv_aload_n hx hb dX6_format_10 rfl (lv_at hl 0 rfl) ?_
    refine va_get (D := X.1) (ci := 6) (v := .int (nI 1)) (C := RX6) (T := TX6) (N := 25) hx hb hts hin6 hown hK hP 0 rfl rfl 12 (by decide) lk29 (fun _ h9 => h9) rfl dX6_format_11 ?_
    refine lv_if_eq (tgt := 36) hx hb dX6_format_14 (by decide) (fun c_14 => ?_) (fun c_14 => ?_)
    · exact absurd c_14 (by decide)
    · skip
      refine lv_aload_n hx hb dX6_format_17 rfl (lv_at hl 0 rfl) ?_
      refine va_get (D := X.1) (ci := 6) (v := .ref mn) (C := RX6) (T := TX6) (N := 25) hx hb hts hin6 hown hK hP 0 rfl rfl 4 (by decide) lk7 (fun _ h9 => h9) rfl dX6_format_18 ?_
      refine lv_iconst (v := nI 0) hx hb dX6_format_21 (by decide) ?_
      refine lv_iconst (v := nI 0) hx hb dX6_format_22 (by decide) ?_
      have hi_1 : vp_in (nI 0) 2 := vp_in_nI (by omega) (by omega)
      refine va_iast hx hb hK hP hD hS 1 0 rfl rfl hi_1 dX6_format_23 (fun H locs hP hD hS => ?_)
      rw [nI_clamp (by omega)] at hP hD
      have hP : va_P X.1 vwCl [(m, .inr (6, [.int (nI bl), .int (nI bk), .int (nI b), .int (nI sp), .ref mn, .ref xr, .ref yr, .ref vr, .ref cr, .ref wr, .int (nI nc), .int (nI 0), .int (nI 1), .ref wl, .ref wc, .int f_wt, .int f_lv, .int f_fi, .int f_en, .long f_cd, .ref rx, .ref ry, .ref rv, .ref fr, .int f_rs])), (mn, .inl (X.2.1, 2, .inl (upd mf 0 (nI 0))))] H := hP
      have hD : va_D A_ [(m, .inr (6, [.int (nI bl), .int (nI bk), .int (nI b), .int (nI sp), .ref mn, .ref xr, .ref yr, .ref vr, .ref cr, .ref wr, .int (nI nc), .int (nI 0), .int (nI 1), .ref wl, .ref wc, .int f_wt, .int f_lv, .int f_fi, .int f_en, .long f_cd, .ref rx, .ref ry, .ref rv, .ref fr, .int f_rs])), (mn, .inl (X.2.1, 2, .inl (upd mf 0 (nI 0))))] := hD
      refine lv_aload_n hx hb dX6_format_24 rfl (lv_at hl 0 rfl) ?_
      refine va_get (D := X.1) (ci := 6) (v := .ref mn) (C := RX6) (T := TX6) (N := 25) hx hb hts hin6 hown hK hP 0 rfl rfl 4 (by decide) lk7 (fun _ h9 => h9) rfl dX6_format_25 ?_
      refine lv_iconst (v := nI 1) hx hb dX6_format_28 (by decide) ?_
      refine lv_iconst (v := nI 0) hx hb dX6_format_29 (by decide) ?_
      have hi_2 : vp_in (nI 1) 2 := vp_in_nI (by omega) (by omega)
      refine va_iast hx hb hK hP hD hS 1 0 rfl rfl hi_2 dX6_format_30 (fun H locs hP hD hS => ?_)
      rw [nI_clamp (by omega)] at hP hD
      have hP : va_P X.1 vwCl [(m, .inr (6, [.int (nI bl), .int (nI bk), .int (nI b), .int (nI sp), .ref mn, .ref xr, .ref yr, .ref vr, .ref cr, .ref wr, .int (nI nc), .int (nI 0), .int (nI 1), .ref wl, .ref wc, .int f_wt, .int f_lv, .int f_fi, .int f_en, .long f_cd, .ref rx, .ref ry, .ref rv, .ref fr, .int f_rs])), (mn, .inl (X.2.1, 2, .inl (upd (upd mf 0 (nI 0)) 1 (nI 0))))] H := hP
      have hD : va_D A_ [(m, .inr (6, [.int (nI bl), .int (nI bk), .int (nI b), .int (nI sp), .ref mn, .ref xr, .ref yr, .ref vr, .ref cr, .ref wr, .int (nI nc), .int (nI 0), .int (nI 1), .ref wl, .ref wc, .int f_wt, .int f_lv, .int f_fi, .int f_en, .long f_cd, .ref rx, .ref ry, .ref rv, .ref fr, .int f_rs])), (mn, .inl (X.2.1, 2, .inl (upd (upd mf 0 (nI 0)) 1 (nI 0))))] := hD
      refine lv_aload_n hx hb dX6_format_31 rfl (lv_at hl 0 rfl) ?_
      refine lv_iconst (v := nI 0) hx hb dX6_format_32 (by decide) ?_
      refine va_put (D := X.1) (ci := 6) (v := .int (nI 0)) (ty := .int) (C := RX6) (T := TX6) (N := 25) hx hb hts hin6 tyX6 tyX6_ok nmX6 hown hK hP hD hS 0 rfl rfl 10 (by decide) lk71 (fun _ h9 => h9) rfl (by decide +kernel) rfl rfl (Nat.le_of_ble_eq_true rfl) dX6_format_33 (fun H locs hP hD hS => ?_)
      have hP : va_P X.1 vwCl [(m, .inr (6, [.int (nI bl), .int (nI bk), .int (nI b), .int (nI sp), .ref mn, .ref xr, .ref yr, .ref vr, .ref cr, .ref wr, .int (nI 0), .int (nI 0), .int (nI 1), .ref wl, .ref wc, .int f_wt, .int f_lv, .int f_fi, .int f_en, .long f_cd, .ref rx, .ref ry, .ref rv, .ref fr, .int f_rs])), (mn, .inl (X.2.1, 2, .inl (upd (upd mf 0 (nI 0)) 1 (nI 0))))] H := hP
      have hD : va_D A_ [(m, .inr (6, [.int (nI bl), .int (nI bk), .int (nI b), .int (nI sp), .ref mn, .ref xr, .ref yr, .ref vr, .ref cr, .ref wr, .int (nI 0), .int (nI 0), .int (nI 1), .ref wl, .ref wc, .int f_wt, .int f_lv, .int f_fi, .int f_en, .long f_cd, .ref rx, .ref ry, .ref rv, .ref fr, .int f_rs])), (mn, .inl (X.2.1, 2, .inl (upd (upd mf 0 (nI 0)) 1 (nI 0))))] := hD
      refine lv_aload_n hx hb dX6_format_36 rfl (lv_at hl 0 rfl) ?_
      refine va_get (D := X.1) (ci := 6) (v := .int (nI 1)) (C := RX6) (T := TX6) (N := 25) hx hb hts hin6 hown hK hP 0 rfl rfl 12 (by decide) lk29 (fun _ h9 => h9) rfl dX6_format_37 ?_
      refine lv_if_eq (tgt := 51) hx hb dX6_format_40 (by decide) (fun c_40 => ?_) (fun c_40 => ?_)
      · exact absurd c_40 (by decide)
      · skip
        refine lv_aload_n hx hb dX6_format_43 rfl (lv_at hl 0 rfl) ?_
        refine va_get (D := X.1) (ci := 6) (v := .int (nI 1)) (C := RX6) (T := TX6) (N := 25) hx hb hts hin6 hown hK hP 0 rfl rfl 12 (by decide) lk29 (fun _ h9 => h9) rfl dX6_format_44 ?_
        refine lv_iconst (v := nI 1) hx hb dX6_format_47 (by decide) ?_
        refine lv_icmp_ne (tgt := 58) hx hb dX6_format_48 (by decide) (fun c_48 => ?_) (fun c_48 => ?_)
        · exact absurd c_48 (by decide)
        · skip
          refine lv_aload_n hx hb dX6_format_51 rfl (lv_at hl 0 rfl) ?_
          refine ckVi (As := []) (rest := []) 0 [0] (c_X6_goes l X m bl bk b sp mn xr yr vr cr wr 0 wl wc rx ry rv fr (nI 0) (nI 1) f_wt f_lv f_fi f_en f_rs f_cd) ⟨hx, hb, hml, hown, hts⟩ (cwV 0 hts gX6_format_X6_goes rfl rfl rfl (by decide +kernel) ⟨Nat.le_of_ble_eq_true rfl, Nat.le_of_ble_eq_true rfl⟩) hK hN hP hD hS (by decide) rfl (ci := 6) rfl rfl (fun _ => rfl) rfl hl.1 rfl (Nat.le_of_ble_eq_true rfl) dX6_format_52 ⟨Nat.zero_le _, Nat.zero_le _⟩ (fun r_4 u_3 H locs hc_52 hP hD hS => ?_)
          have hP : va_P X.1 vwCl [(m, .inr (6, [.int (nI bl), .int (nI bk), .int (nI b), .int (nI sp), .ref mn, .ref xr, .ref yr, .ref vr, .ref cr, .ref wr, .int (nI 0), .int (nI 1), .int (-1), .ref wl, .ref wc, .int f_wt, .int f_lv, .int f_fi, .int f_en, .long f_cd, .ref rx, .ref ry, .ref rv, .ref fr, .int (nI 0)])), (mn, .inl (X.2.1, 2, .inl (upd (upd mf 0 (nI 0)) 1 (nI 0))))] H := hP
          have hD : va_D A_ [(m, .inr (6, [.int (nI bl), .int (nI bk), .int (nI b), .int (nI sp), .ref mn, .ref xr, .ref yr, .ref vr, .ref cr, .ref wr, .int (nI 0), .int (nI 1), .int (-1), .ref wl, .ref wc, .int f_wt, .int f_lv, .int f_fi, .int f_en, .long f_cd, .ref rx, .ref ry, .ref rv, .ref fr, .int (nI 0)])), (mn, .inl (X.2.1, 2, .inl (upd (upd mf 0 (nI 0)) 1 (nI 0))))] := hD
          subst hc_52
          refine lv_goto (tgt := 59) hx hb dX6_format_55 (by decide) ?_
          refine wM hQ ?_
          exact rtI () hx hb hr hlocks hP hS (rfl) dX6_format_59
  · exact absurd c_4 (by decide)
set_option maxHeartbeats 4000000 in
set_option maxRecDepth 100000 in
theorem c_X6_format_n (l : Launch) (X : kX) (m bl bk b sp mn xr yr vr cr wr nc wl wc rx ry rv fr : Nat) (f_ar f_wt f_lv f_fi f_en f_rs : Int32) (f_cd : Int64) (mf : Nat → Int32) (ha0 : ¬ f_ar = 0) (ha1 : ¬ f_ar = nI 1) : CWi l X yX6_format wsX6_format 2 [.ref m] [(m, .inr (6, [.int (nI bl), .int (nI bk), .int (nI b), .int (nI sp), .ref mn, .ref xr, .ref yr, .ref vr, .ref cr, .ref wr, .int (nI nc), .int (nI 0), .int f_ar, .ref wl, .ref wc, .int f_wt, .int f_lv, .int f_fi, .int f_en, .long f_cd, .ref rx, .ref ry, .ref rv, .ref fr, .int f_rs])), (mn, .inl (X.2.1, 2, .inl mf))] (S := Unit) (fun r _ => r = nI 0) (fun _ => [(m, .inr (6, [.int (nI bl), .int (nI bk), .int (nI b), .int (nI sp), .ref mn, .ref xr, .ref yr, .ref vr, .ref cr, .ref wr, .int (nI 0), .int (nI 0), .int f_ar, .ref wl, .ref wc, .int f_wt, .int f_lv, .int f_fi, .int f_en, .long f_cd, .ref rx, .ref ry, .ref rv, .ref fr, .int f_rs])), (mn, .inl (X.2.1, 2, .inl (upd (upd mf 0 (nI 0)) 1 (nI 0))))]) := by
  refine Met.ofW (cc := cX6_format) (maxL := 1) (ret := some (.int)) (by decide) rfl ?_
  intro pz ez sz mz args below meth cz s₁ Bz hml hv
  obtain ⟨rfl, hP, hK, hD0, hN⟩ := hv
  have hx := Bz.exec
  have hb := Bz.bytes
  have hr := Bz.returns
  have hts := atoms_spec (ws := wsX6_format) Bz.pre
  have hown : sz.vm.findClass RX6 = some mz.cls := findClass_of_methodNamed Bz.named
  have hlocks := Bz.notSynchronized
  have hD := inW.self hD0
  have hS : va_S (inW [(m, .inr (6, [.int (nI bl), .int (nI bk), .int (nI b), .int (nI sp), .ref mn, .ref xr, .ref yr, .ref vr, .ref cr, .ref wr, .int (nI nc), .int (nI 0), .int f_ar, .ref wl, .ref wc, .int f_wt, .int f_lv, .int f_fi, .int f_en, .long f_cd, .ref rx, .ref ry, .ref rv, .ref fr, .int f_rs])), (mn, .inl (X.2.1, 2, .inl mf))]) sz.heap sz.heap [] := va_S.rf
  have hl := lv_entry ([.ref m]) (n := 1) (Nat.le_of_ble_eq_true rfl)
  rw [lg_entry_eq]
  generalize (lg_sl ([.ref m]) ++ List.replicate (1 - (lg_sl ([.ref m])).length) Slot.unset).toArray = ls at hl ⊢
  have hl : lv_has ls 1 [(0, .ref m)] := hl
  have lk7 := hts (.fieldLink RX6 7 "PointStoreModel" "many" "[I") (by decide +kernel)
  have lk29 := hts (.fieldLink RX6 29 "PointStoreModel" "armed" "I") (by decide +kernel)
  have lk71 := hts (.fieldLink RX6 71 "PointStoreModel" "changes" "I") (by decide +kernel)
  have lk105 := hts (.fieldLink RX6 105 "PointStoreModel" "isOff" "Z") (by decide +kernel)
  have hin6 : ∀ w ∈ u_ws RX6 TX6 25, w ∈ wsX6_format := by decide +kernel
  refine wQ (fun Q hQ => ?_)
  generalize hAe : inW [(m, .inr (6, [.int (nI bl), .int (nI bk), .int (nI b), .int (nI sp), .ref mn, .ref xr, .ref yr, .ref vr, .ref cr, .ref wr, .int (nI nc), .int (nI 0), .int f_ar, .ref wl, .ref wc, .int f_wt, .int f_lv, .int f_fi, .int f_en, .long f_cd, .ref rx, .ref ry, .ref rv, .ref fr, .int f_rs])), (mn, .inl (X.2.1, 2, .inl mf))] = A_ at hD hS hQ
  refine lv_aload_n hx hb dX6_format_0 rfl (lv_at hl 0 rfl) ?_
  refine va_get (D := X.1) (ci := 6) (v := .int (nI 0)) (C := RX6) (T := TX6) (N := 25) hx hb hts hin6 hown hK hP 0 rfl rfl 11 (by decide) lk105 (fun _ h9 => h9) rfl dX6_format_1 ?_
  refine lv_if_eq (tgt := 10) hx hb dX6_format_4 (by decide) (fun c_4 => ?_) (fun c_4 => ?_)
  · skip
    refine lv_aload_n hx hb dX6_format_10 rfl (lv_at hl 0 rfl) ?_
    refine va_get (D := X.1) (ci := 6) (v := .int f_ar) (C := RX6) (T := TX6) (N := 25) hx hb hts hin6 hown hK hP 0 rfl rfl 12 (by decide) lk29 (fun _ h9 => h9) rfl dX6_format_11 ?_
    refine lv_if_eq (tgt := 36) hx hb dX6_format_14 (by decide) (fun c_14 => ?_) (fun c_14 => ?_)
    · skip
      exact absurd c_14 ha0
    · skip
      refine lv_aload_n hx hb dX6_format_17 rfl (lv_at hl 0 rfl) ?_
      refine va_get (D := X.1) (ci := 6) (v := .ref mn) (C := RX6) (T := TX6) (N := 25) hx hb hts hin6 hown hK hP 0 rfl rfl 4 (by decide) lk7 (fun _ h9 => h9) rfl dX6_format_18 ?_
      refine lv_iconst (v := nI 0) hx hb dX6_format_21 (by decide) ?_
      refine lv_iconst (v := nI 0) hx hb dX6_format_22 (by decide) ?_
      have hi_1 : vp_in (nI 0) 2 := vp_in_nI (by omega) (by omega)
      refine va_iast hx hb hK hP hD hS 1 0 rfl rfl hi_1 dX6_format_23 (fun H locs hP hD hS => ?_)
      rw [nI_clamp (by omega)] at hP hD
      have hP : va_P X.1 vwCl [(m, .inr (6, [.int (nI bl), .int (nI bk), .int (nI b), .int (nI sp), .ref mn, .ref xr, .ref yr, .ref vr, .ref cr, .ref wr, .int (nI nc), .int (nI 0), .int f_ar, .ref wl, .ref wc, .int f_wt, .int f_lv, .int f_fi, .int f_en, .long f_cd, .ref rx, .ref ry, .ref rv, .ref fr, .int f_rs])), (mn, .inl (X.2.1, 2, .inl (upd mf 0 (nI 0))))] H := hP
      have hD : va_D A_ [(m, .inr (6, [.int (nI bl), .int (nI bk), .int (nI b), .int (nI sp), .ref mn, .ref xr, .ref yr, .ref vr, .ref cr, .ref wr, .int (nI nc), .int (nI 0), .int f_ar, .ref wl, .ref wc, .int f_wt, .int f_lv, .int f_fi, .int f_en, .long f_cd, .ref rx, .ref ry, .ref rv, .ref fr, .int f_rs])), (mn, .inl (X.2.1, 2, .inl (upd mf 0 (nI 0))))] := hD
      refine lv_aload_n hx hb dX6_format_24 rfl (lv_at hl 0 rfl) ?_
      refine va_get (D := X.1) (ci := 6) (v := .ref mn) (C := RX6) (T := TX6) (N := 25) hx hb hts hin6 hown hK hP 0 rfl rfl 4 (by decide) lk7 (fun _ h9 => h9) rfl dX6_format_25 ?_
      refine lv_iconst (v := nI 1) hx hb dX6_format_28 (by decide) ?_
      refine lv_iconst (v := nI 0) hx hb dX6_format_29 (by decide) ?_
      have hi_2 : vp_in (nI 1) 2 := vp_in_nI (by omega) (by omega)
      refine va_iast hx hb hK hP hD hS 1 0 rfl rfl hi_2 dX6_format_30 (fun H locs hP hD hS => ?_)
      rw [nI_clamp (by omega)] at hP hD
      have hP : va_P X.1 vwCl [(m, .inr (6, [.int (nI bl), .int (nI bk), .int (nI b), .int (nI sp), .ref mn, .ref xr, .ref yr, .ref vr, .ref cr, .ref wr, .int (nI nc), .int (nI 0), .int f_ar, .ref wl, .ref wc, .int f_wt, .int f_lv, .int f_fi, .int f_en, .long f_cd, .ref rx, .ref ry, .ref rv, .ref fr, .int f_rs])), (mn, .inl (X.2.1, 2, .inl (upd (upd mf 0 (nI 0)) 1 (nI 0))))] H := hP
      have hD : va_D A_ [(m, .inr (6, [.int (nI bl), .int (nI bk), .int (nI b), .int (nI sp), .ref mn, .ref xr, .ref yr, .ref vr, .ref cr, .ref wr, .int (nI nc), .int (nI 0), .int f_ar, .ref wl, .ref wc, .int f_wt, .int f_lv, .int f_fi, .int f_en, .long f_cd, .ref rx, .ref ry, .ref rv, .ref fr, .int f_rs])), (mn, .inl (X.2.1, 2, .inl (upd (upd mf 0 (nI 0)) 1 (nI 0))))] := hD
      refine lv_aload_n hx hb dX6_format_31 rfl (lv_at hl 0 rfl) ?_
      refine lv_iconst (v := nI 0) hx hb dX6_format_32 (by decide) ?_
      refine va_put (D := X.1) (ci := 6) (v := .int (nI 0)) (ty := .int) (C := RX6) (T := TX6) (N := 25) hx hb hts hin6 tyX6 tyX6_ok nmX6 hown hK hP hD hS 0 rfl rfl 10 (by decide) lk71 (fun _ h9 => h9) rfl (by decide +kernel) rfl rfl (Nat.le_of_ble_eq_true rfl) dX6_format_33 (fun H locs hP hD hS => ?_)
      have hP : va_P X.1 vwCl [(m, .inr (6, [.int (nI bl), .int (nI bk), .int (nI b), .int (nI sp), .ref mn, .ref xr, .ref yr, .ref vr, .ref cr, .ref wr, .int (nI 0), .int (nI 0), .int f_ar, .ref wl, .ref wc, .int f_wt, .int f_lv, .int f_fi, .int f_en, .long f_cd, .ref rx, .ref ry, .ref rv, .ref fr, .int f_rs])), (mn, .inl (X.2.1, 2, .inl (upd (upd mf 0 (nI 0)) 1 (nI 0))))] H := hP
      have hD : va_D A_ [(m, .inr (6, [.int (nI bl), .int (nI bk), .int (nI b), .int (nI sp), .ref mn, .ref xr, .ref yr, .ref vr, .ref cr, .ref wr, .int (nI 0), .int (nI 0), .int f_ar, .ref wl, .ref wc, .int f_wt, .int f_lv, .int f_fi, .int f_en, .long f_cd, .ref rx, .ref ry, .ref rv, .ref fr, .int f_rs])), (mn, .inl (X.2.1, 2, .inl (upd (upd mf 0 (nI 0)) 1 (nI 0))))] := hD
      refine lv_aload_n hx hb dX6_format_36 rfl (lv_at hl 0 rfl) ?_
      refine va_get (D := X.1) (ci := 6) (v := .int f_ar) (C := RX6) (T := TX6) (N := 25) hx hb hts hin6 hown hK hP 0 rfl rfl 12 (by decide) lk29 (fun _ h9 => h9) rfl dX6_format_37 ?_
      refine lv_if_eq (tgt := 51) hx hb dX6_format_40 (by decide) (fun c_40 => ?_) (fun c_40 => ?_)
      · skip
        exact absurd c_40 ha0
      · skip
        refine lv_aload_n hx hb dX6_format_43 rfl (lv_at hl 0 rfl) ?_
        refine va_get (D := X.1) (ci := 6) (v := .int f_ar) (C := RX6) (T := TX6) (N := 25) hx hb hts hin6 hown hK hP 0 rfl rfl 12 (by decide) lk29 (fun _ h9 => h9) rfl dX6_format_44 ?_
        refine lv_iconst (v := nI 1) hx hb dX6_format_47 (by decide) ?_
        refine lv_icmp_ne (tgt := 58) hx hb dX6_format_48 (by decide) (fun c_48 => ?_) (fun c_48 => ?_)
        · skip
          refine lv_iconst (v := nI 0) hx hb dX6_format_58 (by decide) ?_
          refine wM hQ ?_
          exact rtI () hx hb hr hlocks hP hS (rfl) dX6_format_59
        · skip
          exact absurd c_48 ha1
  · exact absurd c_4 (by decide)
set_option maxHeartbeats 4000000 in
set_option maxRecDepth 100000 in
theorem c_X6_recover_a (l : Launch) (X : kX) (m bl bk b sp mn xr yr vr cr wr nc wl wc rx ry rv fr : Nat) (f_of f_wt f_lv f_fi f_en f_rs : Int32) (f_cd : Int64) : CWi l X yX6_recover wsX6_recover 2 [.ref m] [(m, .inr (6, [.int (nI bl), .int (nI bk), .int (nI b), .int (nI sp), .ref mn, .ref xr, .ref yr, .ref vr, .ref cr, .ref wr, .int (nI nc), .int f_of, .int (nI 2), .ref wl, .ref wc, .int f_wt, .int f_lv, .int f_fi, .int f_en, .long f_cd, .ref rx, .ref ry, .ref rv, .ref fr, .int f_rs]))] (S := Unit) (fun r _ => r = -2) (fun _ => [(m, .inr (6, [.int (nI bl), .int (nI bk), .int (nI b), .int (nI sp), .ref mn, .ref xr, .ref yr, .ref vr, .ref cr, .ref wr, .int (nI nc), .int (nI 1), .int (-1), .ref wl, .ref wc, .int f_wt, .int f_lv, .int f_fi, .int f_en, .long f_cd, .ref rx, .ref ry, .ref rv, .ref fr, .int (nI 0)]))]) := by
  refine Met.ofW (cc := cX6_recover) (maxL := 1) (ret := some (.int)) (by decide) rfl ?_
  intro pz ez sz mz args below meth cz s₁ Bz hml hv
  obtain ⟨rfl, hP, hK, hD0, hN⟩ := hv
  have hx := Bz.exec
  have hb := Bz.bytes
  have hr := Bz.returns
  have hts := atoms_spec (ws := wsX6_recover) Bz.pre
  have hown : sz.vm.findClass RX6 = some mz.cls := findClass_of_methodNamed Bz.named
  have hlocks := Bz.notSynchronized
  have hD := inW.self hD0
  have hS : va_S (inW [(m, .inr (6, [.int (nI bl), .int (nI bk), .int (nI b), .int (nI sp), .ref mn, .ref xr, .ref yr, .ref vr, .ref cr, .ref wr, .int (nI nc), .int f_of, .int (nI 2), .ref wl, .ref wc, .int f_wt, .int f_lv, .int f_fi, .int f_en, .long f_cd, .ref rx, .ref ry, .ref rv, .ref fr, .int f_rs]))]) sz.heap sz.heap [] := va_S.rf
  have hl := lv_entry ([.ref m]) (n := 1) (Nat.le_of_ble_eq_true rfl)
  rw [lg_entry_eq]
  generalize (lg_sl ([.ref m]) ++ List.replicate (1 - (lg_sl ([.ref m])).length) Slot.unset).toArray = ls at hl ⊢
  have hl : lv_has ls 1 [(0, .ref m)] := hl
  have lk29 := hts (.fieldLink RX6 29 "PointStoreModel" "armed" "I") (by decide +kernel)
  have lk137 := hts (.fieldLink RX6 137 "PointStoreModel" "results" "I") (by decide +kernel)
  have hin6 : ∀ w ∈ u_ws RX6 TX6 25, w ∈ wsX6_recover := by decide +kernel
  refine wQ (fun Q hQ => ?_)
  generalize hAe : inW [(m, .inr (6, [.int (nI bl), .int (nI bk), .int (nI b), .int (nI sp), .ref mn, .ref xr, .ref yr, .ref vr, .ref cr, .ref wr, .int (nI nc), .int f_of, .int (nI 2), .ref wl, .ref wc, .int f_wt, .int f_lv, .int f_fi, .int f_en, .long f_cd, .ref rx, .ref ry, .ref rv, .ref fr, .int f_rs]))] = A_ at hD hS hQ
  refine lv_aload_n hx hb dX6_recover_0 rfl (lv_at hl 0 rfl) ?_
  refine lv_iconst (v := nI 0) hx hb dX6_recover_1 (by decide) ?_
  refine va_put (D := X.1) (ci := 6) (v := .int (nI 0)) (ty := .int) (C := RX6) (T := TX6) (N := 25) hx hb hts hin6 tyX6 tyX6_ok nmX6 hown hK hP hD hS 0 rfl rfl 24 (by decide) lk137 (fun _ h9 => h9) rfl (by decide +kernel) rfl rfl (Nat.le_of_ble_eq_true rfl) dX6_recover_2 (fun H locs hP hD hS => ?_)
  have hP : va_P X.1 vwCl [(m, .inr (6, [.int (nI bl), .int (nI bk), .int (nI b), .int (nI sp), .ref mn, .ref xr, .ref yr, .ref vr, .ref cr, .ref wr, .int (nI nc), .int f_of, .int (nI 2), .ref wl, .ref wc, .int f_wt, .int f_lv, .int f_fi, .int f_en, .long f_cd, .ref rx, .ref ry, .ref rv, .ref fr, .int (nI 0)]))] H := hP
  have hD : va_D A_ [(m, .inr (6, [.int (nI bl), .int (nI bk), .int (nI b), .int (nI sp), .ref mn, .ref xr, .ref yr, .ref vr, .ref cr, .ref wr, .int (nI nc), .int f_of, .int (nI 2), .ref wl, .ref wc, .int f_wt, .int f_lv, .int f_fi, .int f_en, .long f_cd, .ref rx, .ref ry, .ref rv, .ref fr, .int (nI 0)]))] := hD
  refine lv_aload_n hx hb dX6_recover_5 rfl (lv_at hl 0 rfl) ?_
  refine va_get (D := X.1) (ci := 6) (v := .int (nI 2)) (C := RX6) (T := TX6) (N := 25) hx hb hts hin6 hown hK hP 0 rfl rfl 12 (by decide) lk29 (fun _ h9 => h9) rfl dX6_recover_6 ?_
  refine lv_iconst (v := nI 2) hx hb dX6_recover_9 (by decide) ?_
  refine lv_icmp_ne (tgt := 18) hx hb dX6_recover_10 (by decide) (fun c_10 => ?_) (fun c_10 => ?_)
  · exact absurd c_10 (by decide)
  · skip
    refine lv_aload_n hx hb dX6_recover_13 rfl (lv_at hl 0 rfl) ?_
    refine ckVi (As := []) (rest := []) 0 [0] (c_X6_goes l X m bl bk b sp mn xr yr vr cr wr nc wl wc rx ry rv fr f_of (nI 2) f_wt f_lv f_fi f_en (nI 0) f_cd) ⟨hx, hb, hml, hown, hts⟩ (cwV 0 hts gX6_recover_X6_goes rfl rfl rfl (by decide +kernel) ⟨Nat.le_of_ble_eq_true rfl, Nat.le_of_ble_eq_true rfl⟩) hK hN hP hD hS (by decide) rfl (ci := 6) rfl rfl (fun _ => rfl) rfl hl.1 rfl (Nat.le_of_ble_eq_true rfl) dX6_recover_14 ⟨Nat.zero_le _, Nat.zero_le _⟩ (fun r_2 u_1 H locs hc_14 hP hD hS => ?_)
    have hP : va_P X.1 vwCl [(m, .inr (6, [.int (nI bl), .int (nI bk), .int (nI b), .int (nI sp), .ref mn, .ref xr, .ref yr, .ref vr, .ref cr, .ref wr, .int (nI nc), .int (nI 1), .int (-1), .ref wl, .ref wc, .int f_wt, .int f_lv, .int f_fi, .int f_en, .long f_cd, .ref rx, .ref ry, .ref rv, .ref fr, .int (nI 0)]))] H := hP
    have hD : va_D A_ [(m, .inr (6, [.int (nI bl), .int (nI bk), .int (nI b), .int (nI sp), .ref mn, .ref xr, .ref yr, .ref vr, .ref cr, .ref wr, .int (nI nc), .int (nI 1), .int (-1), .ref wl, .ref wc, .int f_wt, .int f_lv, .int f_fi, .int f_en, .long f_cd, .ref rx, .ref ry, .ref rv, .ref fr, .int (nI 0)]))] := hD
    subst hc_14
    refine wM hQ ?_
    exact rtI () hx hb hr hlocks hP hS (rfl) dX6_recover_17
set_option maxHeartbeats 4000000 in
set_option maxRecDepth 100000 in
theorem c_X6_recover_n (l : Launch) (X : kX) (m bl bk b sp mn xr yr vr cr wr nc wl wc rx ry rv fr : Nat) (f_of f_ar f_wt f_lv f_fi f_en f_rs : Int32) (f_cd : Int64) (mf xf yf vf wf : Nat → Int32) (cf : Nat → Int64) (Qm ZQm : PL) (h1 : mSt b mf xf yf vf wf cf 1 Qm ZQm) (ha2 : ¬ f_ar = nI 2) : CWi l X yX6_recover wsX6_recover 2 [.ref m] [(m, .inr (6, [.int (nI bl), .int (nI bk), .int (nI b), .int (nI sp), .ref mn, .ref xr, .ref yr, .ref vr, .ref cr, .ref wr, .int (nI nc), .int f_of, .int f_ar, .ref wl, .ref wc, .int f_wt, .int f_lv, .int f_fi, .int f_en, .long f_cd, .ref rx, .ref ry, .ref rv, .ref fr, .int f_rs])), (mn, .inl (X.2.1, 2, .inl mf)), (xr, .inl (X.2.1, 6600, .inl xf)), (yr, .inl (X.2.1, 6600, .inl yf)), (vr, .inl (X.2.1, 6600, .inl vf)), (cr, .inl (X.2.2, 6600, .inr (.inl cf))), (wr, .inl (X.2.1, 6600, .inl wf))] (S := (Nat → Int32) × (Nat → Int32) × (Nat → Int32) × (Nat → Int32) × (Nat → Int32) × (Nat → Int64)) (fun r u => r = nI 0 ∧ mSt b u.1 u.2.1 u.2.2.1 u.2.2.2.1 u.2.2.2.2.1 u.2.2.2.2.2 0 Qm ZQm ∧ mSt b u.1 u.2.1 u.2.2.1 u.2.2.2.1 u.2.2.2.2.1 u.2.2.2.2.2 1 Qm ZQm) (fun ⟨mf2, xf2, yf2, vf2, wf2, cf2⟩ => [(m, .inr (6, [.int (nI bl), .int (nI bk), .int (nI b), .int (nI sp), .ref mn, .ref xr, .ref yr, .ref vr, .ref cr, .ref wr, .int (nI 0), .int (nI 0), .int f_ar, .ref wl, .ref wc, .int f_wt, .int f_lv, .int f_fi, .int f_en, .long f_cd, .ref rx, .ref ry, .ref rv, .ref fr, .int (nI 0)])), (mn, .inl (X.2.1, 2, .inl mf2)), (xr, .inl (X.2.1, 6600, .inl xf2)), (yr, .inl (X.2.1, 6600, .inl yf2)), (vr, .inl (X.2.1, 6600, .inl vf2)), (cr, .inl (X.2.2, 6600, .inr (.inl cf2))), (wr, .inl (X.2.1, 6600, .inl wf2))]) := by
  refine Met.ofW (cc := cX6_recover) (maxL := 1) (ret := some (.int)) (by decide) rfl ?_
  intro pz ez sz mz args below meth cz s₁ Bz hml hv
  obtain ⟨rfl, hP, hK, hD0, hN⟩ := hv
  have hx := Bz.exec
  have hb := Bz.bytes
  have hr := Bz.returns
  have hts := atoms_spec (ws := wsX6_recover) Bz.pre
  have hown : sz.vm.findClass RX6 = some mz.cls := findClass_of_methodNamed Bz.named
  have hlocks := Bz.notSynchronized
  have hD := inW.self hD0
  have hS : va_S (inW [(m, .inr (6, [.int (nI bl), .int (nI bk), .int (nI b), .int (nI sp), .ref mn, .ref xr, .ref yr, .ref vr, .ref cr, .ref wr, .int (nI nc), .int f_of, .int f_ar, .ref wl, .ref wc, .int f_wt, .int f_lv, .int f_fi, .int f_en, .long f_cd, .ref rx, .ref ry, .ref rv, .ref fr, .int f_rs])), (mn, .inl (X.2.1, 2, .inl mf)), (xr, .inl (X.2.1, 6600, .inl xf)), (yr, .inl (X.2.1, 6600, .inl yf)), (vr, .inl (X.2.1, 6600, .inl vf)), (cr, .inl (X.2.2, 6600, .inr (.inl cf))), (wr, .inl (X.2.1, 6600, .inl wf))]) sz.heap sz.heap [] := va_S.rf
  have hl := lv_entry ([.ref m]) (n := 1) (Nat.le_of_ble_eq_true rfl)
  rw [lg_entry_eq]
  generalize (lg_sl ([.ref m]) ++ List.replicate (1 - (lg_sl ([.ref m])).length) Slot.unset).toArray = ls at hl ⊢
  have hl : lv_has ls 1 [(0, .ref m)] := hl
  have lk29 := hts (.fieldLink RX6 29 "PointStoreModel" "armed" "I") (by decide +kernel)
  have lk105 := hts (.fieldLink RX6 105 "PointStoreModel" "isOff" "Z") (by decide +kernel)
  have lk137 := hts (.fieldLink RX6 137 "PointStoreModel" "results" "I") (by decide +kernel)
  have hin6 : ∀ w ∈ u_ws RX6 TX6 25, w ∈ wsX6_recover := by decide +kernel
  refine wQ (fun Q hQ => ?_)
  generalize hAe : inW [(m, .inr (6, [.int (nI bl), .int (nI bk), .int (nI b), .int (nI sp), .ref mn, .ref xr, .ref yr, .ref vr, .ref cr, .ref wr, .int (nI nc), .int f_of, .int f_ar, .ref wl, .ref wc, .int f_wt, .int f_lv, .int f_fi, .int f_en, .long f_cd, .ref rx, .ref ry, .ref rv, .ref fr, .int f_rs])), (mn, .inl (X.2.1, 2, .inl mf)), (xr, .inl (X.2.1, 6600, .inl xf)), (yr, .inl (X.2.1, 6600, .inl yf)), (vr, .inl (X.2.1, 6600, .inl vf)), (cr, .inl (X.2.2, 6600, .inr (.inl cf))), (wr, .inl (X.2.1, 6600, .inl wf))] = A_ at hD hS hQ
  refine lv_aload_n hx hb dX6_recover_0 rfl (lv_at hl 0 rfl) ?_
  refine lv_iconst (v := nI 0) hx hb dX6_recover_1 (by decide) ?_
  refine va_put (D := X.1) (ci := 6) (v := .int (nI 0)) (ty := .int) (C := RX6) (T := TX6) (N := 25) hx hb hts hin6 tyX6 tyX6_ok nmX6 hown hK hP hD hS 0 rfl rfl 24 (by decide) lk137 (fun _ h9 => h9) rfl (by decide +kernel) rfl rfl (Nat.le_of_ble_eq_true rfl) dX6_recover_2 (fun H locs hP hD hS => ?_)
  have hP : va_P X.1 vwCl [(m, .inr (6, [.int (nI bl), .int (nI bk), .int (nI b), .int (nI sp), .ref mn, .ref xr, .ref yr, .ref vr, .ref cr, .ref wr, .int (nI nc), .int f_of, .int f_ar, .ref wl, .ref wc, .int f_wt, .int f_lv, .int f_fi, .int f_en, .long f_cd, .ref rx, .ref ry, .ref rv, .ref fr, .int (nI 0)])), (mn, .inl (X.2.1, 2, .inl mf)), (xr, .inl (X.2.1, 6600, .inl xf)), (yr, .inl (X.2.1, 6600, .inl yf)), (vr, .inl (X.2.1, 6600, .inl vf)), (cr, .inl (X.2.2, 6600, .inr (.inl cf))), (wr, .inl (X.2.1, 6600, .inl wf))] H := hP
  have hD : va_D A_ [(m, .inr (6, [.int (nI bl), .int (nI bk), .int (nI b), .int (nI sp), .ref mn, .ref xr, .ref yr, .ref vr, .ref cr, .ref wr, .int (nI nc), .int f_of, .int f_ar, .ref wl, .ref wc, .int f_wt, .int f_lv, .int f_fi, .int f_en, .long f_cd, .ref rx, .ref ry, .ref rv, .ref fr, .int (nI 0)])), (mn, .inl (X.2.1, 2, .inl mf)), (xr, .inl (X.2.1, 6600, .inl xf)), (yr, .inl (X.2.1, 6600, .inl yf)), (vr, .inl (X.2.1, 6600, .inl vf)), (cr, .inl (X.2.2, 6600, .inr (.inl cf))), (wr, .inl (X.2.1, 6600, .inl wf))] := hD
  refine lv_aload_n hx hb dX6_recover_5 rfl (lv_at hl 0 rfl) ?_
  refine va_get (D := X.1) (ci := 6) (v := .int f_ar) (C := RX6) (T := TX6) (N := 25) hx hb hts hin6 hown hK hP 0 rfl rfl 12 (by decide) lk29 (fun _ h9 => h9) rfl dX6_recover_6 ?_
  refine lv_iconst (v := nI 2) hx hb dX6_recover_9 (by decide) ?_
  refine lv_icmp_ne (tgt := 18) hx hb dX6_recover_10 (by decide) (fun c_10 => ?_) (fun c_10 => ?_)
  · skip
    refine lv_aload_n hx hb dX6_recover_18 rfl (lv_at hl 0 rfl) ?_
    refine lv_iconst (v := nI 0) hx hb dX6_recover_19 (by decide) ?_
    refine va_put (D := X.1) (ci := 6) (v := .int (nI 0)) (ty := .boolean) (C := RX6) (T := TX6) (N := 25) hx hb hts hin6 tyX6 tyX6_ok nmX6 hown hK hP hD hS 0 rfl rfl 11 (by decide) lk105 (fun _ h9 => h9) rfl (by decide +kernel) (by decide) rfl (Nat.le_of_ble_eq_true rfl) dX6_recover_20 (fun H locs hP hD hS => ?_)
    have hP : va_P X.1 vwCl [(m, .inr (6, [.int (nI bl), .int (nI bk), .int (nI b), .int (nI sp), .ref mn, .ref xr, .ref yr, .ref vr, .ref cr, .ref wr, .int (nI nc), .int (nI 0), .int f_ar, .ref wl, .ref wc, .int f_wt, .int f_lv, .int f_fi, .int f_en, .long f_cd, .ref rx, .ref ry, .ref rv, .ref fr, .int (nI 0)])), (mn, .inl (X.2.1, 2, .inl mf)), (xr, .inl (X.2.1, 6600, .inl xf)), (yr, .inl (X.2.1, 6600, .inl yf)), (vr, .inl (X.2.1, 6600, .inl vf)), (cr, .inl (X.2.2, 6600, .inr (.inl cf))), (wr, .inl (X.2.1, 6600, .inl wf))] H := hP
    have hD : va_D A_ [(m, .inr (6, [.int (nI bl), .int (nI bk), .int (nI b), .int (nI sp), .ref mn, .ref xr, .ref yr, .ref vr, .ref cr, .ref wr, .int (nI nc), .int (nI 0), .int f_ar, .ref wl, .ref wc, .int f_wt, .int f_lv, .int f_fi, .int f_en, .long f_cd, .ref rx, .ref ry, .ref rv, .ref fr, .int (nI 0)])), (mn, .inl (X.2.1, 2, .inl mf)), (xr, .inl (X.2.1, 6600, .inl xf)), (yr, .inl (X.2.1, 6600, .inl yf)), (vr, .inl (X.2.1, 6600, .inl vf)), (cr, .inl (X.2.2, 6600, .inr (.inl cf))), (wr, .inl (X.2.1, 6600, .inl wf))] := hD
    refine lv_aload_n hx hb dX6_recover_23 rfl (lv_at hl 0 rfl) ?_
    refine lv_iconst (v := nI 0) hx hb dX6_recover_24 (by decide) ?_
    refine lv_iconst (v := nI 1) hx hb dX6_recover_25 (by decide) ?_
    refine ckVv (As := [.int (nI 0), .int (nI 1)]) (rest := []) 0 [0, 1, 2, 3, 4, 5, 6] (c_X6_becomes l X m bl bk b sp mn xr yr vr cr wr nc wl wc rx ry rv fr (nI 0) f_ar f_wt f_lv f_fi f_en (nI 0) f_cd 0 1 mf xf yf vf wf cf Qm ZQm h1 rfl) ⟨hx, hb, hml, hown, hts⟩ (cwV 2 hts gX6_recover_X6_becomes rfl rfl rfl (by decide +kernel) ⟨Nat.le_of_ble_eq_true rfl, Nat.le_of_ble_eq_true rfl⟩) hK hN hP hD hS (by decide) rfl (ci := 6) rfl rfl (fun _ => rfl) rfl hl.1 rfl (Nat.le_of_ble_eq_true rfl) dX6_recover_26 ⟨Nat.zero_le _, Nat.zero_le _⟩ (fun u_1 H locs hbc hP hD hS => ?_)
    obtain ⟨mf2, xf2, yf2, vf2, wf2, cf2⟩ := u_1
    have hP : va_P X.1 vwCl [(m, .inr (6, [.int (nI bl), .int (nI bk), .int (nI b), .int (nI sp), .ref mn, .ref xr, .ref yr, .ref vr, .ref cr, .ref wr, .int (nI 0), .int (nI 0), .int f_ar, .ref wl, .ref wc, .int f_wt, .int f_lv, .int f_fi, .int f_en, .long f_cd, .ref rx, .ref ry, .ref rv, .ref fr, .int (nI 0)])), (mn, .inl (X.2.1, 2, .inl mf2)), (xr, .inl (X.2.1, 6600, .inl xf2)), (yr, .inl (X.2.1, 6600, .inl yf2)), (vr, .inl (X.2.1, 6600, .inl vf2)), (cr, .inl (X.2.2, 6600, .inr (.inl cf2))), (wr, .inl (X.2.1, 6600, .inl wf2))] H := hP
    have hD : va_D A_ [(m, .inr (6, [.int (nI bl), .int (nI bk), .int (nI b), .int (nI sp), .ref mn, .ref xr, .ref yr, .ref vr, .ref cr, .ref wr, .int (nI 0), .int (nI 0), .int f_ar, .ref wl, .ref wc, .int f_wt, .int f_lv, .int f_fi, .int f_en, .long f_cd, .ref rx, .ref ry, .ref rv, .ref fr, .int (nI 0)])), (mn, .inl (X.2.1, 2, .inl mf2)), (xr, .inl (X.2.1, 6600, .inl xf2)), (yr, .inl (X.2.1, 6600, .inl yf2)), (vr, .inl (X.2.1, 6600, .inl vf2)), (cr, .inl (X.2.2, 6600, .inr (.inl cf2))), (wr, .inl (X.2.1, 6600, .inl wf2))] := hD
    try dsimp only at hbc
    refine lv_iconst (v := nI 0) hx hb dX6_recover_29 (by decide) ?_
    refine wM hQ ?_
    exact rtI (mf2, xf2, yf2, vf2, wf2, cf2) hx hb hr hlocks hP hS (⟨rfl, hbc⟩) dX6_recover_30
  · skip
    exact absurd c_10 ha2
set_option maxHeartbeats 4000000 in
set_option maxRecDepth 100000 in
theorem c_X6_tells (l : Launch) (X : kX) (m bl bk b sp mn xr yr vr cr wr nc wl wc rx ry rv fr : Nat) (f_of f_ar f_wt f_lv f_fi f_en : Int32) (f_cd : Int64) (n key : Nat) (x : Int32) (rxf ryf rvf : Nat → Int32) (R : RSL) (h : mR rxf ryf rvf R) (hn : R.length = min n 150) (hn2 : n < 2 ^ 31) : CWv l X yX6_tells wsX6_tells 0 [.ref m, .int (nI n), .int (nI (key / 32768)), .int (nI (key % 32768)), .int x] [(m, .inr (6, [.int (nI bl), .int (nI bk), .int (nI b), .int (nI sp), .ref mn, .ref xr, .ref yr, .ref vr, .ref cr, .ref wr, .int (nI nc), .int f_of, .int f_ar, .ref wl, .ref wc, .int f_wt, .int f_lv, .int f_fi, .int f_en, .long f_cd, .ref rx, .ref ry, .ref rv, .ref fr, .int (nI R.length)])), (rx, .inl (X.2.1, 150, .inl rxf)), (ry, .inl (X.2.1, 150, .inl ryf)), (rv, .inl (X.2.1, 150, .inl rvf))] (S := (Nat → Int32) × (Nat → Int32) × (Nat → Int32)) (fun u => mR u.1 u.2.1 u.2.2 (rsAdd R key x)) (fun ⟨rx2, ry2, rv2⟩ => [(m, .inr (6, [.int (nI bl), .int (nI bk), .int (nI b), .int (nI sp), .ref mn, .ref xr, .ref yr, .ref vr, .ref cr, .ref wr, .int (nI nc), .int f_of, .int f_ar, .ref wl, .ref wc, .int f_wt, .int f_lv, .int f_fi, .int f_en, .long f_cd, .ref rx, .ref ry, .ref rv, .ref fr, .int (nI ((rsAdd R key x).length))])), (rx, .inl (X.2.1, 150, .inl rx2)), (ry, .inl (X.2.1, 150, .inl ry2)), (rv, .inl (X.2.1, 150, .inl rv2))]) := by
  refine Met.ofW (cc := cX6_tells) (maxL := 5) (ret := none) (by decide) rfl ?_
  intro pz ez sz mz args below meth cz s₁ Bz hml hv
  obtain ⟨rfl, hP, hK, hD0, hN⟩ := hv
  have hx := Bz.exec
  have hb := Bz.bytes
  have hr := Bz.returns
  have hts := atoms_spec (ws := wsX6_tells) Bz.pre
  have hown : sz.vm.findClass RX6 = some mz.cls := findClass_of_methodNamed Bz.named
  have hlocks := Bz.notSynchronized
  have hD := inW.self hD0
  have hS : va_S (inW [(m, .inr (6, [.int (nI bl), .int (nI bk), .int (nI b), .int (nI sp), .ref mn, .ref xr, .ref yr, .ref vr, .ref cr, .ref wr, .int (nI nc), .int f_of, .int f_ar, .ref wl, .ref wc, .int f_wt, .int f_lv, .int f_fi, .int f_en, .long f_cd, .ref rx, .ref ry, .ref rv, .ref fr, .int (nI R.length)])), (rx, .inl (X.2.1, 150, .inl rxf)), (ry, .inl (X.2.1, 150, .inl ryf)), (rv, .inl (X.2.1, 150, .inl rvf))]) sz.heap sz.heap [] := va_S.rf
  have hl := lv_entry ([.ref m, .int (nI n), .int (nI (key / 32768)), .int (nI (key % 32768)), .int x]) (n := 5) (Nat.le_of_ble_eq_true rfl)
  rw [lg_entry_eq]
  generalize (lg_sl ([.ref m, .int (nI n), .int (nI (key / 32768)), .int (nI (key % 32768)), .int x]) ++ List.replicate (5 - (lg_sl ([.ref m, .int (nI n), .int (nI (key / 32768)), .int (nI (key % 32768)), .int x])).length) Slot.unset).toArray = ls at hl ⊢
  have hl : lv_has ls 5 [(0, .ref m), (1, .int (nI n)), (2, .int (nI (key / 32768))), (3, .int (nI (key % 32768))), (4, .int x)] := hl
  have lk39 := hts (.fieldLink RX6 39 "PointStoreModel" "resultX" "[I") (by decide +kernel)
  have lk42 := hts (.fieldLink RX6 42 "PointStoreModel" "resultY" "[I") (by decide +kernel)
  have lk45 := hts (.fieldLink RX6 45 "PointStoreModel" "resultValue" "[I") (by decide +kernel)
  have lk137 := hts (.fieldLink RX6 137 "PointStoreModel" "results" "I") (by decide +kernel)
  have hin6 : ∀ w ∈ u_ws RX6 TX6 25, w ∈ wsX6_tells := by decide +kernel
  refine wQ (fun Q hQ => ?_)
  generalize hAe : inW [(m, .inr (6, [.int (nI bl), .int (nI bk), .int (nI b), .int (nI sp), .ref mn, .ref xr, .ref yr, .ref vr, .ref cr, .ref wr, .int (nI nc), .int f_of, .int f_ar, .ref wl, .ref wc, .int f_wt, .int f_lv, .int f_fi, .int f_en, .long f_cd, .ref rx, .ref ry, .ref rv, .ref fr, .int (nI R.length)])), (rx, .inl (X.2.1, 150, .inl rxf)), (ry, .inl (X.2.1, 150, .inl ryf)), (rv, .inl (X.2.1, 150, .inl rvf))] = A_ at hD hS hQ
  refine lv_iload_n hx hb dX6_tells_0 rfl (lv_at hl 1 rfl) ?_
  refine lv_sipush (v := nI 150) hx hb dX6_tells_1 (by decide) ?_
  refine lv_icmp_lt (tgt := 8) hx hb dX6_tells_4 (by decide) (fun c_4 => ?_) (fun c_4 => ?_)
  · replace c_4 : n < 150 := (nI_ltI (by omega) (by omega)).mp c_4
    obtain rfl : n = R.length := by omega
    · skip
      refine lv_aload_n hx hb dX6_tells_8 rfl (lv_at hl 0 rfl) ?_
      refine va_get (D := X.1) (ci := 6) (v := .ref rx) (C := RX6) (T := TX6) (N := 25) hx hb hts hin6 hown hK hP 0 rfl rfl 20 (by decide) lk39 (fun _ h9 => h9) rfl dX6_tells_9 ?_
      refine lv_iload_n hx hb dX6_tells_12 rfl (lv_at hl 1 rfl) ?_
      refine lv_iload_n hx hb dX6_tells_13 rfl (lv_at hl 2 rfl) ?_
      have hi_1 : vp_in (nI R.length) 150 := vp_in_nI (by omega) (by omega)
      refine va_iast hx hb hK hP hD hS 1 0 rfl rfl hi_1 dX6_tells_14 (fun H locs hP hD hS => ?_)
      rw [nI_clamp (by omega)] at hP hD
      have hP : va_P X.1 vwCl [(m, .inr (6, [.int (nI bl), .int (nI bk), .int (nI b), .int (nI sp), .ref mn, .ref xr, .ref yr, .ref vr, .ref cr, .ref wr, .int (nI nc), .int f_of, .int f_ar, .ref wl, .ref wc, .int f_wt, .int f_lv, .int f_fi, .int f_en, .long f_cd, .ref rx, .ref ry, .ref rv, .ref fr, .int (nI R.length)])), (rx, .inl (X.2.1, 150, .inl (upd rxf R.length (nI (key / 32768))))), (ry, .inl (X.2.1, 150, .inl ryf)), (rv, .inl (X.2.1, 150, .inl rvf))] H := hP
      have hD : va_D A_ [(m, .inr (6, [.int (nI bl), .int (nI bk), .int (nI b), .int (nI sp), .ref mn, .ref xr, .ref yr, .ref vr, .ref cr, .ref wr, .int (nI nc), .int f_of, .int f_ar, .ref wl, .ref wc, .int f_wt, .int f_lv, .int f_fi, .int f_en, .long f_cd, .ref rx, .ref ry, .ref rv, .ref fr, .int (nI R.length)])), (rx, .inl (X.2.1, 150, .inl (upd rxf R.length (nI (key / 32768))))), (ry, .inl (X.2.1, 150, .inl ryf)), (rv, .inl (X.2.1, 150, .inl rvf))] := hD
      refine lv_aload_n hx hb dX6_tells_15 rfl (lv_at hl 0 rfl) ?_
      refine va_get (D := X.1) (ci := 6) (v := .ref ry) (C := RX6) (T := TX6) (N := 25) hx hb hts hin6 hown hK hP 0 rfl rfl 21 (by decide) lk42 (fun _ h9 => h9) rfl dX6_tells_16 ?_
      refine lv_iload_n hx hb dX6_tells_19 rfl (lv_at hl 1 rfl) ?_
      refine lv_iload_n hx hb dX6_tells_20 rfl (lv_at hl 3 rfl) ?_
      have hi_2 : vp_in (nI R.length) 150 := vp_in_nI (by omega) (by omega)
      refine va_iast hx hb hK hP hD hS 2 0 rfl rfl hi_2 dX6_tells_21 (fun H locs hP hD hS => ?_)
      rw [nI_clamp (by omega)] at hP hD
      have hP : va_P X.1 vwCl [(m, .inr (6, [.int (nI bl), .int (nI bk), .int (nI b), .int (nI sp), .ref mn, .ref xr, .ref yr, .ref vr, .ref cr, .ref wr, .int (nI nc), .int f_of, .int f_ar, .ref wl, .ref wc, .int f_wt, .int f_lv, .int f_fi, .int f_en, .long f_cd, .ref rx, .ref ry, .ref rv, .ref fr, .int (nI R.length)])), (rx, .inl (X.2.1, 150, .inl (upd rxf R.length (nI (key / 32768))))), (ry, .inl (X.2.1, 150, .inl (upd ryf R.length (nI (key % 32768))))), (rv, .inl (X.2.1, 150, .inl rvf))] H := hP
      have hD : va_D A_ [(m, .inr (6, [.int (nI bl), .int (nI bk), .int (nI b), .int (nI sp), .ref mn, .ref xr, .ref yr, .ref vr, .ref cr, .ref wr, .int (nI nc), .int f_of, .int f_ar, .ref wl, .ref wc, .int f_wt, .int f_lv, .int f_fi, .int f_en, .long f_cd, .ref rx, .ref ry, .ref rv, .ref fr, .int (nI R.length)])), (rx, .inl (X.2.1, 150, .inl (upd rxf R.length (nI (key / 32768))))), (ry, .inl (X.2.1, 150, .inl (upd ryf R.length (nI (key % 32768))))), (rv, .inl (X.2.1, 150, .inl rvf))] := hD
      refine lv_aload_n hx hb dX6_tells_22 rfl (lv_at hl 0 rfl) ?_
      refine va_get (D := X.1) (ci := 6) (v := .ref rv) (C := RX6) (T := TX6) (N := 25) hx hb hts hin6 hown hK hP 0 rfl rfl 22 (by decide) lk45 (fun _ h9 => h9) rfl dX6_tells_23 ?_
      refine lv_iload_n hx hb dX6_tells_26 rfl (lv_at hl 1 rfl) ?_
      refine lv_iload hx hb dX6_tells_27 (lv_at hl 4 rfl) ?_
      have hi_3 : vp_in (nI R.length) 150 := vp_in_nI (by omega) (by omega)
      refine va_iast hx hb hK hP hD hS 3 0 rfl rfl hi_3 dX6_tells_29 (fun H locs hP hD hS => ?_)
      rw [nI_clamp (by omega)] at hP hD
      have hP : va_P X.1 vwCl [(m, .inr (6, [.int (nI bl), .int (nI bk), .int (nI b), .int (nI sp), .ref mn, .ref xr, .ref yr, .ref vr, .ref cr, .ref wr, .int (nI nc), .int f_of, .int f_ar, .ref wl, .ref wc, .int f_wt, .int f_lv, .int f_fi, .int f_en, .long f_cd, .ref rx, .ref ry, .ref rv, .ref fr, .int (nI R.length)])), (rx, .inl (X.2.1, 150, .inl (upd rxf R.length (nI (key / 32768))))), (ry, .inl (X.2.1, 150, .inl (upd ryf R.length (nI (key % 32768))))), (rv, .inl (X.2.1, 150, .inl (upd rvf R.length x)))] H := hP
      have hD : va_D A_ [(m, .inr (6, [.int (nI bl), .int (nI bk), .int (nI b), .int (nI sp), .ref mn, .ref xr, .ref yr, .ref vr, .ref cr, .ref wr, .int (nI nc), .int f_of, .int f_ar, .ref wl, .ref wc, .int f_wt, .int f_lv, .int f_fi, .int f_en, .long f_cd, .ref rx, .ref ry, .ref rv, .ref fr, .int (nI R.length)])), (rx, .inl (X.2.1, 150, .inl (upd rxf R.length (nI (key / 32768))))), (ry, .inl (X.2.1, 150, .inl (upd ryf R.length (nI (key % 32768))))), (rv, .inl (X.2.1, 150, .inl (upd rvf R.length x)))] := hD
      refine lv_aload_n hx hb dX6_tells_30 rfl (lv_at hl 0 rfl) ?_
      refine lv_iload_n hx hb dX6_tells_31 rfl (lv_at hl 1 rfl) ?_
      refine lv_iconst (v := nI 1) hx hb dX6_tells_32 (by decide) ?_
      refine lv_iadd hx hb dX6_tells_33 ?_
      refine lv_topi (fun x_4 ex_4 => ?_)
      obtain rfl : x_4 = nI (R.length + 1) := by
        rw [ex_4]
        exact nI_add _ _
      refine va_put (D := X.1) (ci := 6) (v := .int (nI (R.length + 1))) (ty := .int) (C := RX6) (T := TX6) (N := 25) hx hb hts hin6 tyX6 tyX6_ok nmX6 hown hK hP hD hS 0 rfl rfl 24 (by decide) lk137 (fun _ h9 => h9) rfl (by decide +kernel) rfl rfl (Nat.le_of_ble_eq_true rfl) dX6_tells_34 (fun H locs hP hD hS => ?_)
      have hP : va_P X.1 vwCl [(m, .inr (6, [.int (nI bl), .int (nI bk), .int (nI b), .int (nI sp), .ref mn, .ref xr, .ref yr, .ref vr, .ref cr, .ref wr, .int (nI nc), .int f_of, .int f_ar, .ref wl, .ref wc, .int f_wt, .int f_lv, .int f_fi, .int f_en, .long f_cd, .ref rx, .ref ry, .ref rv, .ref fr, .int (nI (R.length + 1))])), (rx, .inl (X.2.1, 150, .inl (upd rxf R.length (nI (key / 32768))))), (ry, .inl (X.2.1, 150, .inl (upd ryf R.length (nI (key % 32768))))), (rv, .inl (X.2.1, 150, .inl (upd rvf R.length x)))] H := hP
      have hD : va_D A_ [(m, .inr (6, [.int (nI bl), .int (nI bk), .int (nI b), .int (nI sp), .ref mn, .ref xr, .ref yr, .ref vr, .ref cr, .ref wr, .int (nI nc), .int f_of, .int f_ar, .ref wl, .ref wc, .int f_wt, .int f_lv, .int f_fi, .int f_en, .long f_cd, .ref rx, .ref ry, .ref rv, .ref fr, .int (nI (R.length + 1))])), (rx, .inl (X.2.1, 150, .inl (upd rxf R.length (nI (key / 32768))))), (ry, .inl (X.2.1, 150, .inl (upd ryf R.length (nI (key % 32768))))), (rv, .inl (X.2.1, 150, .inl (upd rvf R.length x)))] := hD
      rw [show R.length + 1 = (rsAdd R key x).length from by rw [rs_len hn]; omega] at hP
      refine wM hQ ?_
      exact rtV (upd rxf R.length (nI (key / 32768)), upd ryf R.length (nI (key % 32768)), upd rvf R.length x) hx hb hr hlocks hP hS (mR_add h (by omega)) dX6_tells_37
  · replace c_4 : ¬ n < 150 := fun h9 => c_4 ((nI_ltI (by omega) (by omega)).mpr h9)
    rw [← rs_full (R := R) (key := key) (x := x) (by omega)] at hP
    refine wM hQ ?_
    exact rtV (rxf, ryf, rvf) hx hb hr hlocks hP hS ((by show mR rxf ryf rvf _; rw [rs_full (by omega)]; exact h)) dX6_tells_7
set_option maxHeartbeats 4000000 in
set_option maxRecDepth 100000 in
theorem c_X6_get (l : Launch) (X : kX) (m bl bk b sp mn xr yr vr cr wr nc wl wc rx ry rv fr : Nat) (f_ar f_wt f_lv f_fi f_en f_rs : Int32) (f_cd : Int64) (s_ x y : Int32) (mf xf yf vf wf : Nat → Int32) (cf : Nat → Int64) (P ZP Qm ZQm : PL) (h0 : mSt b mf xf yf vf wf cf 0 P ZP) (h1 : mSt b mf xf yf vf wf cf 1 Qm ZQm) (hb1 : b ≤ 15) (hsp : sp ≤ 32768) (hsb : sp = 2 ^ b) : CRi l X yX6_get wsX6_get 1 [.ref m, .int s_, .int x, .int y] [(m, .inr (6, [.int (nI bl), .int (nI bk), .int (nI b), .int (nI sp), .ref mn, .ref xr, .ref yr, .ref vr, .ref cr, .ref wr, .int (nI nc), .int (nI 0), .int f_ar, .ref wl, .ref wc, .int f_wt, .int f_lv, .int f_fi, .int f_en, .long f_cd, .ref rx, .ref ry, .ref rv, .ref fr, .int f_rs])), (mn, .inl (X.2.1, 2, .inl mf)), (xr, .inl (X.2.1, 6600, .inl xf)), (yr, .inl (X.2.1, 6600, .inl yf)), (vr, .inl (X.2.1, 6600, .inl vf))] (fun r => r = getV sp (sel s_ P Qm) x y) := by
  refine Met.ofW (cc := cX6_get) (maxL := 5) (ret := some (.int)) (by decide) rfl ?_
  intro pz ez sz mz args below meth cz s₁ Bz hml hv
  obtain ⟨rfl, hP, hK, hD0, hN⟩ := hv
  have hx := Bz.exec
  have hb := Bz.bytes
  have hr := Bz.returns
  have hts := atoms_spec (ws := wsX6_get) Bz.pre
  have hown : sz.vm.findClass RX6 = some mz.cls := findClass_of_methodNamed Bz.named
  have hlocks := Bz.notSynchronized
  have hD := inW.self hD0
  have hS : va_S (inW [(m, .inr (6, [.int (nI bl), .int (nI bk), .int (nI b), .int (nI sp), .ref mn, .ref xr, .ref yr, .ref vr, .ref cr, .ref wr, .int (nI nc), .int (nI 0), .int f_ar, .ref wl, .ref wc, .int f_wt, .int f_lv, .int f_fi, .int f_en, .long f_cd, .ref rx, .ref ry, .ref rv, .ref fr, .int f_rs])), (mn, .inl (X.2.1, 2, .inl mf)), (xr, .inl (X.2.1, 6600, .inl xf)), (yr, .inl (X.2.1, 6600, .inl yf)), (vr, .inl (X.2.1, 6600, .inl vf))]) sz.heap sz.heap [] := va_S.rf
  have hl := lv_entry ([.ref m, .int s_, .int x, .int y]) (n := 5) (Nat.le_of_ble_eq_true rfl)
  rw [lg_entry_eq]
  generalize (lg_sl ([.ref m, .int s_, .int x, .int y]) ++ List.replicate (5 - (lg_sl ([.ref m, .int s_, .int x, .int y])).length) Slot.unset).toArray = ls at hl ⊢
  have hl : lv_has ls 5 [(0, .ref m), (1, .int s_), (2, .int x), (3, .int y)] := hl
  have lk19 := hts (.fieldLink RX6 19 "PointStoreModel" "values" "[I") (by decide +kernel)
  have lk105 := hts (.fieldLink RX6 105 "PointStoreModel" "isOff" "Z") (by decide +kernel)
  have hin6 : ∀ w ∈ u_ws RX6 TX6 25, w ∈ wsX6_get := by decide +kernel
  refine wQ (fun Q hQ => ?_)
  generalize hAe : inW [(m, .inr (6, [.int (nI bl), .int (nI bk), .int (nI b), .int (nI sp), .ref mn, .ref xr, .ref yr, .ref vr, .ref cr, .ref wr, .int (nI nc), .int (nI 0), .int f_ar, .ref wl, .ref wc, .int f_wt, .int f_lv, .int f_fi, .int f_en, .long f_cd, .ref rx, .ref ry, .ref rv, .ref fr, .int f_rs])), (mn, .inl (X.2.1, 2, .inl mf)), (xr, .inl (X.2.1, 6600, .inl xf)), (yr, .inl (X.2.1, 6600, .inl yf)), (vr, .inl (X.2.1, 6600, .inl vf))] = A_ at hD hS
  refine lv_aload_n hx hb dX6_get_0 rfl (lv_at hl 0 rfl) ?_
  refine va_get (D := X.1) (ci := 6) (v := .int (nI 0)) (C := RX6) (T := TX6) (N := 25) hx hb hts hin6 hown hK hP 0 rfl rfl 11 (by decide) lk105 (fun _ h9 => h9) rfl dX6_get_1 ?_
  refine lv_if_eq (tgt := 10) hx hb dX6_get_4 (by decide) (fun c_4 => ?_) (fun c_4 => ?_)
  · skip
    rcases sel3 s_ with hs | hs | hs
    · skip
      have hs9 : s_ = nI 0 := hs
      subst hs9
      refine lv_iload_n hx hb dX6_get_10 rfl (lv_at hl 1 rfl) ?_
      refine ckSRi (As := [.int (nI 0)]) (rest := []) [] (c_X6_isState l X (nI 0)) ⟨hx, hb, hml, hown, hts⟩ (va_cwS 1 hts gX6_get_X6_isState rfl rfl rfl (by decide +kernel) ⟨Nat.le_of_ble_eq_true rfl, Nat.le_of_ble_eq_true rfl⟩) hK hN hP hD (by decide) rfl rfl hl.1 rfl (Nat.le_of_ble_eq_true rfl) dX6_get_11 ⟨Nat.zero_le _, Nat.zero_le _⟩ (fun r_1 hc_11 => ?_)
      rcases hc_11 with ⟨hc_11, rfl⟩ | ⟨hc_11, rfl⟩
      · skip
        refine lv_if_ne (tgt := 19) hx hb dX6_get_14 (by decide) (fun c_14 => ?_) (fun c_14 => ?_)
        · skip
          refine lv_aload_n hx hb dX6_get_19 rfl (lv_at hl 0 rfl) ?_
          refine lv_iload_n hx hb dX6_get_20 rfl (lv_at hl 1 rfl) ?_
          refine lv_iload_n hx hb dX6_get_21 rfl (lv_at hl 2 rfl) ?_
          refine lv_iload_n hx hb dX6_get_22 rfl (lv_at hl 3 rfl) ?_
          refine ckVRi (As := [.int (nI 0), .int x, .int y]) (rest := []) 0 [0, 1, 2, 3] (c_X6_placeOf l X m bl bk b sp mn xr yr vr cr wr nc wl wc rx ry rv fr (nI 0) f_ar f_wt f_lv f_fi f_en f_rs f_cd 0 x y mf xf yf P (by decide) h0.m h0.X h0.L) ⟨hx, hb, hml, hown, hts⟩ (cwV 3 hts gX6_get_X6_placeOf rfl rfl rfl (by decide +kernel) ⟨Nat.le_of_ble_eq_true rfl, Nat.le_of_ble_eq_true rfl⟩) hK hN hP hD (by decide) rfl (ci := 6) rfl rfl rfl hl.1 rfl (Nat.le_of_ble_eq_true rfl) dX6_get_23 ⟨Nat.zero_le _, Nat.zero_le _⟩ (fun r_2 hc_23 => ?_)
          obtain ⟨kk, rfl, hpl⟩ := hc_23
          have hkl := hpl.1
          have hl9 := h0.L.1
          refine lv_istore (lv' := [(4, .int (nI kk)), (0, .ref m), (1, .int (nI 0)), (2, .int x), (3, .int y)]) hx hb dX6_get_26 hl (by decide) rfl (fun ls hl => ?_)
          refine lv_aload_n hx hb dX6_get_28 rfl (lv_at hl 1 rfl) ?_
          refine lv_iload_n hx hb dX6_get_29 rfl (lv_at hl 2 rfl) ?_
          refine lv_iload hx hb dX6_get_30 (lv_at hl 0 rfl) ?_
          refine lv_iload_n hx hb dX6_get_32 rfl (lv_at hl 3 rfl) ?_
          refine lv_iload_n hx hb dX6_get_33 rfl (lv_at hl 4 rfl) ?_
          refine ckVRi (As := [.int (nI 0), .int (nI kk), .int x, .int y]) (rest := []) 0 [0, 1, 2, 3] (c_X6_isAt l X m bl bk b sp mn xr yr vr cr wr nc wl wc rx ry rv fr (nI 0) f_ar f_wt f_lv f_fi f_en f_rs f_cd 0 kk x y mf xf yf P (by decide) hkl h0.m h0.X h0.L) ⟨hx, hb, hml, hown, hts⟩ (cwV 4 hts gX6_get_X6_isAt rfl rfl rfl (by decide +kernel) ⟨Nat.le_of_ble_eq_true rfl, Nat.le_of_ble_eq_true rfl⟩) hK hN hP hD (by decide) rfl (ci := 6) rfl rfl rfl hl.1 rfl (Nat.le_of_ble_eq_true rfl) dX6_get_34 ⟨Nat.zero_le _, Nat.zero_le _⟩ (fun r_3 hc_34 => ?_)
          rcases hc_34 with ⟨hc_34, rfl⟩ | ⟨hc_34, rfl⟩
          · skip
            refine lv_if_eq (tgt := 56) hx hb dX6_get_37 (by decide) (fun c_37 => ?_) (fun c_37 => ?_)
            · exact absurd c_37 (by decide)
            · skip
              refine lv_aload_n hx hb dX6_get_40 rfl (lv_at hl 1 rfl) ?_
              refine va_get (D := X.1) (ci := 6) (v := .ref vr) (C := RX6) (T := TX6) (N := 25) hx hb hts hin6 hown hK hP 0 rfl rfl 7 (by decide) lk19 (fun _ h9 => h9) rfl dX6_get_41 ?_
              refine lv_sipush (v := nI 3300) hx hb dX6_get_44 (by decide) ?_
              refine lv_iload_n hx hb dX6_get_47 rfl (lv_at hl 2 rfl) ?_
              refine lv_imul hx hb dX6_get_48 ?_
              refine lv_topi (fun x_4 ex_4 => ?_)
              obtain rfl : x_4 = nI (3300 * 0) := by
                rw [ex_4]
                exact pk_mul _ _
              refine lv_iload hx hb dX6_get_49 (lv_at hl 0 rfl) ?_
              refine lv_iadd hx hb dX6_get_51 ?_
              refine lv_topi (fun x_5 ex_5 => ?_)
              obtain rfl : x_5 = nI ((3300 * 0) + kk) := by
                rw [ex_5]
                exact nI_add _ _
              have hi_6 : vp_in (nI ((3300 * 0) + kk)) 6600 := vp_in_nI (by omega) (by omega)
              refine va_iald hx hb hK hP 4 0 rfl rfl hi_6 dX6_get_52 ?_
              refine lv_topi (fun x_7 ex_7 => ?_)
              obtain rfl : x_7 = vf ((3300 * 0) + kk) := by
                rw [ex_7]
                rw [nI_clamp (by omega)]
              refine lv_topi (fun x_8 ex_8 => ?_)
              obtain rfl : x_8 = nI (pV P kk) := by
                rw [ex_8]
                exact h0.V kk hc_34.1
              refine lv_goto (tgt := 57) hx hb dX6_get_53 (by decide) ?_
              refine wM hQ ?_
              exact rtRI hx hb hr hlocks ((by show _ = _; rw [sel_0 (show nI 0 = 0 from rfl)]; exact (get_some h0.L h0.I hb1 hsb hc_34).symm)) dX6_get_57
          · skip
            refine lv_if_eq (tgt := 56) hx hb dX6_get_37 (by decide) (fun c_37 => ?_) (fun c_37 => ?_)
            · skip
              refine lv_iconst (v := (-1)) hx hb dX6_get_56 (by decide) ?_
              refine wM hQ ?_
              exact rtRI hx hb hr hlocks ((by show _ = _; rw [sel_0 (show nI 0 = 0 from rfl)]; exact (get_none h0.L hsp hpl hc_34).symm)) dX6_get_57
            · exact absurd c_37 (by decide)
        · exact absurd c_14 (by decide)
      · skip
        exact absurd (Or.inl rfl) hc_11
    · skip
      subst hs
      refine lv_iload_n hx hb dX6_get_10 rfl (lv_at hl 1 rfl) ?_
      refine ckSRi (As := [.int (nI 1)]) (rest := []) [] (c_X6_isState l X (nI 1)) ⟨hx, hb, hml, hown, hts⟩ (va_cwS 1 hts gX6_get_X6_isState rfl rfl rfl (by decide +kernel) ⟨Nat.le_of_ble_eq_true rfl, Nat.le_of_ble_eq_true rfl⟩) hK hN hP hD (by decide) rfl rfl hl.1 rfl (Nat.le_of_ble_eq_true rfl) dX6_get_11 ⟨Nat.zero_le _, Nat.zero_le _⟩ (fun r_9 hc_11 => ?_)
      rcases hc_11 with ⟨hc_11, rfl⟩ | ⟨hc_11, rfl⟩
      · skip
        refine lv_if_ne (tgt := 19) hx hb dX6_get_14 (by decide) (fun c_14 => ?_) (fun c_14 => ?_)
        · skip
          refine lv_aload_n hx hb dX6_get_19 rfl (lv_at hl 0 rfl) ?_
          refine lv_iload_n hx hb dX6_get_20 rfl (lv_at hl 1 rfl) ?_
          refine lv_iload_n hx hb dX6_get_21 rfl (lv_at hl 2 rfl) ?_
          refine lv_iload_n hx hb dX6_get_22 rfl (lv_at hl 3 rfl) ?_
          refine ckVRi (As := [.int (nI 1), .int x, .int y]) (rest := []) 0 [0, 1, 2, 3] (c_X6_placeOf l X m bl bk b sp mn xr yr vr cr wr nc wl wc rx ry rv fr (nI 0) f_ar f_wt f_lv f_fi f_en f_rs f_cd 1 x y mf xf yf Qm (by decide) h1.m h1.X h1.L) ⟨hx, hb, hml, hown, hts⟩ (cwV 3 hts gX6_get_X6_placeOf rfl rfl rfl (by decide +kernel) ⟨Nat.le_of_ble_eq_true rfl, Nat.le_of_ble_eq_true rfl⟩) hK hN hP hD (by decide) rfl (ci := 6) rfl rfl rfl hl.1 rfl (Nat.le_of_ble_eq_true rfl) dX6_get_23 ⟨Nat.zero_le _, Nat.zero_le _⟩ (fun r_10 hc_23 => ?_)
          obtain ⟨kk, rfl, hpl⟩ := hc_23
          have hkl := hpl.1
          have hl9 := h1.L.1
          refine lv_istore (lv' := [(4, .int (nI kk)), (0, .ref m), (1, .int (nI 1)), (2, .int x), (3, .int y)]) hx hb dX6_get_26 hl (by decide) rfl (fun ls hl => ?_)
          refine lv_aload_n hx hb dX6_get_28 rfl (lv_at hl 1 rfl) ?_
          refine lv_iload_n hx hb dX6_get_29 rfl (lv_at hl 2 rfl) ?_
          refine lv_iload hx hb dX6_get_30 (lv_at hl 0 rfl) ?_
          refine lv_iload_n hx hb dX6_get_32 rfl (lv_at hl 3 rfl) ?_
          refine lv_iload_n hx hb dX6_get_33 rfl (lv_at hl 4 rfl) ?_
          refine ckVRi (As := [.int (nI 1), .int (nI kk), .int x, .int y]) (rest := []) 0 [0, 1, 2, 3] (c_X6_isAt l X m bl bk b sp mn xr yr vr cr wr nc wl wc rx ry rv fr (nI 0) f_ar f_wt f_lv f_fi f_en f_rs f_cd 1 kk x y mf xf yf Qm (by decide) hkl h1.m h1.X h1.L) ⟨hx, hb, hml, hown, hts⟩ (cwV 4 hts gX6_get_X6_isAt rfl rfl rfl (by decide +kernel) ⟨Nat.le_of_ble_eq_true rfl, Nat.le_of_ble_eq_true rfl⟩) hK hN hP hD (by decide) rfl (ci := 6) rfl rfl rfl hl.1 rfl (Nat.le_of_ble_eq_true rfl) dX6_get_34 ⟨Nat.zero_le _, Nat.zero_le _⟩ (fun r_11 hc_34 => ?_)
          rcases hc_34 with ⟨hc_34, rfl⟩ | ⟨hc_34, rfl⟩
          · skip
            refine lv_if_eq (tgt := 56) hx hb dX6_get_37 (by decide) (fun c_37 => ?_) (fun c_37 => ?_)
            · exact absurd c_37 (by decide)
            · skip
              refine lv_aload_n hx hb dX6_get_40 rfl (lv_at hl 1 rfl) ?_
              refine va_get (D := X.1) (ci := 6) (v := .ref vr) (C := RX6) (T := TX6) (N := 25) hx hb hts hin6 hown hK hP 0 rfl rfl 7 (by decide) lk19 (fun _ h9 => h9) rfl dX6_get_41 ?_
              refine lv_sipush (v := nI 3300) hx hb dX6_get_44 (by decide) ?_
              refine lv_iload_n hx hb dX6_get_47 rfl (lv_at hl 2 rfl) ?_
              refine lv_imul hx hb dX6_get_48 ?_
              refine lv_topi (fun x_12 ex_12 => ?_)
              obtain rfl : x_12 = nI (3300 * 1) := by
                rw [ex_12]
                exact pk_mul _ _
              refine lv_iload hx hb dX6_get_49 (lv_at hl 0 rfl) ?_
              refine lv_iadd hx hb dX6_get_51 ?_
              refine lv_topi (fun x_13 ex_13 => ?_)
              obtain rfl : x_13 = nI ((3300 * 1) + kk) := by
                rw [ex_13]
                exact nI_add _ _
              have hi_14 : vp_in (nI ((3300 * 1) + kk)) 6600 := vp_in_nI (by omega) (by omega)
              refine va_iald hx hb hK hP 4 0 rfl rfl hi_14 dX6_get_52 ?_
              refine lv_topi (fun x_15 ex_15 => ?_)
              obtain rfl : x_15 = vf ((3300 * 1) + kk) := by
                rw [ex_15]
                rw [nI_clamp (by omega)]
              refine lv_topi (fun x_16 ex_16 => ?_)
              obtain rfl : x_16 = nI (pV Qm kk) := by
                rw [ex_16]
                exact h1.V kk hc_34.1
              refine lv_goto (tgt := 57) hx hb dX6_get_53 (by decide) ?_
              refine wM hQ ?_
              exact rtRI hx hb hr hlocks ((by show _ = _; rw [sel_1 rfl]; exact (get_some h1.L h1.I hb1 hsb hc_34).symm)) dX6_get_57
          · skip
            refine lv_if_eq (tgt := 56) hx hb dX6_get_37 (by decide) (fun c_37 => ?_) (fun c_37 => ?_)
            · skip
              refine lv_iconst (v := (-1)) hx hb dX6_get_56 (by decide) ?_
              refine wM hQ ?_
              exact rtRI hx hb hr hlocks ((by show _ = _; rw [sel_1 rfl]; exact (get_none h1.L hsp hpl hc_34).symm)) dX6_get_57
            · exact absurd c_37 (by decide)
        · exact absurd c_14 (by decide)
      · skip
        exact absurd (Or.inr rfl) hc_11
    · skip
      skip
      refine lv_iload_n hx hb dX6_get_10 rfl (lv_at hl 1 rfl) ?_
      refine ckSRi (As := [.int s_]) (rest := []) [] (c_X6_isState l X s_) ⟨hx, hb, hml, hown, hts⟩ (va_cwS 1 hts gX6_get_X6_isState rfl rfl rfl (by decide +kernel) ⟨Nat.le_of_ble_eq_true rfl, Nat.le_of_ble_eq_true rfl⟩) hK hN hP hD (by decide) rfl rfl hl.1 rfl (Nat.le_of_ble_eq_true rfl) dX6_get_11 ⟨Nat.zero_le _, Nat.zero_le _⟩ (fun r_17 hc_11 => ?_)
      rcases hc_11 with ⟨hc_11, rfl⟩ | ⟨hc_11, rfl⟩
      · skip
        exact absurd hc_11 (fun z => z.elim hs.1 hs.2)
      · skip
        refine lv_if_ne (tgt := 19) hx hb dX6_get_14 (by decide) (fun c_14 => ?_) (fun c_14 => ?_)
        · exact absurd c_14 (by decide)
        · skip
          refine lv_iconst (v := (-1)) hx hb dX6_get_17 (by decide) ?_
          refine wM hQ ?_
          exact rtRI hx hb hr hlocks ((by show _ = _; rw [sel_n hs.1 hs.2]; rfl)) dX6_get_18
  · exact absurd c_4 (by decide)
set_option maxHeartbeats 4000000 in
set_option maxRecDepth 100000 in
theorem c_X6_window (l : Launch) (X : kX) (m bl bk b sp mn xr yr vr cr wr nc wl wc rx ry rv fr : Nat) (f_ar f_wt f_lv f_fi f_en : Int32) (f_cd : Int64) (s_ x0 y0 x1 y1 : Int32) (rxf ryf rvf : Nat → Int32) (R : RSL) (h3 : mR rxf ryf rvf R) (mf xf yf vf wf : Nat → Int32) (cf : Nat → Int64) (P ZP Qm ZQm : PL) (h0 : mSt b mf xf yf vf wf cf 0 P ZP) (h1 : mSt b mf xf yf vf wf cf 1 Qm ZQm) : CWi l X yX6_window wsX6_window 1 [.ref m, .int s_, .int x0, .int y0, .int x1, .int y1] [(m, .inr (6, [.int (nI bl), .int (nI bk), .int (nI b), .int (nI sp), .ref mn, .ref xr, .ref yr, .ref vr, .ref cr, .ref wr, .int (nI nc), .int (nI 0), .int f_ar, .ref wl, .ref wc, .int f_wt, .int f_lv, .int f_fi, .int f_en, .long f_cd, .ref rx, .ref ry, .ref rv, .ref fr, .int (nI R.length)])), (mn, .inl (X.2.1, 2, .inl mf)), (xr, .inl (X.2.1, 6600, .inl xf)), (yr, .inl (X.2.1, 6600, .inl yf)), (vr, .inl (X.2.1, 6600, .inl vf)), (rx, .inl (X.2.1, 150, .inl rxf)), (ry, .inl (X.2.1, 150, .inl ryf)), (rv, .inl (X.2.1, 150, .inl rvf))] (S := (Nat → Int32) × (Nat → Int32) × (Nat → Int32) × RSL) (fun r u => mR u.1 u.2.1 u.2.2.1 u.2.2.2 ∧ (r, u.2.2.2) = winF (sel s_ P Qm) R x0 y0 x1 y1) (fun ⟨rx2, ry2, rv2, R2⟩ => [(m, .inr (6, [.int (nI bl), .int (nI bk), .int (nI b), .int (nI sp), .ref mn, .ref xr, .ref yr, .ref vr, .ref cr, .ref wr, .int (nI nc), .int (nI 0), .int f_ar, .ref wl, .ref wc, .int f_wt, .int f_lv, .int f_fi, .int f_en, .long f_cd, .ref rx, .ref ry, .ref rv, .ref fr, .int (nI R2.length)])), (mn, .inl (X.2.1, 2, .inl mf)), (xr, .inl (X.2.1, 6600, .inl xf)), (yr, .inl (X.2.1, 6600, .inl yf)), (vr, .inl (X.2.1, 6600, .inl vf)), (rx, .inl (X.2.1, 150, .inl rx2)), (ry, .inl (X.2.1, 150, .inl ry2)), (rv, .inl (X.2.1, 150, .inl rv2))]) := by
  refine Met.ofW (cc := cX6_window) (maxL := 9) (ret := some (.int)) (by decide) rfl ?_
  intro pz ez sz mz args below meth cz s₁ Bz hml hv
  obtain ⟨rfl, hP, hK, hD0, hN⟩ := hv
  have hx := Bz.exec
  have hb := Bz.bytes
  have hr := Bz.returns
  have hts := atoms_spec (ws := wsX6_window) Bz.pre
  have hown : sz.vm.findClass RX6 = some mz.cls := findClass_of_methodNamed Bz.named
  have hlocks := Bz.notSynchronized
  have hD := inW.self hD0
  have hS : va_S (inW [(m, .inr (6, [.int (nI bl), .int (nI bk), .int (nI b), .int (nI sp), .ref mn, .ref xr, .ref yr, .ref vr, .ref cr, .ref wr, .int (nI nc), .int (nI 0), .int f_ar, .ref wl, .ref wc, .int f_wt, .int f_lv, .int f_fi, .int f_en, .long f_cd, .ref rx, .ref ry, .ref rv, .ref fr, .int (nI R.length)])), (mn, .inl (X.2.1, 2, .inl mf)), (xr, .inl (X.2.1, 6600, .inl xf)), (yr, .inl (X.2.1, 6600, .inl yf)), (vr, .inl (X.2.1, 6600, .inl vf)), (rx, .inl (X.2.1, 150, .inl rxf)), (ry, .inl (X.2.1, 150, .inl ryf)), (rv, .inl (X.2.1, 150, .inl rvf))]) sz.heap sz.heap [] := va_S.rf
  have hl := lv_entry ([.ref m, .int s_, .int x0, .int y0, .int x1, .int y1]) (n := 9) (Nat.le_of_ble_eq_true rfl)
  rw [lg_entry_eq]
  generalize (lg_sl ([.ref m, .int s_, .int x0, .int y0, .int x1, .int y1]) ++ List.replicate (9 - (lg_sl ([.ref m, .int s_, .int x0, .int y0, .int x1, .int y1])).length) Slot.unset).toArray = ls at hl ⊢
  have hl : lv_has ls 9 [(0, .ref m), (1, .int s_), (2, .int x0), (3, .int y0), (4, .int x1), (5, .int y1)] := hl
  have lk7 := hts (.fieldLink RX6 7 "PointStoreModel" "many" "[I") (by decide +kernel)
  have lk13 := hts (.fieldLink RX6 13 "PointStoreModel" "xs" "[I") (by decide +kernel)
  have lk16 := hts (.fieldLink RX6 16 "PointStoreModel" "ys" "[I") (by decide +kernel)
  have lk19 := hts (.fieldLink RX6 19 "PointStoreModel" "values" "[I") (by decide +kernel)
  have lk105 := hts (.fieldLink RX6 105 "PointStoreModel" "isOff" "Z") (by decide +kernel)
  have lk137 := hts (.fieldLink RX6 137 "PointStoreModel" "results" "I") (by decide +kernel)
  have hin6 : ∀ w ∈ u_ws RX6 TX6 25, w ∈ wsX6_window := by decide +kernel
  refine wQ (fun Q hQ => ?_)
  generalize hAe : inW [(m, .inr (6, [.int (nI bl), .int (nI bk), .int (nI b), .int (nI sp), .ref mn, .ref xr, .ref yr, .ref vr, .ref cr, .ref wr, .int (nI nc), .int (nI 0), .int f_ar, .ref wl, .ref wc, .int f_wt, .int f_lv, .int f_fi, .int f_en, .long f_cd, .ref rx, .ref ry, .ref rv, .ref fr, .int (nI R.length)])), (mn, .inl (X.2.1, 2, .inl mf)), (xr, .inl (X.2.1, 6600, .inl xf)), (yr, .inl (X.2.1, 6600, .inl yf)), (vr, .inl (X.2.1, 6600, .inl vf)), (rx, .inl (X.2.1, 150, .inl rxf)), (ry, .inl (X.2.1, 150, .inl ryf)), (rv, .inl (X.2.1, 150, .inl rvf))] = A_ at hD hS hQ
  have hp1 := h0.L.1
  have hp2 := h1.L.1
  have hR := h3.1
  refine lv_aload_n hx hb dX6_window_0 rfl (lv_at hl 0 rfl) ?_
  refine va_get (D := X.1) (ci := 6) (v := .int (nI 0)) (C := RX6) (T := TX6) (N := 25) hx hb hts hin6 hown hK hP 0 rfl rfl 11 (by decide) lk105 (fun _ h9 => h9) rfl dX6_window_1 ?_
  refine lv_if_eq (tgt := 10) hx hb dX6_window_4 (by decide) (fun c_4 => ?_) (fun c_4 => ?_)
  · skip
    rcases sel3 s_ with hs | hs | hs
    · skip
      have hs9 : s_ = nI 0 := hs
      subst hs9
      refine lv_iload_n hx hb dX6_window_10 rfl (lv_at hl 1 rfl) ?_
      refine ckSRi (As := [.int (nI 0)]) (rest := []) [] (c_X6_isState l X (nI 0)) ⟨hx, hb, hml, hown, hts⟩ (va_cwS 1 hts gX6_window_X6_isState rfl rfl rfl (by decide +kernel) ⟨Nat.le_of_ble_eq_true rfl, Nat.le_of_ble_eq_true rfl⟩) hK hN hP hD (by decide) rfl rfl hl.1 rfl (Nat.le_of_ble_eq_true rfl) dX6_window_11 ⟨Nat.zero_le _, Nat.zero_le _⟩ (fun r_1 hc_11 => ?_)
      rcases hc_11 with ⟨hc_11, rfl⟩ | ⟨hc_11, rfl⟩
      · skip
        refine lv_if_ne (tgt := 19) hx hb dX6_window_14 (by decide) (fun c_14 => ?_) (fun c_14 => ?_)
        · skip
          refine lv_aload_n hx hb dX6_window_19 rfl (lv_at hl 0 rfl) ?_
          refine lv_iconst (v := nI 0) hx hb dX6_window_20 (by decide) ?_
          refine va_put (D := X.1) (ci := 6) (v := .int (nI 0)) (ty := .int) (C := RX6) (T := TX6) (N := 25) hx hb hts hin6 tyX6 tyX6_ok nmX6 hown hK hP hD hS 0 rfl rfl 24 (by decide) lk137 (fun _ h9 => h9) rfl (by decide +kernel) rfl rfl (Nat.le_of_ble_eq_true rfl) dX6_window_21 (fun H locs hP hD hS => ?_)
          have hP : va_P X.1 vwCl [(m, .inr (6, [.int (nI bl), .int (nI bk), .int (nI b), .int (nI sp), .ref mn, .ref xr, .ref yr, .ref vr, .ref cr, .ref wr, .int (nI nc), .int (nI 0), .int f_ar, .ref wl, .ref wc, .int f_wt, .int f_lv, .int f_fi, .int f_en, .long f_cd, .ref rx, .ref ry, .ref rv, .ref fr, .int (nI 0)])), (mn, .inl (X.2.1, 2, .inl mf)), (xr, .inl (X.2.1, 6600, .inl xf)), (yr, .inl (X.2.1, 6600, .inl yf)), (vr, .inl (X.2.1, 6600, .inl vf)), (rx, .inl (X.2.1, 150, .inl rxf)), (ry, .inl (X.2.1, 150, .inl ryf)), (rv, .inl (X.2.1, 150, .inl rvf))] H := hP
          have hD : va_D A_ [(m, .inr (6, [.int (nI bl), .int (nI bk), .int (nI b), .int (nI sp), .ref mn, .ref xr, .ref yr, .ref vr, .ref cr, .ref wr, .int (nI nc), .int (nI 0), .int f_ar, .ref wl, .ref wc, .int f_wt, .int f_lv, .int f_fi, .int f_en, .long f_cd, .ref rx, .ref ry, .ref rv, .ref fr, .int (nI 0)])), (mn, .inl (X.2.1, 2, .inl mf)), (xr, .inl (X.2.1, 6600, .inl xf)), (yr, .inl (X.2.1, 6600, .inl yf)), (vr, .inl (X.2.1, 6600, .inl vf)), (rx, .inl (X.2.1, 150, .inl rxf)), (ry, .inl (X.2.1, 150, .inl ryf)), (rv, .inl (X.2.1, 150, .inl rvf))] := hD
          refine lv_iconst (v := nI 0) hx hb dX6_window_24 (by decide) ?_
          refine lv_istore (lv' := [(6, .int (nI 0)), (0, .ref m), (1, .int (nI 0)), (2, .int x0), (3, .int y0), (4, .int x1), (5, .int y1)]) hx hb dX6_window_25 hl (by decide) rfl (fun ls hl => ?_)
          refine lv_iconst (v := nI 0) hx hb dX6_window_27 (by decide) ?_
          refine lv_istore (lv' := [(7, .int (nI 0)), (6, .int (nI 0)), (0, .ref m), (1, .int (nI 0)), (2, .int x0), (3, .int y0), (4, .int x1), (5, .int y1)]) hx hb dX6_window_28 hl (by decide) rfl (fun ls hl => ?_)
          have loop_30 : ∀ (fu : Nat) (i : Nat) (rx1 : Nat → Int32) (ry1 : Nat → Int32) (rv1 : Nat → Int32), (i ≤ P.length) → (mR rx1 ry1 rv1 ((P.take i).foldl (wSt x0 y0 x1 y1) ([], 0)).1) → P.length - i < fu → ∀ (H : Heap) (locs : List Loc), va_P X.1 vwCl [(m, .inr (6, [.int (nI bl), .int (nI bk), .int (nI b), .int (nI sp), .ref mn, .ref xr, .ref yr, .ref vr, .ref cr, .ref wr, .int (nI nc), .int (nI 0), .int f_ar, .ref wl, .ref wc, .int f_wt, .int f_lv, .int f_fi, .int f_en, .long f_cd, .ref rx, .ref ry, .ref rv, .ref fr, .int (nI (((P.take i).foldl (wSt x0 y0 x1 y1) ([], 0)).1.length))])), (mn, .inl (X.2.1, 2, .inl mf)), (xr, .inl (X.2.1, 6600, .inl xf)), (yr, .inl (X.2.1, 6600, .inl yf)), (vr, .inl (X.2.1, 6600, .inl vf)), (rx, .inl (X.2.1, 150, .inl rx1)), (ry, .inl (X.2.1, 150, .inl ry1)), (rv, .inl (X.2.1, 150, .inl rv1))] H → va_D A_ [(m, .inr (6, [.int (nI bl), .int (nI bk), .int (nI b), .int (nI sp), .ref mn, .ref xr, .ref yr, .ref vr, .ref cr, .ref wr, .int (nI nc), .int (nI 0), .int f_ar, .ref wl, .ref wc, .int f_wt, .int f_lv, .int f_fi, .int f_en, .long f_cd, .ref rx, .ref ry, .ref rv, .ref fr, .int (nI (((P.take i).foldl (wSt x0 y0 x1 y1) ([], 0)).1.length))])), (mn, .inl (X.2.1, 2, .inl mf)), (xr, .inl (X.2.1, 6600, .inl xf)), (yr, .inl (X.2.1, 6600, .inl yf)), (vr, .inl (X.2.1, 6600, .inl vf)), (rx, .inl (X.2.1, 150, .inl rx1)), (ry, .inl (X.2.1, 150, .inl ry1)), (rv, .inl (X.2.1, 150, .inl rv1))] → va_S A_ sz.heap H locs → ∀ (ls : Array Slot), lv_has ls 9 [(0, .ref m), (1, .int (nI 0)), (2, .int x0), (3, .int y0), (4, .int x1), (5, .int y1), (6, .int (nI (((P.take i).foldl (wSt x0 y0 x1 y1) ([], 0)).2))), (7, .int (nI i))] → W pz l ez (headSpec wsX6_window (rmk 1)).room sz mz ([.ref m, .int (nI 0), .int x0, .int y0, .int x1, .int y1].toArray) below meth cz H locs 0 0 Q (F0 mz 30 ls []) := by
            intro fu
            induction fu with
            | zero => intro i rx1 ry1 rv1 hi hr1 hfu; exact absurd hfu (Nat.not_lt_zero _)
            | succ fu ih30 =>
              intro i rx1 ry1 rv1 hi hr1 hfu H locs hP hD hS ls hl
              refine lv_iload hx hb dX6_window_30 (lv_at hl 7 rfl) ?_
              refine lv_aload_n hx hb dX6_window_32 rfl (lv_at hl 0 rfl) ?_
              refine va_get (D := X.1) (ci := 6) (v := .ref mn) (C := RX6) (T := TX6) (N := 25) hx hb hts hin6 hown hK hP 0 rfl rfl 4 (by decide) lk7 (fun _ h9 => h9) rfl dX6_window_33 ?_
              refine lv_iload_n hx hb dX6_window_36 rfl (lv_at hl 1 rfl) ?_
              have hi_2 : vp_in (nI 0) 2 := vp_in_nI (by omega) (by omega)
              refine va_iald hx hb hK hP 1 0 rfl rfl hi_2 dX6_window_37 ?_
              refine lv_topi (fun x_3 ex_3 => ?_)
              obtain rfl : x_3 = mf 0 := by
                rw [ex_3]
                rw [nI_clamp (by omega)]
              refine lv_topi (fun x_4 ex_4 => ?_)
              obtain rfl : x_4 = nI P.length := by
                rw [ex_4]
                exact h0.m
              refine lv_icmp_ge (tgt := 139) hx hb dX6_window_38 (by decide) (fun c_38 => ?_) (fun c_38 => ?_)
              · replace c_38 : P.length ≤ i := (nI_leI (by omega) (by omega)).mp c_38
                refine lv_iload hx hb dX6_window_139 (lv_at hl 6 rfl) ?_
                refine wM hQ ?_
                exact rtI (rx1, ry1, rv1, ((P.take i).foldl (wSt x0 y0 x1 y1) ([], 0)).1) hx hb hr hlocks hP hS (⟨hr1, by show (nI ((P.take i).foldl (wSt x0 y0 x1 y1) ([], 0)).2, ((P.take i).foldl (wSt x0 y0 x1 y1) ([], 0)).1) = _; rw [sel_0 (show nI 0 = 0 from rfl)]; show _ = (nI (wAll x0 y0 x1 y1 P).2, (wAll x0 y0 x1 y1 P).1); rw [show i = P.length from by omega, wAll_full]⟩) dX6_window_141
              · replace c_38 : ¬ P.length ≤ i := fun h9 => c_38 ((nI_leI (by omega) (by omega)).mpr h9)
                refine lv_sipush (v := nI 3300) hx hb dX6_window_41 (by decide) ?_
                refine lv_iload_n hx hb dX6_window_44 rfl (lv_at hl 1 rfl) ?_
                refine lv_imul hx hb dX6_window_45 ?_
                refine lv_topi (fun x_5 ex_5 => ?_)
                obtain rfl : x_5 = nI (3300 * 0) := by
                  rw [ex_5]
                  exact pk_mul _ _
                refine lv_iload hx hb dX6_window_46 (lv_at hl 7 rfl) ?_
                refine lv_iadd hx hb dX6_window_48 ?_
                refine lv_topi (fun x_6 ex_6 => ?_)
                obtain rfl : x_6 = nI ((3300 * 0) + i) := by
                  rw [ex_6]
                  exact nI_add _ _
                refine lv_istore (lv' := [(8, .int (nI ((3300 * 0) + i))), (0, .ref m), (1, .int (nI 0)), (2, .int x0), (3, .int y0), (4, .int x1), (5, .int y1), (6, .int (nI (((P.take i).foldl (wSt x0 y0 x1 y1) ([], 0)).2))), (7, .int (nI i))]) hx hb dX6_window_49 hl (by decide) rfl (fun ls hl => ?_)
                refine lv_aload_n hx hb dX6_window_51 rfl (lv_at hl 1 rfl) ?_
                refine va_get (D := X.1) (ci := 6) (v := .ref xr) (C := RX6) (T := TX6) (N := 25) hx hb hts hin6 hown hK hP 0 rfl rfl 5 (by decide) lk13 (fun _ h9 => h9) rfl dX6_window_52 ?_
                refine lv_iload hx hb dX6_window_55 (lv_at hl 0 rfl) ?_
                have hi_7 : vp_in (nI ((3300 * 0) + i)) 6600 := vp_in_nI (by omega) (by omega)
                refine va_iald hx hb hK hP 2 0 rfl rfl hi_7 dX6_window_57 ?_
                refine lv_topi (fun x_8 ex_8 => ?_)
                obtain rfl : x_8 = xf ((3300 * 0) + i) := by
                  rw [ex_8]
                  rw [nI_clamp (by omega)]
                refine lv_topi (fun x_9 ex_9 => ?_)
                obtain rfl : x_9 = nI (pK P i / 32768) := by
                  rw [ex_9]
                  exact (h0.X i (by omega)).1
                refine lv_iload_n hx hb dX6_window_58 rfl (lv_at hl 3 rfl) ?_
                refine lv_icmp_lt (tgt := 133) hx hb dX6_window_59 (by decide) (fun c_59 => ?_) (fun c_59 => ?_)
                · skip
                  refine lv_iinc (v := nI (i + 1)) (lv' := [(7, .int (nI (i + 1))), (8, .int (nI ((3300 * 0) + i))), (0, .ref m), (1, .int (nI 0)), (2, .int x0), (3, .int y0), (4, .int x1), (5, .int y1), (6, .int (nI (((P.take i).foldl (wSt x0 y0 x1 y1) ([], 0)).2)))]) hx hb dX6_window_133 hl (k := 8) rfl (by rw [show Int32.ofInt 1 = nI 1 from by decide]; exact nI_add _ _) (by decide) rfl (fun ls hl => ?_)
                  refine lv_goto (tgt := 30) hx hb dX6_window_136 (by decide) ?_
                  have hw9 := w_out (x0 := x0) (y0 := y0) (x1 := x1) (y1 := y1) (L := P) (i := i) (by omega) (fun z => by first | exact z.1 c_59 | exact z.2.1 c_71 | exact z.2.2.1 c_82 | exact c_94 (Int32.not_lt.mp z.2.2.2))
                  have hl : lv_has ls 9 [(7, .int (nI (i + 1))), (8, .int (nI ((3300 * 0) + i))), (0, .ref m), (1, .int (nI 0)), (2, .int x0), (3, .int y0), (4, .int x1), (5, .int y1), (6, .int (nI (((P.take (i + 1)).foldl (wSt x0 y0 x1 y1) ([], 0)).2)))] := by
                    rw [hw9]
                    exact hl
                  rw [← hw9] at hP hD
                  exact ih30 (i + 1) rx1 ry1 rv1 (by omega) (by rw [hw9]; exact hr1) (by omega) _ _ hP hD hS ls (lv_sub hl [2, 3, 4, 5, 6, 7, 8, 0] rfl)
                · skip
                  refine lv_aload_n hx hb dX6_window_62 rfl (lv_at hl 1 rfl) ?_
                  refine va_get (D := X.1) (ci := 6) (v := .ref xr) (C := RX6) (T := TX6) (N := 25) hx hb hts hin6 hown hK hP 0 rfl rfl 5 (by decide) lk13 (fun _ h9 => h9) rfl dX6_window_63 ?_
                  refine lv_iload hx hb dX6_window_66 (lv_at hl 0 rfl) ?_
                  have hi_10 : vp_in (nI ((3300 * 0) + i)) 6600 := vp_in_nI (by omega) (by omega)
                  refine va_iald hx hb hK hP 2 0 rfl rfl hi_10 dX6_window_68 ?_
                  refine lv_topi (fun x_11 ex_11 => ?_)
                  obtain rfl : x_11 = xf ((3300 * 0) + i) := by
                    rw [ex_11]
                    rw [nI_clamp (by omega)]
                  refine lv_topi (fun x_12 ex_12 => ?_)
                  obtain rfl : x_12 = nI (pK P i / 32768) := by
                    rw [ex_12]
                    exact (h0.X i (by omega)).1
                  refine lv_iload hx hb dX6_window_69 (lv_at hl 5 rfl) ?_
                  refine lv_icmp_gt (tgt := 133) hx hb dX6_window_71 (by decide) (fun c_71 => ?_) (fun c_71 => ?_)
                  · skip
                    refine lv_iinc (v := nI (i + 1)) (lv' := [(7, .int (nI (i + 1))), (8, .int (nI ((3300 * 0) + i))), (0, .ref m), (1, .int (nI 0)), (2, .int x0), (3, .int y0), (4, .int x1), (5, .int y1), (6, .int (nI (((P.take i).foldl (wSt x0 y0 x1 y1) ([], 0)).2)))]) hx hb dX6_window_133 hl (k := 8) rfl (by rw [show Int32.ofInt 1 = nI 1 from by decide]; exact nI_add _ _) (by decide) rfl (fun ls hl => ?_)
                    refine lv_goto (tgt := 30) hx hb dX6_window_136 (by decide) ?_
                    have hw9 := w_out (x0 := x0) (y0 := y0) (x1 := x1) (y1 := y1) (L := P) (i := i) (by omega) (fun z => by first | exact z.1 c_59 | exact z.2.1 c_71 | exact z.2.2.1 c_82 | exact c_94 (Int32.not_lt.mp z.2.2.2))
                    have hl : lv_has ls 9 [(7, .int (nI (i + 1))), (8, .int (nI ((3300 * 0) + i))), (0, .ref m), (1, .int (nI 0)), (2, .int x0), (3, .int y0), (4, .int x1), (5, .int y1), (6, .int (nI (((P.take (i + 1)).foldl (wSt x0 y0 x1 y1) ([], 0)).2)))] := by
                      rw [hw9]
                      exact hl
                    rw [← hw9] at hP hD
                    exact ih30 (i + 1) rx1 ry1 rv1 (by omega) (by rw [hw9]; exact hr1) (by omega) _ _ hP hD hS ls (lv_sub hl [2, 3, 4, 5, 6, 7, 8, 0] rfl)
                  · skip
                    refine lv_aload_n hx hb dX6_window_74 rfl (lv_at hl 1 rfl) ?_
                    refine va_get (D := X.1) (ci := 6) (v := .ref yr) (C := RX6) (T := TX6) (N := 25) hx hb hts hin6 hown hK hP 0 rfl rfl 6 (by decide) lk16 (fun _ h9 => h9) rfl dX6_window_75 ?_
                    refine lv_iload hx hb dX6_window_78 (lv_at hl 0 rfl) ?_
                    have hi_13 : vp_in (nI ((3300 * 0) + i)) 6600 := vp_in_nI (by omega) (by omega)
                    refine va_iald hx hb hK hP 3 0 rfl rfl hi_13 dX6_window_80 ?_
                    refine lv_topi (fun x_14 ex_14 => ?_)
                    obtain rfl : x_14 = yf ((3300 * 0) + i) := by
                      rw [ex_14]
                      rw [nI_clamp (by omega)]
                    refine lv_topi (fun x_15 ex_15 => ?_)
                    obtain rfl : x_15 = nI (pK P i % 32768) := by
                      rw [ex_15]
                      exact (h0.X i (by omega)).2
                    refine lv_iload_n hx hb dX6_window_81 rfl (lv_at hl 4 rfl) ?_
                    refine lv_icmp_lt (tgt := 133) hx hb dX6_window_82 (by decide) (fun c_82 => ?_) (fun c_82 => ?_)
                    · skip
                      refine lv_iinc (v := nI (i + 1)) (lv' := [(7, .int (nI (i + 1))), (8, .int (nI ((3300 * 0) + i))), (0, .ref m), (1, .int (nI 0)), (2, .int x0), (3, .int y0), (4, .int x1), (5, .int y1), (6, .int (nI (((P.take i).foldl (wSt x0 y0 x1 y1) ([], 0)).2)))]) hx hb dX6_window_133 hl (k := 8) rfl (by rw [show Int32.ofInt 1 = nI 1 from by decide]; exact nI_add _ _) (by decide) rfl (fun ls hl => ?_)
                      refine lv_goto (tgt := 30) hx hb dX6_window_136 (by decide) ?_
                      have hw9 := w_out (x0 := x0) (y0 := y0) (x1 := x1) (y1 := y1) (L := P) (i := i) (by omega) (fun z => by first | exact z.1 c_59 | exact z.2.1 c_71 | exact z.2.2.1 c_82 | exact c_94 (Int32.not_lt.mp z.2.2.2))
                      have hl : lv_has ls 9 [(7, .int (nI (i + 1))), (8, .int (nI ((3300 * 0) + i))), (0, .ref m), (1, .int (nI 0)), (2, .int x0), (3, .int y0), (4, .int x1), (5, .int y1), (6, .int (nI (((P.take (i + 1)).foldl (wSt x0 y0 x1 y1) ([], 0)).2)))] := by
                        rw [hw9]
                        exact hl
                      rw [← hw9] at hP hD
                      exact ih30 (i + 1) rx1 ry1 rv1 (by omega) (by rw [hw9]; exact hr1) (by omega) _ _ hP hD hS ls (lv_sub hl [2, 3, 4, 5, 6, 7, 8, 0] rfl)
                    · skip
                      refine lv_aload_n hx hb dX6_window_85 rfl (lv_at hl 1 rfl) ?_
                      refine va_get (D := X.1) (ci := 6) (v := .ref yr) (C := RX6) (T := TX6) (N := 25) hx hb hts hin6 hown hK hP 0 rfl rfl 6 (by decide) lk16 (fun _ h9 => h9) rfl dX6_window_86 ?_
                      refine lv_iload hx hb dX6_window_89 (lv_at hl 0 rfl) ?_
                      have hi_16 : vp_in (nI ((3300 * 0) + i)) 6600 := vp_in_nI (by omega) (by omega)
                      refine va_iald hx hb hK hP 3 0 rfl rfl hi_16 dX6_window_91 ?_
                      refine lv_topi (fun x_17 ex_17 => ?_)
                      obtain rfl : x_17 = yf ((3300 * 0) + i) := by
                        rw [ex_17]
                        rw [nI_clamp (by omega)]
                      refine lv_topi (fun x_18 ex_18 => ?_)
                      obtain rfl : x_18 = nI (pK P i % 32768) := by
                        rw [ex_18]
                        exact (h0.X i (by omega)).2
                      refine lv_iload hx hb dX6_window_92 (lv_at hl 6 rfl) ?_
                      refine lv_icmp_le (tgt := 100) hx hb dX6_window_94 (by decide) (fun c_94 => ?_) (fun c_94 => ?_)
                      · skip
                        have hcnt : ((P.take i).foldl (wSt x0 y0 x1 y1) ([], 0)).2 < 2 ^ 31 := Nat.lt_of_le_of_lt (w_cnt i hi) (by omega)
                        refine lv_aload_n hx hb dX6_window_100 rfl (lv_at hl 1 rfl) ?_
                        refine lv_iload hx hb dX6_window_101 (lv_at hl 7 rfl) ?_
                        refine lv_aload_n hx hb dX6_window_103 rfl (lv_at hl 1 rfl) ?_
                        refine va_get (D := X.1) (ci := 6) (v := .ref xr) (C := RX6) (T := TX6) (N := 25) hx hb hts hin6 hown hK hP 0 rfl rfl 5 (by decide) lk13 (fun _ h9 => h9) rfl dX6_window_104 ?_
                        refine lv_iload hx hb dX6_window_107 (lv_at hl 0 rfl) ?_
                        have hi_19 : vp_in (nI ((3300 * 0) + i)) 6600 := vp_in_nI (by omega) (by omega)
                        refine va_iald hx hb hK hP 2 0 rfl rfl hi_19 dX6_window_109 ?_
                        refine lv_topi (fun x_20 ex_20 => ?_)
                        obtain rfl : x_20 = xf ((3300 * 0) + i) := by
                          rw [ex_20]
                          rw [nI_clamp (by omega)]
                        refine lv_topi (fun x_21 ex_21 => ?_)
                        obtain rfl : x_21 = nI (pK P i / 32768) := by
                          rw [ex_21]
                          exact (h0.X i (by omega)).1
                        refine lv_aload_n hx hb dX6_window_110 rfl (lv_at hl 1 rfl) ?_
                        refine va_get (D := X.1) (ci := 6) (v := .ref yr) (C := RX6) (T := TX6) (N := 25) hx hb hts hin6 hown hK hP 0 rfl rfl 6 (by decide) lk16 (fun _ h9 => h9) rfl dX6_window_111 ?_
                        refine lv_iload hx hb dX6_window_114 (lv_at hl 0 rfl) ?_
                        have hi_22 : vp_in (nI ((3300 * 0) + i)) 6600 := vp_in_nI (by omega) (by omega)
                        refine va_iald hx hb hK hP 3 0 rfl rfl hi_22 dX6_window_116 ?_
                        refine lv_topi (fun x_23 ex_23 => ?_)
                        obtain rfl : x_23 = yf ((3300 * 0) + i) := by
                          rw [ex_23]
                          rw [nI_clamp (by omega)]
                        refine lv_topi (fun x_24 ex_24 => ?_)
                        obtain rfl : x_24 = nI (pK P i % 32768) := by
                          rw [ex_24]
                          exact (h0.X i (by omega)).2
                        refine lv_aload_n hx hb dX6_window_117 rfl (lv_at hl 1 rfl) ?_
                        refine va_get (D := X.1) (ci := 6) (v := .ref vr) (C := RX6) (T := TX6) (N := 25) hx hb hts hin6 hown hK hP 0 rfl rfl 7 (by decide) lk19 (fun _ h9 => h9) rfl dX6_window_118 ?_
                        refine lv_iload hx hb dX6_window_121 (lv_at hl 0 rfl) ?_
                        have hi_25 : vp_in (nI ((3300 * 0) + i)) 6600 := vp_in_nI (by omega) (by omega)
                        refine va_iald hx hb hK hP 4 0 rfl rfl hi_25 dX6_window_123 ?_
                        refine lv_topi (fun x_26 ex_26 => ?_)
                        obtain rfl : x_26 = vf ((3300 * 0) + i) := by
                          rw [ex_26]
                          rw [nI_clamp (by omega)]
                        refine lv_topi (fun x_27 ex_27 => ?_)
                        obtain rfl : x_27 = nI (pV P i) := by
                          rw [ex_27]
                          exact h0.V i (by omega)
                        refine ckVv (As := [.int (nI (((P.take i).foldl (wSt x0 y0 x1 y1) ([], 0)).2)), .int (nI (pK P i / 32768)), .int (nI (pK P i % 32768)), .int (nI (pV P i))]) (rest := []) 0 [0, 5, 6, 7] (c_X6_tells l X m bl bk b sp mn xr yr vr cr wr nc wl wc rx ry rv fr (nI 0) f_ar f_wt f_lv f_fi f_en f_cd (((P.take i).foldl (wSt x0 y0 x1 y1) ([], 0)).2) (pK P i) (nI (pV P i)) rx1 ry1 rv1 (((P.take i).foldl (wSt x0 y0 x1 y1) ([], 0)).1) hr1 (w_min i hi) hcnt) ⟨hx, hb, hml, hown, hts⟩ (cwV 4 hts gX6_window_X6_tells rfl rfl rfl (by decide +kernel) ⟨Nat.le_of_ble_eq_true rfl, Nat.le_of_ble_eq_true rfl⟩) hK hN hP hD hS (by decide) rfl (ci := 6) rfl rfl (fun _ => rfl) rfl hl.1 rfl (Nat.le_of_ble_eq_true rfl) dX6_window_124 ⟨Nat.zero_le _, Nat.zero_le _⟩ (fun u_28 H locs hra hP hD hS => ?_)
                        obtain ⟨rx2, ry2, rv2⟩ := u_28
                        have hP : va_P X.1 vwCl [(m, .inr (6, [.int (nI bl), .int (nI bk), .int (nI b), .int (nI sp), .ref mn, .ref xr, .ref yr, .ref vr, .ref cr, .ref wr, .int (nI nc), .int (nI 0), .int f_ar, .ref wl, .ref wc, .int f_wt, .int f_lv, .int f_fi, .int f_en, .long f_cd, .ref rx, .ref ry, .ref rv, .ref fr, .int (nI ((rsAdd (((P.take i).foldl (wSt x0 y0 x1 y1) ([], 0)).1) (pK P i) (nI (pV P i))).length))])), (mn, .inl (X.2.1, 2, .inl mf)), (xr, .inl (X.2.1, 6600, .inl xf)), (yr, .inl (X.2.1, 6600, .inl yf)), (vr, .inl (X.2.1, 6600, .inl vf)), (rx, .inl (X.2.1, 150, .inl rx2)), (ry, .inl (X.2.1, 150, .inl ry2)), (rv, .inl (X.2.1, 150, .inl rv2))] H := hP
                        have hD : va_D A_ [(m, .inr (6, [.int (nI bl), .int (nI bk), .int (nI b), .int (nI sp), .ref mn, .ref xr, .ref yr, .ref vr, .ref cr, .ref wr, .int (nI nc), .int (nI 0), .int f_ar, .ref wl, .ref wc, .int f_wt, .int f_lv, .int f_fi, .int f_en, .long f_cd, .ref rx, .ref ry, .ref rv, .ref fr, .int (nI ((rsAdd (((P.take i).foldl (wSt x0 y0 x1 y1) ([], 0)).1) (pK P i) (nI (pV P i))).length))])), (mn, .inl (X.2.1, 2, .inl mf)), (xr, .inl (X.2.1, 6600, .inl xf)), (yr, .inl (X.2.1, 6600, .inl yf)), (vr, .inl (X.2.1, 6600, .inl vf)), (rx, .inl (X.2.1, 150, .inl rx2)), (ry, .inl (X.2.1, 150, .inl ry2)), (rv, .inl (X.2.1, 150, .inl rv2))] := hD
                        try dsimp only at hra
                        refine lv_iload hx hb dX6_window_127 (lv_at hl 7 rfl) ?_
                        refine lv_iconst (v := nI 1) hx hb dX6_window_129 (by decide) ?_
                        refine lv_iadd hx hb dX6_window_130 ?_
                        refine lv_topi (fun x_30 ex_30 => ?_)
                        obtain rfl : x_30 = nI ((((P.take i).foldl (wSt x0 y0 x1 y1) ([], 0)).2) + 1) := by
                          rw [ex_30]
                          exact nI_add _ _
                        refine lv_istore (lv' := [(6, .int (nI ((((P.take i).foldl (wSt x0 y0 x1 y1) ([], 0)).2) + 1))), (8, .int (nI ((3300 * 0) + i))), (0, .ref m), (1, .int (nI 0)), (2, .int x0), (3, .int y0), (4, .int x1), (5, .int y1), (7, .int (nI i))]) hx hb dX6_window_131 hl (by decide) rfl (fun ls hl => ?_)
                        refine lv_iinc (v := nI (i + 1)) (lv' := [(7, .int (nI (i + 1))), (6, .int (nI ((((P.take i).foldl (wSt x0 y0 x1 y1) ([], 0)).2) + 1))), (8, .int (nI ((3300 * 0) + i))), (0, .ref m), (1, .int (nI 0)), (2, .int x0), (3, .int y0), (4, .int x1), (5, .int y1)]) hx hb dX6_window_133 hl (k := 8) rfl (by rw [show Int32.ofInt 1 = nI 1 from by decide]; exact nI_add _ _) (by decide) rfl (fun ls hl => ?_)
                        refine lv_goto (tgt := 30) hx hb dX6_window_136 (by decide) ?_
                        have hw9 := w_in (x0 := x0) (y0 := y0) (x1 := x1) (y1 := y1) (L := P) (i := i) (by omega) ⟨c_59, c_71, c_82, le_nlt c_94⟩
                        have hl : lv_has ls 9 [(7, .int (nI (i + 1))), (6, .int (nI (((P.take (i + 1)).foldl (wSt x0 y0 x1 y1) ([], 0)).2))), (8, .int (nI ((3300 * 0) + i))), (0, .ref m), (1, .int (nI 0)), (2, .int x0), (3, .int y0), (4, .int x1), (5, .int y1)] := by
                          rw [hw9]
                          exact hl
                        have hw8 : rsAdd ((P.take i).foldl (wSt x0 y0 x1 y1) ([], 0)).1 (pK P i) (nI (pV P i)) = ((P.take (i + 1)).foldl (wSt x0 y0 x1 y1) ([], 0)).1 := by rw [hw9]
                        rw [hw8] at hP hD hra
                        exact ih30 (i + 1) rx2 ry2 rv2 (by omega) (by exact hra) (by omega) _ _ hP hD hS ls (lv_sub hl [3, 4, 5, 6, 7, 8, 1, 0] rfl)
                      · skip
                        refine lv_goto (tgt := 133) hx hb dX6_window_97 (by decide) ?_
                        refine lv_iinc (v := nI (i + 1)) (lv' := [(7, .int (nI (i + 1))), (8, .int (nI ((3300 * 0) + i))), (0, .ref m), (1, .int (nI 0)), (2, .int x0), (3, .int y0), (4, .int x1), (5, .int y1), (6, .int (nI (((P.take i).foldl (wSt x0 y0 x1 y1) ([], 0)).2)))]) hx hb dX6_window_133 hl (k := 8) rfl (by rw [show Int32.ofInt 1 = nI 1 from by decide]; exact nI_add _ _) (by decide) rfl (fun ls hl => ?_)
                        refine lv_goto (tgt := 30) hx hb dX6_window_136 (by decide) ?_
                        have hw9 := w_out (x0 := x0) (y0 := y0) (x1 := x1) (y1 := y1) (L := P) (i := i) (by omega) (fun z => by first | exact z.1 c_59 | exact z.2.1 c_71 | exact z.2.2.1 c_82 | exact c_94 (Int32.not_lt.mp z.2.2.2))
                        have hl : lv_has ls 9 [(7, .int (nI (i + 1))), (8, .int (nI ((3300 * 0) + i))), (0, .ref m), (1, .int (nI 0)), (2, .int x0), (3, .int y0), (4, .int x1), (5, .int y1), (6, .int (nI (((P.take (i + 1)).foldl (wSt x0 y0 x1 y1) ([], 0)).2)))] := by
                          rw [hw9]
                          exact hl
                        rw [← hw9] at hP hD
                        exact ih30 (i + 1) rx1 ry1 rv1 (by omega) (by rw [hw9]; exact hr1) (by omega) _ _ hP hD hS ls (lv_sub hl [2, 3, 4, 5, 6, 7, 8, 0] rfl)
          exact loop_30 _ 0 rxf ryf rvf (by omega) (by exact mR_nil) (Nat.lt_succ_self _) _ _ hP hD hS ls (lv_sub hl [2, 3, 4, 5, 6, 7, 1, 0] rfl)
        · exact absurd c_14 (by decide)
      · skip
        exact absurd (Or.inl rfl) hc_11
    · skip
      subst hs
      refine lv_iload_n hx hb dX6_window_10 rfl (lv_at hl 1 rfl) ?_
      refine ckSRi (As := [.int (nI 1)]) (rest := []) [] (c_X6_isState l X (nI 1)) ⟨hx, hb, hml, hown, hts⟩ (va_cwS 1 hts gX6_window_X6_isState rfl rfl rfl (by decide +kernel) ⟨Nat.le_of_ble_eq_true rfl, Nat.le_of_ble_eq_true rfl⟩) hK hN hP hD (by decide) rfl rfl hl.1 rfl (Nat.le_of_ble_eq_true rfl) dX6_window_11 ⟨Nat.zero_le _, Nat.zero_le _⟩ (fun r_31 hc_11 => ?_)
      rcases hc_11 with ⟨hc_11, rfl⟩ | ⟨hc_11, rfl⟩
      · skip
        refine lv_if_ne (tgt := 19) hx hb dX6_window_14 (by decide) (fun c_14 => ?_) (fun c_14 => ?_)
        · skip
          refine lv_aload_n hx hb dX6_window_19 rfl (lv_at hl 0 rfl) ?_
          refine lv_iconst (v := nI 0) hx hb dX6_window_20 (by decide) ?_
          refine va_put (D := X.1) (ci := 6) (v := .int (nI 0)) (ty := .int) (C := RX6) (T := TX6) (N := 25) hx hb hts hin6 tyX6 tyX6_ok nmX6 hown hK hP hD hS 0 rfl rfl 24 (by decide) lk137 (fun _ h9 => h9) rfl (by decide +kernel) rfl rfl (Nat.le_of_ble_eq_true rfl) dX6_window_21 (fun H locs hP hD hS => ?_)
          have hP : va_P X.1 vwCl [(m, .inr (6, [.int (nI bl), .int (nI bk), .int (nI b), .int (nI sp), .ref mn, .ref xr, .ref yr, .ref vr, .ref cr, .ref wr, .int (nI nc), .int (nI 0), .int f_ar, .ref wl, .ref wc, .int f_wt, .int f_lv, .int f_fi, .int f_en, .long f_cd, .ref rx, .ref ry, .ref rv, .ref fr, .int (nI 0)])), (mn, .inl (X.2.1, 2, .inl mf)), (xr, .inl (X.2.1, 6600, .inl xf)), (yr, .inl (X.2.1, 6600, .inl yf)), (vr, .inl (X.2.1, 6600, .inl vf)), (rx, .inl (X.2.1, 150, .inl rxf)), (ry, .inl (X.2.1, 150, .inl ryf)), (rv, .inl (X.2.1, 150, .inl rvf))] H := hP
          have hD : va_D A_ [(m, .inr (6, [.int (nI bl), .int (nI bk), .int (nI b), .int (nI sp), .ref mn, .ref xr, .ref yr, .ref vr, .ref cr, .ref wr, .int (nI nc), .int (nI 0), .int f_ar, .ref wl, .ref wc, .int f_wt, .int f_lv, .int f_fi, .int f_en, .long f_cd, .ref rx, .ref ry, .ref rv, .ref fr, .int (nI 0)])), (mn, .inl (X.2.1, 2, .inl mf)), (xr, .inl (X.2.1, 6600, .inl xf)), (yr, .inl (X.2.1, 6600, .inl yf)), (vr, .inl (X.2.1, 6600, .inl vf)), (rx, .inl (X.2.1, 150, .inl rxf)), (ry, .inl (X.2.1, 150, .inl ryf)), (rv, .inl (X.2.1, 150, .inl rvf))] := hD
          refine lv_iconst (v := nI 0) hx hb dX6_window_24 (by decide) ?_
          refine lv_istore (lv' := [(6, .int (nI 0)), (0, .ref m), (1, .int (nI 1)), (2, .int x0), (3, .int y0), (4, .int x1), (5, .int y1)]) hx hb dX6_window_25 hl (by decide) rfl (fun ls hl => ?_)
          refine lv_iconst (v := nI 0) hx hb dX6_window_27 (by decide) ?_
          refine lv_istore (lv' := [(7, .int (nI 0)), (6, .int (nI 0)), (0, .ref m), (1, .int (nI 1)), (2, .int x0), (3, .int y0), (4, .int x1), (5, .int y1)]) hx hb dX6_window_28 hl (by decide) rfl (fun ls hl => ?_)
          have loop_30 : ∀ (fu : Nat) (i : Nat) (rx1 : Nat → Int32) (ry1 : Nat → Int32) (rv1 : Nat → Int32), (i ≤ Qm.length) → (mR rx1 ry1 rv1 ((Qm.take i).foldl (wSt x0 y0 x1 y1) ([], 0)).1) → Qm.length - i < fu → ∀ (H : Heap) (locs : List Loc), va_P X.1 vwCl [(m, .inr (6, [.int (nI bl), .int (nI bk), .int (nI b), .int (nI sp), .ref mn, .ref xr, .ref yr, .ref vr, .ref cr, .ref wr, .int (nI nc), .int (nI 0), .int f_ar, .ref wl, .ref wc, .int f_wt, .int f_lv, .int f_fi, .int f_en, .long f_cd, .ref rx, .ref ry, .ref rv, .ref fr, .int (nI (((Qm.take i).foldl (wSt x0 y0 x1 y1) ([], 0)).1.length))])), (mn, .inl (X.2.1, 2, .inl mf)), (xr, .inl (X.2.1, 6600, .inl xf)), (yr, .inl (X.2.1, 6600, .inl yf)), (vr, .inl (X.2.1, 6600, .inl vf)), (rx, .inl (X.2.1, 150, .inl rx1)), (ry, .inl (X.2.1, 150, .inl ry1)), (rv, .inl (X.2.1, 150, .inl rv1))] H → va_D A_ [(m, .inr (6, [.int (nI bl), .int (nI bk), .int (nI b), .int (nI sp), .ref mn, .ref xr, .ref yr, .ref vr, .ref cr, .ref wr, .int (nI nc), .int (nI 0), .int f_ar, .ref wl, .ref wc, .int f_wt, .int f_lv, .int f_fi, .int f_en, .long f_cd, .ref rx, .ref ry, .ref rv, .ref fr, .int (nI (((Qm.take i).foldl (wSt x0 y0 x1 y1) ([], 0)).1.length))])), (mn, .inl (X.2.1, 2, .inl mf)), (xr, .inl (X.2.1, 6600, .inl xf)), (yr, .inl (X.2.1, 6600, .inl yf)), (vr, .inl (X.2.1, 6600, .inl vf)), (rx, .inl (X.2.1, 150, .inl rx1)), (ry, .inl (X.2.1, 150, .inl ry1)), (rv, .inl (X.2.1, 150, .inl rv1))] → va_S A_ sz.heap H locs → ∀ (ls : Array Slot), lv_has ls 9 [(0, .ref m), (1, .int (nI 1)), (2, .int x0), (3, .int y0), (4, .int x1), (5, .int y1), (6, .int (nI (((Qm.take i).foldl (wSt x0 y0 x1 y1) ([], 0)).2))), (7, .int (nI i))] → W pz l ez (headSpec wsX6_window (rmk 1)).room sz mz ([.ref m, .int (nI 1), .int x0, .int y0, .int x1, .int y1].toArray) below meth cz H locs 0 0 Q (F0 mz 30 ls []) := by
            intro fu
            induction fu with
            | zero => intro i rx1 ry1 rv1 hi hr1 hfu; exact absurd hfu (Nat.not_lt_zero _)
            | succ fu ih30 =>
              intro i rx1 ry1 rv1 hi hr1 hfu H locs hP hD hS ls hl
              refine lv_iload hx hb dX6_window_30 (lv_at hl 7 rfl) ?_
              refine lv_aload_n hx hb dX6_window_32 rfl (lv_at hl 0 rfl) ?_
              refine va_get (D := X.1) (ci := 6) (v := .ref mn) (C := RX6) (T := TX6) (N := 25) hx hb hts hin6 hown hK hP 0 rfl rfl 4 (by decide) lk7 (fun _ h9 => h9) rfl dX6_window_33 ?_
              refine lv_iload_n hx hb dX6_window_36 rfl (lv_at hl 1 rfl) ?_
              have hi_32 : vp_in (nI 1) 2 := vp_in_nI (by omega) (by omega)
              refine va_iald hx hb hK hP 1 0 rfl rfl hi_32 dX6_window_37 ?_
              refine lv_topi (fun x_33 ex_33 => ?_)
              obtain rfl : x_33 = mf 1 := by
                rw [ex_33]
                rw [nI_clamp (by omega)]
              refine lv_topi (fun x_34 ex_34 => ?_)
              obtain rfl : x_34 = nI Qm.length := by
                rw [ex_34]
                exact h1.m
              refine lv_icmp_ge (tgt := 139) hx hb dX6_window_38 (by decide) (fun c_38 => ?_) (fun c_38 => ?_)
              · replace c_38 : Qm.length ≤ i := (nI_leI (by omega) (by omega)).mp c_38
                refine lv_iload hx hb dX6_window_139 (lv_at hl 6 rfl) ?_
                refine wM hQ ?_
                exact rtI (rx1, ry1, rv1, ((Qm.take i).foldl (wSt x0 y0 x1 y1) ([], 0)).1) hx hb hr hlocks hP hS (⟨hr1, by show (nI ((Qm.take i).foldl (wSt x0 y0 x1 y1) ([], 0)).2, ((Qm.take i).foldl (wSt x0 y0 x1 y1) ([], 0)).1) = _; rw [sel_1 rfl]; show _ = (nI (wAll x0 y0 x1 y1 Qm).2, (wAll x0 y0 x1 y1 Qm).1); rw [show i = Qm.length from by omega, wAll_full]⟩) dX6_window_141
              · replace c_38 : ¬ Qm.length ≤ i := fun h9 => c_38 ((nI_leI (by omega) (by omega)).mpr h9)
                refine lv_sipush (v := nI 3300) hx hb dX6_window_41 (by decide) ?_
                refine lv_iload_n hx hb dX6_window_44 rfl (lv_at hl 1 rfl) ?_
                refine lv_imul hx hb dX6_window_45 ?_
                refine lv_topi (fun x_35 ex_35 => ?_)
                obtain rfl : x_35 = nI (3300 * 1) := by
                  rw [ex_35]
                  exact pk_mul _ _
                refine lv_iload hx hb dX6_window_46 (lv_at hl 7 rfl) ?_
                refine lv_iadd hx hb dX6_window_48 ?_
                refine lv_topi (fun x_36 ex_36 => ?_)
                obtain rfl : x_36 = nI ((3300 * 1) + i) := by
                  rw [ex_36]
                  exact nI_add _ _
                refine lv_istore (lv' := [(8, .int (nI ((3300 * 1) + i))), (0, .ref m), (1, .int (nI 1)), (2, .int x0), (3, .int y0), (4, .int x1), (5, .int y1), (6, .int (nI (((Qm.take i).foldl (wSt x0 y0 x1 y1) ([], 0)).2))), (7, .int (nI i))]) hx hb dX6_window_49 hl (by decide) rfl (fun ls hl => ?_)
                refine lv_aload_n hx hb dX6_window_51 rfl (lv_at hl 1 rfl) ?_
                refine va_get (D := X.1) (ci := 6) (v := .ref xr) (C := RX6) (T := TX6) (N := 25) hx hb hts hin6 hown hK hP 0 rfl rfl 5 (by decide) lk13 (fun _ h9 => h9) rfl dX6_window_52 ?_
                refine lv_iload hx hb dX6_window_55 (lv_at hl 0 rfl) ?_
                have hi_37 : vp_in (nI ((3300 * 1) + i)) 6600 := vp_in_nI (by omega) (by omega)
                refine va_iald hx hb hK hP 2 0 rfl rfl hi_37 dX6_window_57 ?_
                refine lv_topi (fun x_38 ex_38 => ?_)
                obtain rfl : x_38 = xf ((3300 * 1) + i) := by
                  rw [ex_38]
                  rw [nI_clamp (by omega)]
                refine lv_topi (fun x_39 ex_39 => ?_)
                obtain rfl : x_39 = nI (pK Qm i / 32768) := by
                  rw [ex_39]
                  exact (h1.X i (by omega)).1
                refine lv_iload_n hx hb dX6_window_58 rfl (lv_at hl 3 rfl) ?_
                refine lv_icmp_lt (tgt := 133) hx hb dX6_window_59 (by decide) (fun c_59 => ?_) (fun c_59 => ?_)
                · skip
                  refine lv_iinc (v := nI (i + 1)) (lv' := [(7, .int (nI (i + 1))), (8, .int (nI ((3300 * 1) + i))), (0, .ref m), (1, .int (nI 1)), (2, .int x0), (3, .int y0), (4, .int x1), (5, .int y1), (6, .int (nI (((Qm.take i).foldl (wSt x0 y0 x1 y1) ([], 0)).2)))]) hx hb dX6_window_133 hl (k := 8) rfl (by rw [show Int32.ofInt 1 = nI 1 from by decide]; exact nI_add _ _) (by decide) rfl (fun ls hl => ?_)
                  refine lv_goto (tgt := 30) hx hb dX6_window_136 (by decide) ?_
                  have hw9 := w_out (x0 := x0) (y0 := y0) (x1 := x1) (y1 := y1) (L := Qm) (i := i) (by omega) (fun z => by first | exact z.1 c_59 | exact z.2.1 c_71 | exact z.2.2.1 c_82 | exact c_94 (Int32.not_lt.mp z.2.2.2))
                  have hl : lv_has ls 9 [(7, .int (nI (i + 1))), (8, .int (nI ((3300 * 1) + i))), (0, .ref m), (1, .int (nI 1)), (2, .int x0), (3, .int y0), (4, .int x1), (5, .int y1), (6, .int (nI (((Qm.take (i + 1)).foldl (wSt x0 y0 x1 y1) ([], 0)).2)))] := by
                    rw [hw9]
                    exact hl
                  rw [← hw9] at hP hD
                  exact ih30 (i + 1) rx1 ry1 rv1 (by omega) (by rw [hw9]; exact hr1) (by omega) _ _ hP hD hS ls (lv_sub hl [2, 3, 4, 5, 6, 7, 8, 0] rfl)
                · skip
                  refine lv_aload_n hx hb dX6_window_62 rfl (lv_at hl 1 rfl) ?_
                  refine va_get (D := X.1) (ci := 6) (v := .ref xr) (C := RX6) (T := TX6) (N := 25) hx hb hts hin6 hown hK hP 0 rfl rfl 5 (by decide) lk13 (fun _ h9 => h9) rfl dX6_window_63 ?_
                  refine lv_iload hx hb dX6_window_66 (lv_at hl 0 rfl) ?_
                  have hi_40 : vp_in (nI ((3300 * 1) + i)) 6600 := vp_in_nI (by omega) (by omega)
                  refine va_iald hx hb hK hP 2 0 rfl rfl hi_40 dX6_window_68 ?_
                  refine lv_topi (fun x_41 ex_41 => ?_)
                  obtain rfl : x_41 = xf ((3300 * 1) + i) := by
                    rw [ex_41]
                    rw [nI_clamp (by omega)]
                  refine lv_topi (fun x_42 ex_42 => ?_)
                  obtain rfl : x_42 = nI (pK Qm i / 32768) := by
                    rw [ex_42]
                    exact (h1.X i (by omega)).1
                  refine lv_iload hx hb dX6_window_69 (lv_at hl 5 rfl) ?_
                  refine lv_icmp_gt (tgt := 133) hx hb dX6_window_71 (by decide) (fun c_71 => ?_) (fun c_71 => ?_)
                  · skip
                    refine lv_iinc (v := nI (i + 1)) (lv' := [(7, .int (nI (i + 1))), (8, .int (nI ((3300 * 1) + i))), (0, .ref m), (1, .int (nI 1)), (2, .int x0), (3, .int y0), (4, .int x1), (5, .int y1), (6, .int (nI (((Qm.take i).foldl (wSt x0 y0 x1 y1) ([], 0)).2)))]) hx hb dX6_window_133 hl (k := 8) rfl (by rw [show Int32.ofInt 1 = nI 1 from by decide]; exact nI_add _ _) (by decide) rfl (fun ls hl => ?_)
                    refine lv_goto (tgt := 30) hx hb dX6_window_136 (by decide) ?_
                    have hw9 := w_out (x0 := x0) (y0 := y0) (x1 := x1) (y1 := y1) (L := Qm) (i := i) (by omega) (fun z => by first | exact z.1 c_59 | exact z.2.1 c_71 | exact z.2.2.1 c_82 | exact c_94 (Int32.not_lt.mp z.2.2.2))
                    have hl : lv_has ls 9 [(7, .int (nI (i + 1))), (8, .int (nI ((3300 * 1) + i))), (0, .ref m), (1, .int (nI 1)), (2, .int x0), (3, .int y0), (4, .int x1), (5, .int y1), (6, .int (nI (((Qm.take (i + 1)).foldl (wSt x0 y0 x1 y1) ([], 0)).2)))] := by
                      rw [hw9]
                      exact hl
                    rw [← hw9] at hP hD
                    exact ih30 (i + 1) rx1 ry1 rv1 (by omega) (by rw [hw9]; exact hr1) (by omega) _ _ hP hD hS ls (lv_sub hl [2, 3, 4, 5, 6, 7, 8, 0] rfl)
                  · skip
                    refine lv_aload_n hx hb dX6_window_74 rfl (lv_at hl 1 rfl) ?_
                    refine va_get (D := X.1) (ci := 6) (v := .ref yr) (C := RX6) (T := TX6) (N := 25) hx hb hts hin6 hown hK hP 0 rfl rfl 6 (by decide) lk16 (fun _ h9 => h9) rfl dX6_window_75 ?_
                    refine lv_iload hx hb dX6_window_78 (lv_at hl 0 rfl) ?_
                    have hi_43 : vp_in (nI ((3300 * 1) + i)) 6600 := vp_in_nI (by omega) (by omega)
                    refine va_iald hx hb hK hP 3 0 rfl rfl hi_43 dX6_window_80 ?_
                    refine lv_topi (fun x_44 ex_44 => ?_)
                    obtain rfl : x_44 = yf ((3300 * 1) + i) := by
                      rw [ex_44]
                      rw [nI_clamp (by omega)]
                    refine lv_topi (fun x_45 ex_45 => ?_)
                    obtain rfl : x_45 = nI (pK Qm i % 32768) := by
                      rw [ex_45]
                      exact (h1.X i (by omega)).2
                    refine lv_iload_n hx hb dX6_window_81 rfl (lv_at hl 4 rfl) ?_
                    refine lv_icmp_lt (tgt := 133) hx hb dX6_window_82 (by decide) (fun c_82 => ?_) (fun c_82 => ?_)
                    · skip
                      refine lv_iinc (v := nI (i + 1)) (lv' := [(7, .int (nI (i + 1))), (8, .int (nI ((3300 * 1) + i))), (0, .ref m), (1, .int (nI 1)), (2, .int x0), (3, .int y0), (4, .int x1), (5, .int y1), (6, .int (nI (((Qm.take i).foldl (wSt x0 y0 x1 y1) ([], 0)).2)))]) hx hb dX6_window_133 hl (k := 8) rfl (by rw [show Int32.ofInt 1 = nI 1 from by decide]; exact nI_add _ _) (by decide) rfl (fun ls hl => ?_)
                      refine lv_goto (tgt := 30) hx hb dX6_window_136 (by decide) ?_
                      have hw9 := w_out (x0 := x0) (y0 := y0) (x1 := x1) (y1 := y1) (L := Qm) (i := i) (by omega) (fun z => by first | exact z.1 c_59 | exact z.2.1 c_71 | exact z.2.2.1 c_82 | exact c_94 (Int32.not_lt.mp z.2.2.2))
                      have hl : lv_has ls 9 [(7, .int (nI (i + 1))), (8, .int (nI ((3300 * 1) + i))), (0, .ref m), (1, .int (nI 1)), (2, .int x0), (3, .int y0), (4, .int x1), (5, .int y1), (6, .int (nI (((Qm.take (i + 1)).foldl (wSt x0 y0 x1 y1) ([], 0)).2)))] := by
                        rw [hw9]
                        exact hl
                      rw [← hw9] at hP hD
                      exact ih30 (i + 1) rx1 ry1 rv1 (by omega) (by rw [hw9]; exact hr1) (by omega) _ _ hP hD hS ls (lv_sub hl [2, 3, 4, 5, 6, 7, 8, 0] rfl)
                    · skip
                      refine lv_aload_n hx hb dX6_window_85 rfl (lv_at hl 1 rfl) ?_
                      refine va_get (D := X.1) (ci := 6) (v := .ref yr) (C := RX6) (T := TX6) (N := 25) hx hb hts hin6 hown hK hP 0 rfl rfl 6 (by decide) lk16 (fun _ h9 => h9) rfl dX6_window_86 ?_
                      refine lv_iload hx hb dX6_window_89 (lv_at hl 0 rfl) ?_
                      have hi_46 : vp_in (nI ((3300 * 1) + i)) 6600 := vp_in_nI (by omega) (by omega)
                      refine va_iald hx hb hK hP 3 0 rfl rfl hi_46 dX6_window_91 ?_
                      refine lv_topi (fun x_47 ex_47 => ?_)
                      obtain rfl : x_47 = yf ((3300 * 1) + i) := by
                        rw [ex_47]
                        rw [nI_clamp (by omega)]
                      refine lv_topi (fun x_48 ex_48 => ?_)
                      obtain rfl : x_48 = nI (pK Qm i % 32768) := by
                        rw [ex_48]
                        exact (h1.X i (by omega)).2
                      refine lv_iload hx hb dX6_window_92 (lv_at hl 6 rfl) ?_
                      refine lv_icmp_le (tgt := 100) hx hb dX6_window_94 (by decide) (fun c_94 => ?_) (fun c_94 => ?_)
                      · skip
                        have hcnt : ((Qm.take i).foldl (wSt x0 y0 x1 y1) ([], 0)).2 < 2 ^ 31 := Nat.lt_of_le_of_lt (w_cnt i hi) (by omega)
                        refine lv_aload_n hx hb dX6_window_100 rfl (lv_at hl 1 rfl) ?_
                        refine lv_iload hx hb dX6_window_101 (lv_at hl 7 rfl) ?_
                        refine lv_aload_n hx hb dX6_window_103 rfl (lv_at hl 1 rfl) ?_
                        refine va_get (D := X.1) (ci := 6) (v := .ref xr) (C := RX6) (T := TX6) (N := 25) hx hb hts hin6 hown hK hP 0 rfl rfl 5 (by decide) lk13 (fun _ h9 => h9) rfl dX6_window_104 ?_
                        refine lv_iload hx hb dX6_window_107 (lv_at hl 0 rfl) ?_
                        have hi_49 : vp_in (nI ((3300 * 1) + i)) 6600 := vp_in_nI (by omega) (by omega)
                        refine va_iald hx hb hK hP 2 0 rfl rfl hi_49 dX6_window_109 ?_
                        refine lv_topi (fun x_50 ex_50 => ?_)
                        obtain rfl : x_50 = xf ((3300 * 1) + i) := by
                          rw [ex_50]
                          rw [nI_clamp (by omega)]
                        refine lv_topi (fun x_51 ex_51 => ?_)
                        obtain rfl : x_51 = nI (pK Qm i / 32768) := by
                          rw [ex_51]
                          exact (h1.X i (by omega)).1
                        refine lv_aload_n hx hb dX6_window_110 rfl (lv_at hl 1 rfl) ?_
                        refine va_get (D := X.1) (ci := 6) (v := .ref yr) (C := RX6) (T := TX6) (N := 25) hx hb hts hin6 hown hK hP 0 rfl rfl 6 (by decide) lk16 (fun _ h9 => h9) rfl dX6_window_111 ?_
                        refine lv_iload hx hb dX6_window_114 (lv_at hl 0 rfl) ?_
                        have hi_52 : vp_in (nI ((3300 * 1) + i)) 6600 := vp_in_nI (by omega) (by omega)
                        refine va_iald hx hb hK hP 3 0 rfl rfl hi_52 dX6_window_116 ?_
                        refine lv_topi (fun x_53 ex_53 => ?_)
                        obtain rfl : x_53 = yf ((3300 * 1) + i) := by
                          rw [ex_53]
                          rw [nI_clamp (by omega)]
                        refine lv_topi (fun x_54 ex_54 => ?_)
                        obtain rfl : x_54 = nI (pK Qm i % 32768) := by
                          rw [ex_54]
                          exact (h1.X i (by omega)).2
                        refine lv_aload_n hx hb dX6_window_117 rfl (lv_at hl 1 rfl) ?_
                        refine va_get (D := X.1) (ci := 6) (v := .ref vr) (C := RX6) (T := TX6) (N := 25) hx hb hts hin6 hown hK hP 0 rfl rfl 7 (by decide) lk19 (fun _ h9 => h9) rfl dX6_window_118 ?_
                        refine lv_iload hx hb dX6_window_121 (lv_at hl 0 rfl) ?_
                        have hi_55 : vp_in (nI ((3300 * 1) + i)) 6600 := vp_in_nI (by omega) (by omega)
                        refine va_iald hx hb hK hP 4 0 rfl rfl hi_55 dX6_window_123 ?_
                        refine lv_topi (fun x_56 ex_56 => ?_)
                        obtain rfl : x_56 = vf ((3300 * 1) + i) := by
                          rw [ex_56]
                          rw [nI_clamp (by omega)]
                        refine lv_topi (fun x_57 ex_57 => ?_)
                        obtain rfl : x_57 = nI (pV Qm i) := by
                          rw [ex_57]
                          exact h1.V i (by omega)
                        refine ckVv (As := [.int (nI (((Qm.take i).foldl (wSt x0 y0 x1 y1) ([], 0)).2)), .int (nI (pK Qm i / 32768)), .int (nI (pK Qm i % 32768)), .int (nI (pV Qm i))]) (rest := []) 0 [0, 5, 6, 7] (c_X6_tells l X m bl bk b sp mn xr yr vr cr wr nc wl wc rx ry rv fr (nI 0) f_ar f_wt f_lv f_fi f_en f_cd (((Qm.take i).foldl (wSt x0 y0 x1 y1) ([], 0)).2) (pK Qm i) (nI (pV Qm i)) rx1 ry1 rv1 (((Qm.take i).foldl (wSt x0 y0 x1 y1) ([], 0)).1) hr1 (w_min i hi) hcnt) ⟨hx, hb, hml, hown, hts⟩ (cwV 4 hts gX6_window_X6_tells rfl rfl rfl (by decide +kernel) ⟨Nat.le_of_ble_eq_true rfl, Nat.le_of_ble_eq_true rfl⟩) hK hN hP hD hS (by decide) rfl (ci := 6) rfl rfl (fun _ => rfl) rfl hl.1 rfl (Nat.le_of_ble_eq_true rfl) dX6_window_124 ⟨Nat.zero_le _, Nat.zero_le _⟩ (fun u_58 H locs hra hP hD hS => ?_)
                        obtain ⟨rx2, ry2, rv2⟩ := u_58
                        have hP : va_P X.1 vwCl [(m, .inr (6, [.int (nI bl), .int (nI bk), .int (nI b), .int (nI sp), .ref mn, .ref xr, .ref yr, .ref vr, .ref cr, .ref wr, .int (nI nc), .int (nI 0), .int f_ar, .ref wl, .ref wc, .int f_wt, .int f_lv, .int f_fi, .int f_en, .long f_cd, .ref rx, .ref ry, .ref rv, .ref fr, .int (nI ((rsAdd (((Qm.take i).foldl (wSt x0 y0 x1 y1) ([], 0)).1) (pK Qm i) (nI (pV Qm i))).length))])), (mn, .inl (X.2.1, 2, .inl mf)), (xr, .inl (X.2.1, 6600, .inl xf)), (yr, .inl (X.2.1, 6600, .inl yf)), (vr, .inl (X.2.1, 6600, .inl vf)), (rx, .inl (X.2.1, 150, .inl rx2)), (ry, .inl (X.2.1, 150, .inl ry2)), (rv, .inl (X.2.1, 150, .inl rv2))] H := hP
                        have hD : va_D A_ [(m, .inr (6, [.int (nI bl), .int (nI bk), .int (nI b), .int (nI sp), .ref mn, .ref xr, .ref yr, .ref vr, .ref cr, .ref wr, .int (nI nc), .int (nI 0), .int f_ar, .ref wl, .ref wc, .int f_wt, .int f_lv, .int f_fi, .int f_en, .long f_cd, .ref rx, .ref ry, .ref rv, .ref fr, .int (nI ((rsAdd (((Qm.take i).foldl (wSt x0 y0 x1 y1) ([], 0)).1) (pK Qm i) (nI (pV Qm i))).length))])), (mn, .inl (X.2.1, 2, .inl mf)), (xr, .inl (X.2.1, 6600, .inl xf)), (yr, .inl (X.2.1, 6600, .inl yf)), (vr, .inl (X.2.1, 6600, .inl vf)), (rx, .inl (X.2.1, 150, .inl rx2)), (ry, .inl (X.2.1, 150, .inl ry2)), (rv, .inl (X.2.1, 150, .inl rv2))] := hD
                        try dsimp only at hra
                        refine lv_iload hx hb dX6_window_127 (lv_at hl 7 rfl) ?_
                        refine lv_iconst (v := nI 1) hx hb dX6_window_129 (by decide) ?_
                        refine lv_iadd hx hb dX6_window_130 ?_
                        refine lv_topi (fun x_60 ex_60 => ?_)
                        obtain rfl : x_60 = nI ((((Qm.take i).foldl (wSt x0 y0 x1 y1) ([], 0)).2) + 1) := by
                          rw [ex_60]
                          exact nI_add _ _
                        refine lv_istore (lv' := [(6, .int (nI ((((Qm.take i).foldl (wSt x0 y0 x1 y1) ([], 0)).2) + 1))), (8, .int (nI ((3300 * 1) + i))), (0, .ref m), (1, .int (nI 1)), (2, .int x0), (3, .int y0), (4, .int x1), (5, .int y1), (7, .int (nI i))]) hx hb dX6_window_131 hl (by decide) rfl (fun ls hl => ?_)
                        refine lv_iinc (v := nI (i + 1)) (lv' := [(7, .int (nI (i + 1))), (6, .int (nI ((((Qm.take i).foldl (wSt x0 y0 x1 y1) ([], 0)).2) + 1))), (8, .int (nI ((3300 * 1) + i))), (0, .ref m), (1, .int (nI 1)), (2, .int x0), (3, .int y0), (4, .int x1), (5, .int y1)]) hx hb dX6_window_133 hl (k := 8) rfl (by rw [show Int32.ofInt 1 = nI 1 from by decide]; exact nI_add _ _) (by decide) rfl (fun ls hl => ?_)
                        refine lv_goto (tgt := 30) hx hb dX6_window_136 (by decide) ?_
                        have hw9 := w_in (x0 := x0) (y0 := y0) (x1 := x1) (y1 := y1) (L := Qm) (i := i) (by omega) ⟨c_59, c_71, c_82, le_nlt c_94⟩
                        have hl : lv_has ls 9 [(7, .int (nI (i + 1))), (6, .int (nI (((Qm.take (i + 1)).foldl (wSt x0 y0 x1 y1) ([], 0)).2))), (8, .int (nI ((3300 * 1) + i))), (0, .ref m), (1, .int (nI 1)), (2, .int x0), (3, .int y0), (4, .int x1), (5, .int y1)] := by
                          rw [hw9]
                          exact hl
                        have hw8 : rsAdd ((Qm.take i).foldl (wSt x0 y0 x1 y1) ([], 0)).1 (pK Qm i) (nI (pV Qm i)) = ((Qm.take (i + 1)).foldl (wSt x0 y0 x1 y1) ([], 0)).1 := by rw [hw9]
                        rw [hw8] at hP hD hra
                        exact ih30 (i + 1) rx2 ry2 rv2 (by omega) (by exact hra) (by omega) _ _ hP hD hS ls (lv_sub hl [3, 4, 5, 6, 7, 8, 1, 0] rfl)
                      · skip
                        refine lv_goto (tgt := 133) hx hb dX6_window_97 (by decide) ?_
                        refine lv_iinc (v := nI (i + 1)) (lv' := [(7, .int (nI (i + 1))), (8, .int (nI ((3300 * 1) + i))), (0, .ref m), (1, .int (nI 1)), (2, .int x0), (3, .int y0), (4, .int x1), (5, .int y1), (6, .int (nI (((Qm.take i).foldl (wSt x0 y0 x1 y1) ([], 0)).2)))]) hx hb dX6_window_133 hl (k := 8) rfl (by rw [show Int32.ofInt 1 = nI 1 from by decide]; exact nI_add _ _) (by decide) rfl (fun ls hl => ?_)
                        refine lv_goto (tgt := 30) hx hb dX6_window_136 (by decide) ?_
                        have hw9 := w_out (x0 := x0) (y0 := y0) (x1 := x1) (y1 := y1) (L := Qm) (i := i) (by omega) (fun z => by first | exact z.1 c_59 | exact z.2.1 c_71 | exact z.2.2.1 c_82 | exact c_94 (Int32.not_lt.mp z.2.2.2))
                        have hl : lv_has ls 9 [(7, .int (nI (i + 1))), (8, .int (nI ((3300 * 1) + i))), (0, .ref m), (1, .int (nI 1)), (2, .int x0), (3, .int y0), (4, .int x1), (5, .int y1), (6, .int (nI (((Qm.take (i + 1)).foldl (wSt x0 y0 x1 y1) ([], 0)).2)))] := by
                          rw [hw9]
                          exact hl
                        rw [← hw9] at hP hD
                        exact ih30 (i + 1) rx1 ry1 rv1 (by omega) (by rw [hw9]; exact hr1) (by omega) _ _ hP hD hS ls (lv_sub hl [2, 3, 4, 5, 6, 7, 8, 0] rfl)
          exact loop_30 _ 0 rxf ryf rvf (by omega) (by exact mR_nil) (Nat.lt_succ_self _) _ _ hP hD hS ls (lv_sub hl [2, 3, 4, 5, 6, 7, 1, 0] rfl)
        · exact absurd c_14 (by decide)
      · skip
        exact absurd (Or.inr rfl) hc_11
    · skip
      skip
      refine lv_iload_n hx hb dX6_window_10 rfl (lv_at hl 1 rfl) ?_
      refine ckSRi (As := [.int s_]) (rest := []) [] (c_X6_isState l X s_) ⟨hx, hb, hml, hown, hts⟩ (va_cwS 1 hts gX6_window_X6_isState rfl rfl rfl (by decide +kernel) ⟨Nat.le_of_ble_eq_true rfl, Nat.le_of_ble_eq_true rfl⟩) hK hN hP hD (by decide) rfl rfl hl.1 rfl (Nat.le_of_ble_eq_true rfl) dX6_window_11 ⟨Nat.zero_le _, Nat.zero_le _⟩ (fun r_61 hc_11 => ?_)
      rcases hc_11 with ⟨hc_11, rfl⟩ | ⟨hc_11, rfl⟩
      · skip
        exact absurd hc_11 (fun z => z.elim hs.1 hs.2)
      · skip
        refine lv_if_ne (tgt := 19) hx hb dX6_window_14 (by decide) (fun c_14 => ?_) (fun c_14 => ?_)
        · exact absurd c_14 (by decide)
        · skip
          refine lv_iconst (v := (-1)) hx hb dX6_window_17 (by decide) ?_
          refine wM hQ ?_
          exact rtI (rxf, ryf, rvf, R) hx hb hr hlocks hP hS (⟨h3, by show (-1, R) = _; rw [sel_n hs.1 hs.2]; rfl⟩) dX6_window_18
  · exact absurd c_4 (by decide)
set_option maxHeartbeats 4000000 in
set_option maxRecDepth 100000 in
theorem c_X6_sum (l : Launch) (X : kX) (m bl bk b sp mn xr yr vr cr wr nc wl wc rx ry rv fr : Nat) (f_ar f_wt f_lv f_fi f_en f_rs : Int32) (f_cd : Int64) (s_ x0 y0 x1 y1 : Int32) (mf xf yf vf wf : Nat → Int32) (cf : Nat → Int64) (P ZP Qm ZQm : PL) (h0 : mSt b mf xf yf vf wf cf 0 P ZP) (h1 : mSt b mf xf yf vf wf cf 1 Qm ZQm) : CRl l X yX6_sum wsX6_sum 1 [.ref m, .int s_, .int x0, .int y0, .int x1, .int y1] [(m, .inr (6, [.int (nI bl), .int (nI bk), .int (nI b), .int (nI sp), .ref mn, .ref xr, .ref yr, .ref vr, .ref cr, .ref wr, .int (nI nc), .int (nI 0), .int f_ar, .ref wl, .ref wc, .int f_wt, .int f_lv, .int f_fi, .int f_en, .long f_cd, .ref rx, .ref ry, .ref rv, .ref fr, .int f_rs])), (mn, .inl (X.2.1, 2, .inl mf)), (xr, .inl (X.2.1, 6600, .inl xf)), (yr, .inl (X.2.1, 6600, .inl yf)), (vr, .inl (X.2.1, 6600, .inl vf))] (fun r => r = sumV (sel s_ P Qm) x0 y0 x1 y1) := by
  refine Met.ofW (cc := cX6_sum) (maxL := 10) (ret := some (.long)) (by decide) rfl ?_
  intro pz ez sz mz args below meth cz s₁ Bz hml hv
  obtain ⟨rfl, hP, hK, hD0, hN⟩ := hv
  have hx := Bz.exec
  have hb := Bz.bytes
  have hr := Bz.returns
  have hts := atoms_spec (ws := wsX6_sum) Bz.pre
  have hown : sz.vm.findClass RX6 = some mz.cls := findClass_of_methodNamed Bz.named
  have hlocks := Bz.notSynchronized
  have hD := inW.self hD0
  have hS : va_S (inW [(m, .inr (6, [.int (nI bl), .int (nI bk), .int (nI b), .int (nI sp), .ref mn, .ref xr, .ref yr, .ref vr, .ref cr, .ref wr, .int (nI nc), .int (nI 0), .int f_ar, .ref wl, .ref wc, .int f_wt, .int f_lv, .int f_fi, .int f_en, .long f_cd, .ref rx, .ref ry, .ref rv, .ref fr, .int f_rs])), (mn, .inl (X.2.1, 2, .inl mf)), (xr, .inl (X.2.1, 6600, .inl xf)), (yr, .inl (X.2.1, 6600, .inl yf)), (vr, .inl (X.2.1, 6600, .inl vf))]) sz.heap sz.heap [] := va_S.rf
  have hl := lv_entry ([.ref m, .int s_, .int x0, .int y0, .int x1, .int y1]) (n := 10) (Nat.le_of_ble_eq_true rfl)
  rw [lg_entry_eq]
  generalize (lg_sl ([.ref m, .int s_, .int x0, .int y0, .int x1, .int y1]) ++ List.replicate (10 - (lg_sl ([.ref m, .int s_, .int x0, .int y0, .int x1, .int y1])).length) Slot.unset).toArray = ls at hl ⊢
  have hl : lv_has ls 10 [(0, .ref m), (1, .int s_), (2, .int x0), (3, .int y0), (4, .int x1), (5, .int y1)] := hl
  have lk7 := hts (.fieldLink RX6 7 "PointStoreModel" "many" "[I") (by decide +kernel)
  have lk13 := hts (.fieldLink RX6 13 "PointStoreModel" "xs" "[I") (by decide +kernel)
  have lk16 := hts (.fieldLink RX6 16 "PointStoreModel" "ys" "[I") (by decide +kernel)
  have lk19 := hts (.fieldLink RX6 19 "PointStoreModel" "values" "[I") (by decide +kernel)
  have lk105 := hts (.fieldLink RX6 105 "PointStoreModel" "isOff" "Z") (by decide +kernel)
  have hin6 : ∀ w ∈ u_ws RX6 TX6 25, w ∈ wsX6_sum := by decide +kernel
  refine wQ (fun Q hQ => ?_)
  generalize hAe : inW [(m, .inr (6, [.int (nI bl), .int (nI bk), .int (nI b), .int (nI sp), .ref mn, .ref xr, .ref yr, .ref vr, .ref cr, .ref wr, .int (nI nc), .int (nI 0), .int f_ar, .ref wl, .ref wc, .int f_wt, .int f_lv, .int f_fi, .int f_en, .long f_cd, .ref rx, .ref ry, .ref rv, .ref fr, .int f_rs])), (mn, .inl (X.2.1, 2, .inl mf)), (xr, .inl (X.2.1, 6600, .inl xf)), (yr, .inl (X.2.1, 6600, .inl yf)), (vr, .inl (X.2.1, 6600, .inl vf))] = A_ at hD hS
  have hp1 := h0.L.1
  have hp2 := h1.L.1
  refine lv_aload_n hx hb dX6_sum_0 rfl (lv_at hl 0 rfl) ?_
  refine va_get (D := X.1) (ci := 6) (v := .int (nI 0)) (C := RX6) (T := TX6) (N := 25) hx hb hts hin6 hown hK hP 0 rfl rfl 11 (by decide) lk105 (fun _ h9 => h9) rfl dX6_sum_1 ?_
  refine lv_if_eq (tgt := 11) hx hb dX6_sum_4 (by decide) (fun c_4 => ?_) (fun c_4 => ?_)
  · skip
    refine lv_lconst (v := lN 0) hx hb dX6_sum_11 (by decide) ?_
    refine lv_lstore (lv' := [(6, .long (lN 0)), (0, .ref m), (1, .int s_), (2, .int x0), (3, .int y0), (4, .int x1), (5, .int y1)]) hx hb dX6_sum_12 hl (by decide) rfl (fun ls hl => ?_)
    rcases sel3 s_ with hs | hs | hs
    · skip
      have hs9 : s_ = nI 0 := hs
      subst hs9
      refine lv_iload_n hx hb dX6_sum_14 rfl (lv_at hl 2 rfl) ?_
      refine ckSRi (As := [.int (nI 0)]) (rest := []) [] (c_X6_isState l X (nI 0)) ⟨hx, hb, hml, hown, hts⟩ (va_cwS 1 hts gX6_sum_X6_isState rfl rfl rfl (by decide +kernel) ⟨Nat.le_of_ble_eq_true rfl, Nat.le_of_ble_eq_true rfl⟩) hK hN hP hD (by decide) rfl rfl hl.1 rfl (Nat.le_of_ble_eq_true rfl) dX6_sum_15 ⟨Nat.zero_le _, Nat.zero_le _⟩ (fun r_1 hc_15 => ?_)
      rcases hc_15 with ⟨hc_15, rfl⟩ | ⟨hc_15, rfl⟩
      · skip
        refine lv_if_ne (tgt := 24) hx hb dX6_sum_18 (by decide) (fun c_18 => ?_) (fun c_18 => ?_)
        · skip
          refine lv_iconst (v := nI 0) hx hb dX6_sum_24 (by decide) ?_
          refine lv_istore (lv' := [(8, .int (nI 0)), (6, .long (lN 0)), (0, .ref m), (1, .int (nI 0)), (2, .int x0), (3, .int y0), (4, .int x1), (5, .int y1)]) hx hb dX6_sum_25 hl (by decide) rfl (fun ls hl => ?_)
          have loop_27 : ∀ (fu : Nat) (i : Nat), (i ≤ P.length) → P.length - i < fu → ∀ (ls : Array Slot), lv_has ls 10 [(0, .ref m), (1, .int (nI 0)), (2, .int x0), (3, .int y0), (4, .int x1), (5, .int y1), (6, .long ((P.take i).foldl (sSt x0 y0 x1 y1) (lN 0))), (8, .int (nI i))] → W pz l ez (headSpec wsX6_sum (rmk 1)).room sz mz ([.ref m, .int (nI 0), .int x0, .int y0, .int x1, .int y1].toArray) below meth cz sz.heap [] 0 0 Q (F0 mz 27 ls []) := by
            intro fu
            induction fu with
            | zero => intro i hi hfu; exact absurd hfu (Nat.not_lt_zero _)
            | succ fu ih27 =>
              intro i hi hfu ls hl
              refine lv_iload hx hb dX6_sum_27 (lv_at hl 7 rfl) ?_
              refine lv_aload_n hx hb dX6_sum_29 rfl (lv_at hl 0 rfl) ?_
              refine va_get (D := X.1) (ci := 6) (v := .ref mn) (C := RX6) (T := TX6) (N := 25) hx hb hts hin6 hown hK hP 0 rfl rfl 4 (by decide) lk7 (fun _ h9 => h9) rfl dX6_sum_30 ?_
              refine lv_iload_n hx hb dX6_sum_33 rfl (lv_at hl 1 rfl) ?_
              have hi_2 : vp_in (nI 0) 2 := vp_in_nI (by omega) (by omega)
              refine va_iald hx hb hK hP 1 0 rfl rfl hi_2 dX6_sum_34 ?_
              refine lv_topi (fun x_3 ex_3 => ?_)
              obtain rfl : x_3 = mf 0 := by
                rw [ex_3]
                rw [nI_clamp (by omega)]
              refine lv_topi (fun x_4 ex_4 => ?_)
              obtain rfl : x_4 = nI P.length := by
                rw [ex_4]
                exact h0.m
              refine lv_icmp_ge (tgt := 113) hx hb dX6_sum_35 (by decide) (fun c_35 => ?_) (fun c_35 => ?_)
              · replace c_35 : P.length ≤ i := (nI_leI (by omega) (by omega)).mp c_35
                refine lv_lload hx hb dX6_sum_113 (lv_at hl 6 rfl) ?_
                refine wM hQ ?_
                exact rtRL hx hb hr hlocks ((by show _ = _; rw [sel_0 (show nI 0 = 0 from rfl)]; show _ = sAll x0 y0 x1 y1 P; rw [show i = P.length from by omega, List.take_length]; rfl)) dX6_sum_115
              · replace c_35 : ¬ P.length ≤ i := fun h9 => c_35 ((nI_leI (by omega) (by omega)).mpr h9)
                refine lv_sipush (v := nI 3300) hx hb dX6_sum_38 (by decide) ?_
                refine lv_iload_n hx hb dX6_sum_41 rfl (lv_at hl 1 rfl) ?_
                refine lv_imul hx hb dX6_sum_42 ?_
                refine lv_topi (fun x_5 ex_5 => ?_)
                obtain rfl : x_5 = nI (3300 * 0) := by
                  rw [ex_5]
                  exact pk_mul _ _
                refine lv_iload hx hb dX6_sum_43 (lv_at hl 7 rfl) ?_
                refine lv_iadd hx hb dX6_sum_45 ?_
                refine lv_topi (fun x_6 ex_6 => ?_)
                obtain rfl : x_6 = nI ((3300 * 0) + i) := by
                  rw [ex_6]
                  exact nI_add _ _
                refine lv_istore (lv' := [(9, .int (nI ((3300 * 0) + i))), (0, .ref m), (1, .int (nI 0)), (2, .int x0), (3, .int y0), (4, .int x1), (5, .int y1), (6, .long ((P.take i).foldl (sSt x0 y0 x1 y1) (lN 0))), (8, .int (nI i))]) hx hb dX6_sum_46 hl (by decide) rfl (fun ls hl => ?_)
                refine lv_aload_n hx hb dX6_sum_48 rfl (lv_at hl 1 rfl) ?_
                refine va_get (D := X.1) (ci := 6) (v := .ref xr) (C := RX6) (T := TX6) (N := 25) hx hb hts hin6 hown hK hP 0 rfl rfl 5 (by decide) lk13 (fun _ h9 => h9) rfl dX6_sum_49 ?_
                refine lv_iload hx hb dX6_sum_52 (lv_at hl 0 rfl) ?_
                have hi_7 : vp_in (nI ((3300 * 0) + i)) 6600 := vp_in_nI (by omega) (by omega)
                refine va_iald hx hb hK hP 2 0 rfl rfl hi_7 dX6_sum_54 ?_
                refine lv_topi (fun x_8 ex_8 => ?_)
                obtain rfl : x_8 = xf ((3300 * 0) + i) := by
                  rw [ex_8]
                  rw [nI_clamp (by omega)]
                refine lv_topi (fun x_9 ex_9 => ?_)
                obtain rfl : x_9 = nI (pK P i / 32768) := by
                  rw [ex_9]
                  exact (h0.X i (by omega)).1
                refine lv_iload_n hx hb dX6_sum_55 rfl (lv_at hl 3 rfl) ?_
                refine lv_icmp_lt (tgt := 107) hx hb dX6_sum_56 (by decide) (fun c_56 => ?_) (fun c_56 => ?_)
                · skip
                  refine lv_iinc (v := nI (i + 1)) (lv' := [(8, .int (nI (i + 1))), (9, .int (nI ((3300 * 0) + i))), (0, .ref m), (1, .int (nI 0)), (2, .int x0), (3, .int y0), (4, .int x1), (5, .int y1), (6, .long ((P.take i).foldl (sSt x0 y0 x1 y1) (lN 0)))]) hx hb dX6_sum_107 hl (k := 8) rfl (by rw [show Int32.ofInt 1 = nI 1 from by decide]; exact nI_add _ _) (by decide) rfl (fun ls hl => ?_)
                  refine lv_goto (tgt := 27) hx hb dX6_sum_110 (by decide) ?_
                  have hl : lv_has ls 10 [(8, .int (nI (i + 1))), (9, .int (nI ((3300 * 0) + i))), (0, .ref m), (1, .int (nI 0)), (2, .int x0), (3, .int y0), (4, .int x1), (5, .int y1), (6, .long ((P.take (i + 1)).foldl (sSt x0 y0 x1 y1) (lN 0)))] := by
                    rw [s_out (by omega) (fun z => by first | exact z.1 c_56 | exact z.2.1 c_68 | exact z.2.2.1 c_79 | exact z.2.2.2 c_91)]
                    exact hl
                  exact ih27 (i + 1) (by omega) (by omega) ls (lv_sub hl [2, 3, 4, 5, 6, 7, 8, 0] rfl)
                · skip
                  refine lv_aload_n hx hb dX6_sum_59 rfl (lv_at hl 1 rfl) ?_
                  refine va_get (D := X.1) (ci := 6) (v := .ref xr) (C := RX6) (T := TX6) (N := 25) hx hb hts hin6 hown hK hP 0 rfl rfl 5 (by decide) lk13 (fun _ h9 => h9) rfl dX6_sum_60 ?_
                  refine lv_iload hx hb dX6_sum_63 (lv_at hl 0 rfl) ?_
                  have hi_10 : vp_in (nI ((3300 * 0) + i)) 6600 := vp_in_nI (by omega) (by omega)
                  refine va_iald hx hb hK hP 2 0 rfl rfl hi_10 dX6_sum_65 ?_
                  refine lv_topi (fun x_11 ex_11 => ?_)
                  obtain rfl : x_11 = xf ((3300 * 0) + i) := by
                    rw [ex_11]
                    rw [nI_clamp (by omega)]
                  refine lv_topi (fun x_12 ex_12 => ?_)
                  obtain rfl : x_12 = nI (pK P i / 32768) := by
                    rw [ex_12]
                    exact (h0.X i (by omega)).1
                  refine lv_iload hx hb dX6_sum_66 (lv_at hl 5 rfl) ?_
                  refine lv_icmp_gt (tgt := 107) hx hb dX6_sum_68 (by decide) (fun c_68 => ?_) (fun c_68 => ?_)
                  · skip
                    refine lv_iinc (v := nI (i + 1)) (lv' := [(8, .int (nI (i + 1))), (9, .int (nI ((3300 * 0) + i))), (0, .ref m), (1, .int (nI 0)), (2, .int x0), (3, .int y0), (4, .int x1), (5, .int y1), (6, .long ((P.take i).foldl (sSt x0 y0 x1 y1) (lN 0)))]) hx hb dX6_sum_107 hl (k := 8) rfl (by rw [show Int32.ofInt 1 = nI 1 from by decide]; exact nI_add _ _) (by decide) rfl (fun ls hl => ?_)
                    refine lv_goto (tgt := 27) hx hb dX6_sum_110 (by decide) ?_
                    have hl : lv_has ls 10 [(8, .int (nI (i + 1))), (9, .int (nI ((3300 * 0) + i))), (0, .ref m), (1, .int (nI 0)), (2, .int x0), (3, .int y0), (4, .int x1), (5, .int y1), (6, .long ((P.take (i + 1)).foldl (sSt x0 y0 x1 y1) (lN 0)))] := by
                      rw [s_out (by omega) (fun z => by first | exact z.1 c_56 | exact z.2.1 c_68 | exact z.2.2.1 c_79 | exact z.2.2.2 c_91)]
                      exact hl
                    exact ih27 (i + 1) (by omega) (by omega) ls (lv_sub hl [2, 3, 4, 5, 6, 7, 8, 0] rfl)
                  · skip
                    refine lv_aload_n hx hb dX6_sum_71 rfl (lv_at hl 1 rfl) ?_
                    refine va_get (D := X.1) (ci := 6) (v := .ref yr) (C := RX6) (T := TX6) (N := 25) hx hb hts hin6 hown hK hP 0 rfl rfl 6 (by decide) lk16 (fun _ h9 => h9) rfl dX6_sum_72 ?_
                    refine lv_iload hx hb dX6_sum_75 (lv_at hl 0 rfl) ?_
                    have hi_13 : vp_in (nI ((3300 * 0) + i)) 6600 := vp_in_nI (by omega) (by omega)
                    refine va_iald hx hb hK hP 3 0 rfl rfl hi_13 dX6_sum_77 ?_
                    refine lv_topi (fun x_14 ex_14 => ?_)
                    obtain rfl : x_14 = yf ((3300 * 0) + i) := by
                      rw [ex_14]
                      rw [nI_clamp (by omega)]
                    refine lv_topi (fun x_15 ex_15 => ?_)
                    obtain rfl : x_15 = nI (pK P i % 32768) := by
                      rw [ex_15]
                      exact (h0.X i (by omega)).2
                    refine lv_iload_n hx hb dX6_sum_78 rfl (lv_at hl 4 rfl) ?_
                    refine lv_icmp_lt (tgt := 107) hx hb dX6_sum_79 (by decide) (fun c_79 => ?_) (fun c_79 => ?_)
                    · skip
                      refine lv_iinc (v := nI (i + 1)) (lv' := [(8, .int (nI (i + 1))), (9, .int (nI ((3300 * 0) + i))), (0, .ref m), (1, .int (nI 0)), (2, .int x0), (3, .int y0), (4, .int x1), (5, .int y1), (6, .long ((P.take i).foldl (sSt x0 y0 x1 y1) (lN 0)))]) hx hb dX6_sum_107 hl (k := 8) rfl (by rw [show Int32.ofInt 1 = nI 1 from by decide]; exact nI_add _ _) (by decide) rfl (fun ls hl => ?_)
                      refine lv_goto (tgt := 27) hx hb dX6_sum_110 (by decide) ?_
                      have hl : lv_has ls 10 [(8, .int (nI (i + 1))), (9, .int (nI ((3300 * 0) + i))), (0, .ref m), (1, .int (nI 0)), (2, .int x0), (3, .int y0), (4, .int x1), (5, .int y1), (6, .long ((P.take (i + 1)).foldl (sSt x0 y0 x1 y1) (lN 0)))] := by
                        rw [s_out (by omega) (fun z => by first | exact z.1 c_56 | exact z.2.1 c_68 | exact z.2.2.1 c_79 | exact z.2.2.2 c_91)]
                        exact hl
                      exact ih27 (i + 1) (by omega) (by omega) ls (lv_sub hl [2, 3, 4, 5, 6, 7, 8, 0] rfl)
                    · skip
                      refine lv_aload_n hx hb dX6_sum_82 rfl (lv_at hl 1 rfl) ?_
                      refine va_get (D := X.1) (ci := 6) (v := .ref yr) (C := RX6) (T := TX6) (N := 25) hx hb hts hin6 hown hK hP 0 rfl rfl 6 (by decide) lk16 (fun _ h9 => h9) rfl dX6_sum_83 ?_
                      refine lv_iload hx hb dX6_sum_86 (lv_at hl 0 rfl) ?_
                      have hi_16 : vp_in (nI ((3300 * 0) + i)) 6600 := vp_in_nI (by omega) (by omega)
                      refine va_iald hx hb hK hP 3 0 rfl rfl hi_16 dX6_sum_88 ?_
                      refine lv_topi (fun x_17 ex_17 => ?_)
                      obtain rfl : x_17 = yf ((3300 * 0) + i) := by
                        rw [ex_17]
                        rw [nI_clamp (by omega)]
                      refine lv_topi (fun x_18 ex_18 => ?_)
                      obtain rfl : x_18 = nI (pK P i % 32768) := by
                        rw [ex_18]
                        exact (h0.X i (by omega)).2
                      refine lv_iload hx hb dX6_sum_89 (lv_at hl 6 rfl) ?_
                      refine lv_icmp_gt (tgt := 107) hx hb dX6_sum_91 (by decide) (fun c_91 => ?_) (fun c_91 => ?_)
                      · skip
                        refine lv_iinc (v := nI (i + 1)) (lv' := [(8, .int (nI (i + 1))), (9, .int (nI ((3300 * 0) + i))), (0, .ref m), (1, .int (nI 0)), (2, .int x0), (3, .int y0), (4, .int x1), (5, .int y1), (6, .long ((P.take i).foldl (sSt x0 y0 x1 y1) (lN 0)))]) hx hb dX6_sum_107 hl (k := 8) rfl (by rw [show Int32.ofInt 1 = nI 1 from by decide]; exact nI_add _ _) (by decide) rfl (fun ls hl => ?_)
                        refine lv_goto (tgt := 27) hx hb dX6_sum_110 (by decide) ?_
                        have hl : lv_has ls 10 [(8, .int (nI (i + 1))), (9, .int (nI ((3300 * 0) + i))), (0, .ref m), (1, .int (nI 0)), (2, .int x0), (3, .int y0), (4, .int x1), (5, .int y1), (6, .long ((P.take (i + 1)).foldl (sSt x0 y0 x1 y1) (lN 0)))] := by
                          rw [s_out (by omega) (fun z => by first | exact z.1 c_56 | exact z.2.1 c_68 | exact z.2.2.1 c_79 | exact z.2.2.2 c_91)]
                          exact hl
                        exact ih27 (i + 1) (by omega) (by omega) ls (lv_sub hl [2, 3, 4, 5, 6, 7, 8, 0] rfl)
                      · skip
                        refine lv_lload hx hb dX6_sum_94 (lv_at hl 7 rfl) ?_
                        refine lv_aload_n hx hb dX6_sum_96 rfl (lv_at hl 1 rfl) ?_
                        refine va_get (D := X.1) (ci := 6) (v := .ref vr) (C := RX6) (T := TX6) (N := 25) hx hb hts hin6 hown hK hP 0 rfl rfl 7 (by decide) lk19 (fun _ h9 => h9) rfl dX6_sum_97 ?_
                        refine lv_iload hx hb dX6_sum_100 (lv_at hl 0 rfl) ?_
                        have hi_19 : vp_in (nI ((3300 * 0) + i)) 6600 := vp_in_nI (by omega) (by omega)
                        refine va_iald hx hb hK hP 4 0 rfl rfl hi_19 dX6_sum_102 ?_
                        refine lv_topi (fun x_20 ex_20 => ?_)
                        obtain rfl : x_20 = vf ((3300 * 0) + i) := by
                          rw [ex_20]
                          rw [nI_clamp (by omega)]
                        refine lv_topi (fun x_21 ex_21 => ?_)
                        obtain rfl : x_21 = nI (pV P i) := by
                          rw [ex_21]
                          exact h0.V i (by omega)
                        have hvb := h0.L.vb (i := i) (by omega)
                        refine lv_i2l (v := lN (pV P i)) hx hb dX6_sum_103 (nI_l (by omega)) ?_
                        refine lv_ladd hx hb dX6_sum_104 ?_
                        refine lv_lstore (lv' := [(6, .long (((P.take i).foldl (sSt x0 y0 x1 y1) (lN 0)) + (lN (pV P i)))), (9, .int (nI ((3300 * 0) + i))), (0, .ref m), (1, .int (nI 0)), (2, .int x0), (3, .int y0), (4, .int x1), (5, .int y1), (8, .int (nI i))]) hx hb dX6_sum_105 hl (by decide) rfl (fun ls hl => ?_)
                        refine lv_iinc (v := nI (i + 1)) (lv' := [(8, .int (nI (i + 1))), (6, .long (((P.take i).foldl (sSt x0 y0 x1 y1) (lN 0)) + (lN (pV P i)))), (9, .int (nI ((3300 * 0) + i))), (0, .ref m), (1, .int (nI 0)), (2, .int x0), (3, .int y0), (4, .int x1), (5, .int y1)]) hx hb dX6_sum_107 hl (k := 8) rfl (by rw [show Int32.ofInt 1 = nI 1 from by decide]; exact nI_add _ _) (by decide) rfl (fun ls hl => ?_)
                        refine lv_goto (tgt := 27) hx hb dX6_sum_110 (by decide) ?_
                        have hl : lv_has ls 10 [(8, .int (nI (i + 1))), (6, .long ((P.take (i + 1)).foldl (sSt x0 y0 x1 y1) (lN 0))), (9, .int (nI ((3300 * 0) + i))), (0, .ref m), (1, .int (nI 0)), (2, .int x0), (3, .int y0), (4, .int x1), (5, .int y1)] := by
                          rw [s_in (by omega) ⟨c_56, c_68, c_79, c_91⟩]
                          exact hl
                        exact ih27 (i + 1) (by omega) (by omega) ls (lv_sub hl [3, 4, 5, 6, 7, 8, 1, 0] rfl)
          exact loop_27 _ 0 (by omega) (Nat.lt_succ_self _) ls (lv_sub hl [2, 3, 4, 5, 6, 7, 1, 0] rfl)
        · exact absurd c_18 (by decide)
      · skip
        exact absurd (Or.inl rfl) hc_15
    · skip
      subst hs
      refine lv_iload_n hx hb dX6_sum_14 rfl (lv_at hl 2 rfl) ?_
      refine ckSRi (As := [.int (nI 1)]) (rest := []) [] (c_X6_isState l X (nI 1)) ⟨hx, hb, hml, hown, hts⟩ (va_cwS 1 hts gX6_sum_X6_isState rfl rfl rfl (by decide +kernel) ⟨Nat.le_of_ble_eq_true rfl, Nat.le_of_ble_eq_true rfl⟩) hK hN hP hD (by decide) rfl rfl hl.1 rfl (Nat.le_of_ble_eq_true rfl) dX6_sum_15 ⟨Nat.zero_le _, Nat.zero_le _⟩ (fun r_22 hc_15 => ?_)
      rcases hc_15 with ⟨hc_15, rfl⟩ | ⟨hc_15, rfl⟩
      · skip
        refine lv_if_ne (tgt := 24) hx hb dX6_sum_18 (by decide) (fun c_18 => ?_) (fun c_18 => ?_)
        · skip
          refine lv_iconst (v := nI 0) hx hb dX6_sum_24 (by decide) ?_
          refine lv_istore (lv' := [(8, .int (nI 0)), (6, .long (lN 0)), (0, .ref m), (1, .int (nI 1)), (2, .int x0), (3, .int y0), (4, .int x1), (5, .int y1)]) hx hb dX6_sum_25 hl (by decide) rfl (fun ls hl => ?_)
          have loop_27 : ∀ (fu : Nat) (i : Nat), (i ≤ Qm.length) → Qm.length - i < fu → ∀ (ls : Array Slot), lv_has ls 10 [(0, .ref m), (1, .int (nI 1)), (2, .int x0), (3, .int y0), (4, .int x1), (5, .int y1), (6, .long ((Qm.take i).foldl (sSt x0 y0 x1 y1) (lN 0))), (8, .int (nI i))] → W pz l ez (headSpec wsX6_sum (rmk 1)).room sz mz ([.ref m, .int (nI 1), .int x0, .int y0, .int x1, .int y1].toArray) below meth cz sz.heap [] 0 0 Q (F0 mz 27 ls []) := by
            intro fu
            induction fu with
            | zero => intro i hi hfu; exact absurd hfu (Nat.not_lt_zero _)
            | succ fu ih27 =>
              intro i hi hfu ls hl
              refine lv_iload hx hb dX6_sum_27 (lv_at hl 7 rfl) ?_
              refine lv_aload_n hx hb dX6_sum_29 rfl (lv_at hl 0 rfl) ?_
              refine va_get (D := X.1) (ci := 6) (v := .ref mn) (C := RX6) (T := TX6) (N := 25) hx hb hts hin6 hown hK hP 0 rfl rfl 4 (by decide) lk7 (fun _ h9 => h9) rfl dX6_sum_30 ?_
              refine lv_iload_n hx hb dX6_sum_33 rfl (lv_at hl 1 rfl) ?_
              have hi_23 : vp_in (nI 1) 2 := vp_in_nI (by omega) (by omega)
              refine va_iald hx hb hK hP 1 0 rfl rfl hi_23 dX6_sum_34 ?_
              refine lv_topi (fun x_24 ex_24 => ?_)
              obtain rfl : x_24 = mf 1 := by
                rw [ex_24]
                rw [nI_clamp (by omega)]
              refine lv_topi (fun x_25 ex_25 => ?_)
              obtain rfl : x_25 = nI Qm.length := by
                rw [ex_25]
                exact h1.m
              refine lv_icmp_ge (tgt := 113) hx hb dX6_sum_35 (by decide) (fun c_35 => ?_) (fun c_35 => ?_)
              · replace c_35 : Qm.length ≤ i := (nI_leI (by omega) (by omega)).mp c_35
                refine lv_lload hx hb dX6_sum_113 (lv_at hl 6 rfl) ?_
                refine wM hQ ?_
                exact rtRL hx hb hr hlocks ((by show _ = _; rw [sel_1 rfl]; show _ = sAll x0 y0 x1 y1 Qm; rw [show i = Qm.length from by omega, List.take_length]; rfl)) dX6_sum_115
              · replace c_35 : ¬ Qm.length ≤ i := fun h9 => c_35 ((nI_leI (by omega) (by omega)).mpr h9)
                refine lv_sipush (v := nI 3300) hx hb dX6_sum_38 (by decide) ?_
                refine lv_iload_n hx hb dX6_sum_41 rfl (lv_at hl 1 rfl) ?_
                refine lv_imul hx hb dX6_sum_42 ?_
                refine lv_topi (fun x_26 ex_26 => ?_)
                obtain rfl : x_26 = nI (3300 * 1) := by
                  rw [ex_26]
                  exact pk_mul _ _
                refine lv_iload hx hb dX6_sum_43 (lv_at hl 7 rfl) ?_
                refine lv_iadd hx hb dX6_sum_45 ?_
                refine lv_topi (fun x_27 ex_27 => ?_)
                obtain rfl : x_27 = nI ((3300 * 1) + i) := by
                  rw [ex_27]
                  exact nI_add _ _
                refine lv_istore (lv' := [(9, .int (nI ((3300 * 1) + i))), (0, .ref m), (1, .int (nI 1)), (2, .int x0), (3, .int y0), (4, .int x1), (5, .int y1), (6, .long ((Qm.take i).foldl (sSt x0 y0 x1 y1) (lN 0))), (8, .int (nI i))]) hx hb dX6_sum_46 hl (by decide) rfl (fun ls hl => ?_)
                refine lv_aload_n hx hb dX6_sum_48 rfl (lv_at hl 1 rfl) ?_
                refine va_get (D := X.1) (ci := 6) (v := .ref xr) (C := RX6) (T := TX6) (N := 25) hx hb hts hin6 hown hK hP 0 rfl rfl 5 (by decide) lk13 (fun _ h9 => h9) rfl dX6_sum_49 ?_
                refine lv_iload hx hb dX6_sum_52 (lv_at hl 0 rfl) ?_
                have hi_28 : vp_in (nI ((3300 * 1) + i)) 6600 := vp_in_nI (by omega) (by omega)
                refine va_iald hx hb hK hP 2 0 rfl rfl hi_28 dX6_sum_54 ?_
                refine lv_topi (fun x_29 ex_29 => ?_)
                obtain rfl : x_29 = xf ((3300 * 1) + i) := by
                  rw [ex_29]
                  rw [nI_clamp (by omega)]
                refine lv_topi (fun x_30 ex_30 => ?_)
                obtain rfl : x_30 = nI (pK Qm i / 32768) := by
                  rw [ex_30]
                  exact (h1.X i (by omega)).1
                refine lv_iload_n hx hb dX6_sum_55 rfl (lv_at hl 3 rfl) ?_
                refine lv_icmp_lt (tgt := 107) hx hb dX6_sum_56 (by decide) (fun c_56 => ?_) (fun c_56 => ?_)
                · skip
                  refine lv_iinc (v := nI (i + 1)) (lv' := [(8, .int (nI (i + 1))), (9, .int (nI ((3300 * 1) + i))), (0, .ref m), (1, .int (nI 1)), (2, .int x0), (3, .int y0), (4, .int x1), (5, .int y1), (6, .long ((Qm.take i).foldl (sSt x0 y0 x1 y1) (lN 0)))]) hx hb dX6_sum_107 hl (k := 8) rfl (by rw [show Int32.ofInt 1 = nI 1 from by decide]; exact nI_add _ _) (by decide) rfl (fun ls hl => ?_)
                  refine lv_goto (tgt := 27) hx hb dX6_sum_110 (by decide) ?_
                  have hl : lv_has ls 10 [(8, .int (nI (i + 1))), (9, .int (nI ((3300 * 1) + i))), (0, .ref m), (1, .int (nI 1)), (2, .int x0), (3, .int y0), (4, .int x1), (5, .int y1), (6, .long ((Qm.take (i + 1)).foldl (sSt x0 y0 x1 y1) (lN 0)))] := by
                    rw [s_out (by omega) (fun z => by first | exact z.1 c_56 | exact z.2.1 c_68 | exact z.2.2.1 c_79 | exact z.2.2.2 c_91)]
                    exact hl
                  exact ih27 (i + 1) (by omega) (by omega) ls (lv_sub hl [2, 3, 4, 5, 6, 7, 8, 0] rfl)
                · skip
                  refine lv_aload_n hx hb dX6_sum_59 rfl (lv_at hl 1 rfl) ?_
                  refine va_get (D := X.1) (ci := 6) (v := .ref xr) (C := RX6) (T := TX6) (N := 25) hx hb hts hin6 hown hK hP 0 rfl rfl 5 (by decide) lk13 (fun _ h9 => h9) rfl dX6_sum_60 ?_
                  refine lv_iload hx hb dX6_sum_63 (lv_at hl 0 rfl) ?_
                  have hi_31 : vp_in (nI ((3300 * 1) + i)) 6600 := vp_in_nI (by omega) (by omega)
                  refine va_iald hx hb hK hP 2 0 rfl rfl hi_31 dX6_sum_65 ?_
                  refine lv_topi (fun x_32 ex_32 => ?_)
                  obtain rfl : x_32 = xf ((3300 * 1) + i) := by
                    rw [ex_32]
                    rw [nI_clamp (by omega)]
                  refine lv_topi (fun x_33 ex_33 => ?_)
                  obtain rfl : x_33 = nI (pK Qm i / 32768) := by
                    rw [ex_33]
                    exact (h1.X i (by omega)).1
                  refine lv_iload hx hb dX6_sum_66 (lv_at hl 5 rfl) ?_
                  refine lv_icmp_gt (tgt := 107) hx hb dX6_sum_68 (by decide) (fun c_68 => ?_) (fun c_68 => ?_)
                  · skip
                    refine lv_iinc (v := nI (i + 1)) (lv' := [(8, .int (nI (i + 1))), (9, .int (nI ((3300 * 1) + i))), (0, .ref m), (1, .int (nI 1)), (2, .int x0), (3, .int y0), (4, .int x1), (5, .int y1), (6, .long ((Qm.take i).foldl (sSt x0 y0 x1 y1) (lN 0)))]) hx hb dX6_sum_107 hl (k := 8) rfl (by rw [show Int32.ofInt 1 = nI 1 from by decide]; exact nI_add _ _) (by decide) rfl (fun ls hl => ?_)
                    refine lv_goto (tgt := 27) hx hb dX6_sum_110 (by decide) ?_
                    have hl : lv_has ls 10 [(8, .int (nI (i + 1))), (9, .int (nI ((3300 * 1) + i))), (0, .ref m), (1, .int (nI 1)), (2, .int x0), (3, .int y0), (4, .int x1), (5, .int y1), (6, .long ((Qm.take (i + 1)).foldl (sSt x0 y0 x1 y1) (lN 0)))] := by
                      rw [s_out (by omega) (fun z => by first | exact z.1 c_56 | exact z.2.1 c_68 | exact z.2.2.1 c_79 | exact z.2.2.2 c_91)]
                      exact hl
                    exact ih27 (i + 1) (by omega) (by omega) ls (lv_sub hl [2, 3, 4, 5, 6, 7, 8, 0] rfl)
                  · skip
                    refine lv_aload_n hx hb dX6_sum_71 rfl (lv_at hl 1 rfl) ?_
                    refine va_get (D := X.1) (ci := 6) (v := .ref yr) (C := RX6) (T := TX6) (N := 25) hx hb hts hin6 hown hK hP 0 rfl rfl 6 (by decide) lk16 (fun _ h9 => h9) rfl dX6_sum_72 ?_
                    refine lv_iload hx hb dX6_sum_75 (lv_at hl 0 rfl) ?_
                    have hi_34 : vp_in (nI ((3300 * 1) + i)) 6600 := vp_in_nI (by omega) (by omega)
                    refine va_iald hx hb hK hP 3 0 rfl rfl hi_34 dX6_sum_77 ?_
                    refine lv_topi (fun x_35 ex_35 => ?_)
                    obtain rfl : x_35 = yf ((3300 * 1) + i) := by
                      rw [ex_35]
                      rw [nI_clamp (by omega)]
                    refine lv_topi (fun x_36 ex_36 => ?_)
                    obtain rfl : x_36 = nI (pK Qm i % 32768) := by
                      rw [ex_36]
                      exact (h1.X i (by omega)).2
                    refine lv_iload_n hx hb dX6_sum_78 rfl (lv_at hl 4 rfl) ?_
                    refine lv_icmp_lt (tgt := 107) hx hb dX6_sum_79 (by decide) (fun c_79 => ?_) (fun c_79 => ?_)
                    · skip
                      refine lv_iinc (v := nI (i + 1)) (lv' := [(8, .int (nI (i + 1))), (9, .int (nI ((3300 * 1) + i))), (0, .ref m), (1, .int (nI 1)), (2, .int x0), (3, .int y0), (4, .int x1), (5, .int y1), (6, .long ((Qm.take i).foldl (sSt x0 y0 x1 y1) (lN 0)))]) hx hb dX6_sum_107 hl (k := 8) rfl (by rw [show Int32.ofInt 1 = nI 1 from by decide]; exact nI_add _ _) (by decide) rfl (fun ls hl => ?_)
                      refine lv_goto (tgt := 27) hx hb dX6_sum_110 (by decide) ?_
                      have hl : lv_has ls 10 [(8, .int (nI (i + 1))), (9, .int (nI ((3300 * 1) + i))), (0, .ref m), (1, .int (nI 1)), (2, .int x0), (3, .int y0), (4, .int x1), (5, .int y1), (6, .long ((Qm.take (i + 1)).foldl (sSt x0 y0 x1 y1) (lN 0)))] := by
                        rw [s_out (by omega) (fun z => by first | exact z.1 c_56 | exact z.2.1 c_68 | exact z.2.2.1 c_79 | exact z.2.2.2 c_91)]
                        exact hl
                      exact ih27 (i + 1) (by omega) (by omega) ls (lv_sub hl [2, 3, 4, 5, 6, 7, 8, 0] rfl)
                    · skip
                      refine lv_aload_n hx hb dX6_sum_82 rfl (lv_at hl 1 rfl) ?_
                      refine va_get (D := X.1) (ci := 6) (v := .ref yr) (C := RX6) (T := TX6) (N := 25) hx hb hts hin6 hown hK hP 0 rfl rfl 6 (by decide) lk16 (fun _ h9 => h9) rfl dX6_sum_83 ?_
                      refine lv_iload hx hb dX6_sum_86 (lv_at hl 0 rfl) ?_
                      have hi_37 : vp_in (nI ((3300 * 1) + i)) 6600 := vp_in_nI (by omega) (by omega)
                      refine va_iald hx hb hK hP 3 0 rfl rfl hi_37 dX6_sum_88 ?_
                      refine lv_topi (fun x_38 ex_38 => ?_)
                      obtain rfl : x_38 = yf ((3300 * 1) + i) := by
                        rw [ex_38]
                        rw [nI_clamp (by omega)]
                      refine lv_topi (fun x_39 ex_39 => ?_)
                      obtain rfl : x_39 = nI (pK Qm i % 32768) := by
                        rw [ex_39]
                        exact (h1.X i (by omega)).2
                      refine lv_iload hx hb dX6_sum_89 (lv_at hl 6 rfl) ?_
                      refine lv_icmp_gt (tgt := 107) hx hb dX6_sum_91 (by decide) (fun c_91 => ?_) (fun c_91 => ?_)
                      · skip
                        refine lv_iinc (v := nI (i + 1)) (lv' := [(8, .int (nI (i + 1))), (9, .int (nI ((3300 * 1) + i))), (0, .ref m), (1, .int (nI 1)), (2, .int x0), (3, .int y0), (4, .int x1), (5, .int y1), (6, .long ((Qm.take i).foldl (sSt x0 y0 x1 y1) (lN 0)))]) hx hb dX6_sum_107 hl (k := 8) rfl (by rw [show Int32.ofInt 1 = nI 1 from by decide]; exact nI_add _ _) (by decide) rfl (fun ls hl => ?_)
                        refine lv_goto (tgt := 27) hx hb dX6_sum_110 (by decide) ?_
                        have hl : lv_has ls 10 [(8, .int (nI (i + 1))), (9, .int (nI ((3300 * 1) + i))), (0, .ref m), (1, .int (nI 1)), (2, .int x0), (3, .int y0), (4, .int x1), (5, .int y1), (6, .long ((Qm.take (i + 1)).foldl (sSt x0 y0 x1 y1) (lN 0)))] := by
                          rw [s_out (by omega) (fun z => by first | exact z.1 c_56 | exact z.2.1 c_68 | exact z.2.2.1 c_79 | exact z.2.2.2 c_91)]
                          exact hl
                        exact ih27 (i + 1) (by omega) (by omega) ls (lv_sub hl [2, 3, 4, 5, 6, 7, 8, 0] rfl)
                      · skip
                        refine lv_lload hx hb dX6_sum_94 (lv_at hl 7 rfl) ?_
                        refine lv_aload_n hx hb dX6_sum_96 rfl (lv_at hl 1 rfl) ?_
                        refine va_get (D := X.1) (ci := 6) (v := .ref vr) (C := RX6) (T := TX6) (N := 25) hx hb hts hin6 hown hK hP 0 rfl rfl 7 (by decide) lk19 (fun _ h9 => h9) rfl dX6_sum_97 ?_
                        refine lv_iload hx hb dX6_sum_100 (lv_at hl 0 rfl) ?_
                        have hi_40 : vp_in (nI ((3300 * 1) + i)) 6600 := vp_in_nI (by omega) (by omega)
                        refine va_iald hx hb hK hP 4 0 rfl rfl hi_40 dX6_sum_102 ?_
                        refine lv_topi (fun x_41 ex_41 => ?_)
                        obtain rfl : x_41 = vf ((3300 * 1) + i) := by
                          rw [ex_41]
                          rw [nI_clamp (by omega)]
                        refine lv_topi (fun x_42 ex_42 => ?_)
                        obtain rfl : x_42 = nI (pV Qm i) := by
                          rw [ex_42]
                          exact h1.V i (by omega)
                        have hvb := h1.L.vb (i := i) (by omega)
                        refine lv_i2l (v := lN (pV Qm i)) hx hb dX6_sum_103 (nI_l (by omega)) ?_
                        refine lv_ladd hx hb dX6_sum_104 ?_
                        refine lv_lstore (lv' := [(6, .long (((Qm.take i).foldl (sSt x0 y0 x1 y1) (lN 0)) + (lN (pV Qm i)))), (9, .int (nI ((3300 * 1) + i))), (0, .ref m), (1, .int (nI 1)), (2, .int x0), (3, .int y0), (4, .int x1), (5, .int y1), (8, .int (nI i))]) hx hb dX6_sum_105 hl (by decide) rfl (fun ls hl => ?_)
                        refine lv_iinc (v := nI (i + 1)) (lv' := [(8, .int (nI (i + 1))), (6, .long (((Qm.take i).foldl (sSt x0 y0 x1 y1) (lN 0)) + (lN (pV Qm i)))), (9, .int (nI ((3300 * 1) + i))), (0, .ref m), (1, .int (nI 1)), (2, .int x0), (3, .int y0), (4, .int x1), (5, .int y1)]) hx hb dX6_sum_107 hl (k := 8) rfl (by rw [show Int32.ofInt 1 = nI 1 from by decide]; exact nI_add _ _) (by decide) rfl (fun ls hl => ?_)
                        refine lv_goto (tgt := 27) hx hb dX6_sum_110 (by decide) ?_
                        have hl : lv_has ls 10 [(8, .int (nI (i + 1))), (6, .long ((Qm.take (i + 1)).foldl (sSt x0 y0 x1 y1) (lN 0))), (9, .int (nI ((3300 * 1) + i))), (0, .ref m), (1, .int (nI 1)), (2, .int x0), (3, .int y0), (4, .int x1), (5, .int y1)] := by
                          rw [s_in (by omega) ⟨c_56, c_68, c_79, c_91⟩]
                          exact hl
                        exact ih27 (i + 1) (by omega) (by omega) ls (lv_sub hl [3, 4, 5, 6, 7, 8, 1, 0] rfl)
          exact loop_27 _ 0 (by omega) (Nat.lt_succ_self _) ls (lv_sub hl [2, 3, 4, 5, 6, 7, 1, 0] rfl)
        · exact absurd c_18 (by decide)
      · skip
        exact absurd (Or.inr rfl) hc_15
    · skip
      skip
      refine lv_iload_n hx hb dX6_sum_14 rfl (lv_at hl 2 rfl) ?_
      refine ckSRi (As := [.int s_]) (rest := []) [] (c_X6_isState l X s_) ⟨hx, hb, hml, hown, hts⟩ (va_cwS 1 hts gX6_sum_X6_isState rfl rfl rfl (by decide +kernel) ⟨Nat.le_of_ble_eq_true rfl, Nat.le_of_ble_eq_true rfl⟩) hK hN hP hD (by decide) rfl rfl hl.1 rfl (Nat.le_of_ble_eq_true rfl) dX6_sum_15 ⟨Nat.zero_le _, Nat.zero_le _⟩ (fun r_43 hc_15 => ?_)
      rcases hc_15 with ⟨hc_15, rfl⟩ | ⟨hc_15, rfl⟩
      · skip
        exact absurd hc_15 (fun z => z.elim hs.1 hs.2)
      · skip
        refine lv_if_ne (tgt := 24) hx hb dX6_sum_18 (by decide) (fun c_18 => ?_) (fun c_18 => ?_)
        · exact absurd c_18 (by decide)
        · skip
          refine lv_lload hx hb dX6_sum_21 (lv_at hl 0 rfl) ?_
          refine wM hQ ?_
          exact rtRL hx hb hr hlocks ((by show _ = _; rw [sel_n hs.1 hs.2]; rfl)) dX6_sum_23
  · exact absurd c_4 (by decide)
set_option maxHeartbeats 4000000 in
set_option maxRecDepth 100000 in
theorem c_X6_delete (l : Launch) (X : kX) (m bl bk b sp mn xr yr vr cr wr nc wl wc rx ry rv fr : Nat) (f_ar f_wt f_lv f_fi f_en f_rs : Int32) (f_cd : Int64) (x y : Int32) (mf xf yf vf wf : Nat → Int32) (cf : Nat → Int64) (P ZP Qm ZQm : PL) (h0 : mSt b mf xf yf vf wf cf 0 P ZP) (h1 : mSt b mf xf yf vf wf cf 1 Qm ZQm) (hb1 : b ≤ 15) (hsp : sp ≤ 32768) (hsb : sp = 2 ^ b) (hnc : nc ≤ 60) : CWi l X yX6_delete wsX6_delete 2 [.ref m, .int x, .int y] [(m, .inr (6, [.int (nI bl), .int (nI bk), .int (nI b), .int (nI sp), .ref mn, .ref xr, .ref yr, .ref vr, .ref cr, .ref wr, .int (nI nc), .int (nI 0), .int f_ar, .ref wl, .ref wc, .int f_wt, .int f_lv, .int f_fi, .int f_en, .long f_cd, .ref rx, .ref ry, .ref rv, .ref fr, .int f_rs])), (mn, .inl (X.2.1, 2, .inl mf)), (xr, .inl (X.2.1, 6600, .inl xf)), (yr, .inl (X.2.1, 6600, .inl yf)), (vr, .inl (X.2.1, 6600, .inl vf)), (cr, .inl (X.2.2, 6600, .inr (.inl cf))), (wr, .inl (X.2.1, 6600, .inl wf))] (S := ((Nat → Int32) × (Nat → Int32) × (Nat → Int32) × (Nat → Int32) × (Nat → Int32) × (Nat → Int64)) × (PL × PL × List Op)) (fun r u => (r, u.2.1, u.2.2.2) = delF sp P nc x y ∧ mSt b u.1.1 u.1.2.1 u.1.2.2.1 u.1.2.2.2.1 u.1.2.2.2.2.1 u.1.2.2.2.2.2 0 u.2.1 u.2.2.1 ∧ mSt b u.1.1 u.1.2.1 u.1.2.2.1 u.1.2.2.2.1 u.1.2.2.2.2.1 u.1.2.2.2.2.2 1 Qm ZQm) (fun ⟨⟨mf2, xf2, yf2, vf2, wf2, cf2⟩, ⟨P2, ZP2, D⟩⟩ => [(m, .inr (6, [.int (nI bl), .int (nI bk), .int (nI b), .int (nI sp), .ref mn, .ref xr, .ref yr, .ref vr, .ref cr, .ref wr, .int (nI (nc + D.length)), .int (nI 0), .int f_ar, .ref wl, .ref wc, .int f_wt, .int f_lv, .int f_fi, .int f_en, .long f_cd, .ref rx, .ref ry, .ref rv, .ref fr, .int f_rs])), (mn, .inl (X.2.1, 2, .inl mf2)), (xr, .inl (X.2.1, 6600, .inl xf2)), (yr, .inl (X.2.1, 6600, .inl yf2)), (vr, .inl (X.2.1, 6600, .inl vf2)), (cr, .inl (X.2.2, 6600, .inr (.inl cf2))), (wr, .inl (X.2.1, 6600, .inl wf2))]) := by
  refine Met.ofW (cc := cX6_delete) (maxL := 4) (ret := some (.int)) (by decide) rfl ?_
  intro pz ez sz mz args below meth cz s₁ Bz hml hv
  obtain ⟨rfl, hP, hK, hD0, hN⟩ := hv
  have hx := Bz.exec
  have hb := Bz.bytes
  have hr := Bz.returns
  have hts := atoms_spec (ws := wsX6_delete) Bz.pre
  have hown : sz.vm.findClass RX6 = some mz.cls := findClass_of_methodNamed Bz.named
  have hlocks := Bz.notSynchronized
  have hD := inW.self hD0
  have hS : va_S (inW [(m, .inr (6, [.int (nI bl), .int (nI bk), .int (nI b), .int (nI sp), .ref mn, .ref xr, .ref yr, .ref vr, .ref cr, .ref wr, .int (nI nc), .int (nI 0), .int f_ar, .ref wl, .ref wc, .int f_wt, .int f_lv, .int f_fi, .int f_en, .long f_cd, .ref rx, .ref ry, .ref rv, .ref fr, .int f_rs])), (mn, .inl (X.2.1, 2, .inl mf)), (xr, .inl (X.2.1, 6600, .inl xf)), (yr, .inl (X.2.1, 6600, .inl yf)), (vr, .inl (X.2.1, 6600, .inl vf)), (cr, .inl (X.2.2, 6600, .inr (.inl cf))), (wr, .inl (X.2.1, 6600, .inl wf))]) sz.heap sz.heap [] := va_S.rf
  have hl := lv_entry ([.ref m, .int x, .int y]) (n := 4) (Nat.le_of_ble_eq_true rfl)
  rw [lg_entry_eq]
  generalize (lg_sl ([.ref m, .int x, .int y]) ++ List.replicate (4 - (lg_sl ([.ref m, .int x, .int y])).length) Slot.unset).toArray = ls at hl ⊢
  have hl : lv_has ls 4 [(0, .ref m), (1, .int x), (2, .int y)] := hl
  have lk71 := hts (.fieldLink RX6 71 "PointStoreModel" "changes" "I") (by decide +kernel)
  have lk105 := hts (.fieldLink RX6 105 "PointStoreModel" "isOff" "Z") (by decide +kernel)
  have hin6 : ∀ w ∈ u_ws RX6 TX6 25, w ∈ wsX6_delete := by decide +kernel
  refine wQ (fun Q hQ => ?_)
  generalize hAe : inW [(m, .inr (6, [.int (nI bl), .int (nI bk), .int (nI b), .int (nI sp), .ref mn, .ref xr, .ref yr, .ref vr, .ref cr, .ref wr, .int (nI nc), .int (nI 0), .int f_ar, .ref wl, .ref wc, .int f_wt, .int f_lv, .int f_fi, .int f_en, .long f_cd, .ref rx, .ref ry, .ref rv, .ref fr, .int f_rs])), (mn, .inl (X.2.1, 2, .inl mf)), (xr, .inl (X.2.1, 6600, .inl xf)), (yr, .inl (X.2.1, 6600, .inl yf)), (vr, .inl (X.2.1, 6600, .inl vf)), (cr, .inl (X.2.2, 6600, .inr (.inl cf))), (wr, .inl (X.2.1, 6600, .inl wf))] = A_ at hD hS hQ
  refine lv_aload_n hx hb dX6_delete_0 rfl (lv_at hl 0 rfl) ?_
  refine va_get (D := X.1) (ci := 6) (v := .int (nI 0)) (C := RX6) (T := TX6) (N := 25) hx hb hts hin6 hown hK hP 0 rfl rfl 11 (by decide) lk105 (fun _ h9 => h9) rfl dX6_delete_1 ?_
  refine lv_if_eq (tgt := 10) hx hb dX6_delete_4 (by decide) (fun c_4 => ?_) (fun c_4 => ?_)
  · skip
    refine lv_aload_n hx hb dX6_delete_10 rfl (lv_at hl 0 rfl) ?_
    refine lv_iload_n hx hb dX6_delete_11 rfl (lv_at hl 1 rfl) ?_
    refine lv_iload_n hx hb dX6_delete_12 rfl (lv_at hl 2 rfl) ?_
    refine ckVRi (As := [.int x, .int y]) (rest := []) 0 [0] (c_X6_isInside l X m bl bk b sp mn xr yr vr cr wr nc wl wc rx ry rv fr (nI 0) f_ar f_wt f_lv f_fi f_en f_rs f_cd x y) ⟨hx, hb, hml, hown, hts⟩ (cwV 2 hts gX6_delete_X6_isInside rfl rfl rfl (by decide +kernel) ⟨Nat.le_of_ble_eq_true rfl, Nat.le_of_ble_eq_true rfl⟩) hK hN hP hD (by decide) rfl (ci := 6) rfl rfl rfl hl.1 rfl (Nat.le_of_ble_eq_true rfl) dX6_delete_13 ⟨Nat.zero_le _, Nat.zero_le _⟩ (fun r_1 hc_13 => ?_)
    rcases hc_13 with ⟨hc_13, rfl⟩ | ⟨hc_13, rfl⟩
    · skip
      obtain ⟨xa, ya, hxa, hya, rfl, rfl⟩ := onp_of hc_13 hsp
      have hkin : (xa * 32768 + ya) / 32768 < 2 ^ b ∧ (xa * 32768 + ya) % 32768 < 2 ^ b := by omega
      refine lv_if_ne (tgt := 21) hx hb dX6_delete_16 (by decide) (fun c_16 => ?_) (fun c_16 => ?_)
      · skip
        refine lv_aload_n hx hb dX6_delete_21 rfl (lv_at hl 0 rfl) ?_
        refine lv_iconst (v := nI 0) hx hb dX6_delete_22 (by decide) ?_
        refine lv_iload_n hx hb dX6_delete_23 rfl (lv_at hl 1 rfl) ?_
        refine lv_iload_n hx hb dX6_delete_24 rfl (lv_at hl 2 rfl) ?_
        refine ckVRi (As := [.int (nI 0), .int (nI xa), .int (nI ya)]) (rest := []) 0 [0, 1, 2, 3] (c_X6_placeOf l X m bl bk b sp mn xr yr vr cr wr nc wl wc rx ry rv fr (nI 0) f_ar f_wt f_lv f_fi f_en f_rs f_cd 0 (nI xa) (nI ya) mf xf yf P (by decide) h0.m h0.X h0.L) ⟨hx, hb, hml, hown, hts⟩ (cwV 3 hts gX6_delete_X6_placeOf rfl rfl rfl (by decide +kernel) ⟨Nat.le_of_ble_eq_true rfl, Nat.le_of_ble_eq_true rfl⟩) hK hN hP hD (by decide) rfl (ci := 6) rfl rfl rfl hl.1 rfl (Nat.le_of_ble_eq_true rfl) dX6_delete_25 ⟨Nat.zero_le _, Nat.zero_le _⟩ (fun r_2 hc_25 => ?_)
        obtain ⟨kk, rfl, hpl⟩ := hc_25
        obtain rfl := plAt_rk h0.L (by omega) (by omega) hpl
        have hrl := rk_le P (xa * 32768 + ya)
        refine lv_istore_n (lv' := [(3, .int (nI (rk P (xa * 32768 + ya)))), (0, .ref m), (1, .int (nI xa)), (2, .int (nI ya))]) hx hb dX6_delete_28 rfl hl (by decide) rfl (fun ls hl => ?_)
        refine lv_aload_n hx hb dX6_delete_29 rfl (lv_at hl 1 rfl) ?_
        refine lv_iconst (v := nI 0) hx hb dX6_delete_30 (by decide) ?_
        refine lv_iload_n hx hb dX6_delete_31 rfl (lv_at hl 0 rfl) ?_
        refine lv_iload_n hx hb dX6_delete_32 rfl (lv_at hl 2 rfl) ?_
        refine lv_iload_n hx hb dX6_delete_33 rfl (lv_at hl 3 rfl) ?_
        refine ckVRi (As := [.int (nI 0), .int (nI (rk P (xa * 32768 + ya))), .int (nI xa), .int (nI ya)]) (rest := []) 0 [0, 1, 2, 3] (c_X6_isAt l X m bl bk b sp mn xr yr vr cr wr nc wl wc rx ry rv fr (nI 0) f_ar f_wt f_lv f_fi f_en f_rs f_cd 0 (rk P (xa * 32768 + ya)) (nI xa) (nI ya) mf xf yf P (by decide) hrl h0.m h0.X h0.L) ⟨hx, hb, hml, hown, hts⟩ (cwV 4 hts gX6_delete_X6_isAt rfl rfl rfl (by decide +kernel) ⟨Nat.le_of_ble_eq_true rfl, Nat.le_of_ble_eq_true rfl⟩) hK hN hP hD (by decide) rfl (ci := 6) rfl rfl rfl hl.1 rfl (Nat.le_of_ble_eq_true rfl) dX6_delete_34 ⟨Nat.zero_le _, Nat.zero_le _⟩ (fun r_3 hc_34 => ?_)
        rcases hc_34 with ⟨hc_34, rfl⟩ | ⟨hc_34, rfl⟩
        · skip
          have hsome := at_some h0.L (by omega) (by omega) hc_34
          refine lv_if_ne (tgt := 42) hx hb dX6_delete_37 (by decide) (fun c_37 => ?_) (fun c_37 => ?_)
          · skip
            refine lv_aload_n hx hb dX6_delete_42 rfl (lv_at hl 1 rfl) ?_
            refine va_get (D := X.1) (ci := 6) (v := .int (nI nc)) (C := RX6) (T := TX6) (N := 25) hx hb hts hin6 hown hK hP 0 rfl rfl 10 (by decide) lk71 (fun _ h9 => h9) rfl dX6_delete_43 ?_
            refine lv_bipush (v := nI 60) hx hb dX6_delete_46 (by decide) ?_
            refine lv_icmp_ne (tgt := 53) hx hb dX6_delete_48 (by decide) (fun c_48 => ?_) (fun c_48 => ?_)
            · replace c_48 : ¬ nc = 60 := fun h9 => c_48 ((nI_eq (by omega) (by omega)).mpr h9)
              refine lv_aload_n hx hb dX6_delete_53 rfl (lv_at hl 1 rfl) ?_
              refine lv_iload_n hx hb dX6_delete_54 rfl (lv_at hl 0 rfl) ?_
              refine ckVv (As := [.int (nI (rk P (xa * 32768 + ya)))]) (rest := []) 0 [0, 1, 2, 3, 4, 5, 6] (c_X6_takes l X m bl bk b sp mn xr yr vr cr wr nc wl wc rx ry rv fr (nI 0) f_ar f_wt f_lv f_fi f_en f_rs f_cd (rk P (xa * 32768 + ya)) (xa * 32768 + ya) (pV P (rk P (xa * 32768 + ya))) mf xf yf vf wf cf P ZP Qm ZQm h0 h1 rfl hsome hkin hb1) ⟨hx, hb, hml, hown, hts⟩ (cwV 1 hts gX6_delete_X6_takes rfl rfl rfl (by decide +kernel) ⟨Nat.le_of_ble_eq_true rfl, Nat.le_of_ble_eq_true rfl⟩) hK hN hP hD hS (by decide) rfl (ci := 6) rfl rfl (fun _ => rfl) rfl hl.1 rfl (Nat.le_of_ble_eq_true rfl) dX6_delete_55 ⟨Nat.zero_le _, Nat.zero_le _⟩ (fun u_4 H locs htk hP hD hS => ?_)
              obtain ⟨mf2, xf2, yf2, vf2, wf2, cf2⟩ := u_4
              have hP : va_P X.1 vwCl [(m, .inr (6, [.int (nI bl), .int (nI bk), .int (nI b), .int (nI sp), .ref mn, .ref xr, .ref yr, .ref vr, .ref cr, .ref wr, .int (nI nc), .int (nI 0), .int f_ar, .ref wl, .ref wc, .int f_wt, .int f_lv, .int f_fi, .int f_en, .long f_cd, .ref rx, .ref ry, .ref rv, .ref fr, .int f_rs])), (mn, .inl (X.2.1, 2, .inl mf2)), (xr, .inl (X.2.1, 6600, .inl xf2)), (yr, .inl (X.2.1, 6600, .inl yf2)), (vr, .inl (X.2.1, 6600, .inl vf2)), (cr, .inl (X.2.2, 6600, .inr (.inl cf2))), (wr, .inl (X.2.1, 6600, .inl wf2))] H := hP
              have hD : va_D A_ [(m, .inr (6, [.int (nI bl), .int (nI bk), .int (nI b), .int (nI sp), .ref mn, .ref xr, .ref yr, .ref vr, .ref cr, .ref wr, .int (nI nc), .int (nI 0), .int f_ar, .ref wl, .ref wc, .int f_wt, .int f_lv, .int f_fi, .int f_en, .long f_cd, .ref rx, .ref ry, .ref rv, .ref fr, .int f_rs])), (mn, .inl (X.2.1, 2, .inl mf2)), (xr, .inl (X.2.1, 6600, .inl xf2)), (yr, .inl (X.2.1, 6600, .inl yf2)), (vr, .inl (X.2.1, 6600, .inl vf2)), (cr, .inl (X.2.2, 6600, .inr (.inl cf2))), (wr, .inl (X.2.1, 6600, .inl wf2))] := hD
              try dsimp only at htk
              refine lv_aload_n hx hb dX6_delete_58 rfl (lv_at hl 1 rfl) ?_
              refine lv_aload_n hx hb dX6_delete_59 rfl (lv_at hl 1 rfl) ?_
              refine va_get (D := X.1) (ci := 6) (v := .int (nI nc)) (C := RX6) (T := TX6) (N := 25) hx hb hts hin6 hown hK hP 0 rfl rfl 10 (by decide) lk71 (fun _ h9 => h9) rfl dX6_delete_60 ?_
              refine lv_iconst (v := nI 1) hx hb dX6_delete_63 (by decide) ?_
              refine lv_iadd hx hb dX6_delete_64 ?_
              refine lv_topi (fun x_6 ex_6 => ?_)
              obtain rfl : x_6 = nI (nc + 1) := by
                rw [ex_6]
                exact nI_add _ _
              refine va_put (D := X.1) (ci := 6) (v := .int (nI (nc + 1))) (ty := .int) (C := RX6) (T := TX6) (N := 25) hx hb hts hin6 tyX6 tyX6_ok nmX6 hown hK hP hD hS 0 rfl rfl 10 (by decide) lk71 (fun _ h9 => h9) rfl (by decide +kernel) rfl rfl (Nat.le_of_ble_eq_true rfl) dX6_delete_65 (fun H locs hP hD hS => ?_)
              have hP : va_P X.1 vwCl [(m, .inr (6, [.int (nI bl), .int (nI bk), .int (nI b), .int (nI sp), .ref mn, .ref xr, .ref yr, .ref vr, .ref cr, .ref wr, .int (nI (nc + 1)), .int (nI 0), .int f_ar, .ref wl, .ref wc, .int f_wt, .int f_lv, .int f_fi, .int f_en, .long f_cd, .ref rx, .ref ry, .ref rv, .ref fr, .int f_rs])), (mn, .inl (X.2.1, 2, .inl mf2)), (xr, .inl (X.2.1, 6600, .inl xf2)), (yr, .inl (X.2.1, 6600, .inl yf2)), (vr, .inl (X.2.1, 6600, .inl vf2)), (cr, .inl (X.2.2, 6600, .inr (.inl cf2))), (wr, .inl (X.2.1, 6600, .inl wf2))] H := hP
              have hD : va_D A_ [(m, .inr (6, [.int (nI bl), .int (nI bk), .int (nI b), .int (nI sp), .ref mn, .ref xr, .ref yr, .ref vr, .ref cr, .ref wr, .int (nI (nc + 1)), .int (nI 0), .int f_ar, .ref wl, .ref wc, .int f_wt, .int f_lv, .int f_fi, .int f_en, .long f_cd, .ref rx, .ref ry, .ref rv, .ref fr, .int f_rs])), (mn, .inl (X.2.1, 2, .inl mf2)), (xr, .inl (X.2.1, 6600, .inl xf2)), (yr, .inl (X.2.1, 6600, .inl yf2)), (vr, .inl (X.2.1, 6600, .inl vf2)), (cr, .inl (X.2.2, 6600, .inr (.inl cf2))), (wr, .inl (X.2.1, 6600, .inl wf2))] := hD
              refine lv_iconst (v := nI 0) hx hb dX6_delete_68 (by decide) ?_
              refine wM hQ ?_
              exact rtI ((mf2, xf2, yf2, vf2, wf2, cf2), (pdel P (xa * 32768 + ya), pdel ZP (zk b (xa * 32768 + ya)), [some (xa * 32768 + ya, none)])) hx hb hr hlocks hP hS (⟨(by show (nI 0, pdel P (xa * 32768 + ya), [some (xa * 32768 + ya, none)]) = _; unfold delF; rw [cif_pos hc_13, kOf_nI (by omega) (by omega), cif_neg (by rw [hsome]; exact fun z => by cases z), cif_neg (by omega)]), htk⟩) dX6_delete_69
            · replace c_48 : nc = 60 := (nI_eq (by omega) (by omega)).mp c_48
              refine lv_iconst (v := nI 3) hx hb dX6_delete_51 (by decide) ?_
              refine wM hQ ?_
              exact rtI ((mf, xf, yf, vf, wf, cf), (P, ZP, [])) hx hb hr hlocks hP hS (⟨(by show (nI 3, P, []) = _; unfold delF; rw [cif_pos hc_13, kOf_nI (by omega) (by omega), cif_neg (by rw [hsome]; exact fun z => by cases z), cif_pos (by omega)]), h0, h1⟩) dX6_delete_52
          · exact absurd c_37 (by decide)
        · skip
          have hnone := at_none h0.L hc_34 (by omega)
          refine lv_if_ne (tgt := 42) hx hb dX6_delete_37 (by decide) (fun c_37 => ?_) (fun c_37 => ?_)
          · exact absurd c_37 (by decide)
          · skip
            refine lv_iconst (v := nI 5) hx hb dX6_delete_40 (by decide) ?_
            refine wM hQ ?_
            exact rtI ((mf, xf, yf, vf, wf, cf), (P, ZP, [])) hx hb hr hlocks hP hS (⟨(by show (nI 5, P, []) = _; unfold delF; rw [cif_pos hc_13, kOf_nI (by omega) (by omega), cif_pos hnone]), h0, h1⟩) dX6_delete_41
      · exact absurd c_16 (by decide)
    · skip
      refine lv_if_ne (tgt := 21) hx hb dX6_delete_16 (by decide) (fun c_16 => ?_) (fun c_16 => ?_)
      · exact absurd c_16 (by decide)
      · skip
        refine lv_iconst (v := nI 2) hx hb dX6_delete_19 (by decide) ?_
        refine wM hQ ?_
        exact rtI ((mf, xf, yf, vf, wf, cf), (P, ZP, [])) hx hb hr hlocks hP hS (⟨(by show (nI 2, P, []) = _; unfold delF; rw [cif_neg hc_13]), h0, h1⟩) dX6_delete_20
  · exact absurd c_4 (by decide)
set_option maxHeartbeats 4000000 in
set_option maxRecDepth 100000 in
theorem c_X6_insert (l : Launch) (X : kX) (m bl bk b sp mn xr yr vr cr wr nc wl wc rx ry rv fr : Nat) (f_ar f_wt f_lv f_fi f_en f_rs : Int32) (f_cd : Int64) (x y v : Int32) (mf xf yf vf wf : Nat → Int32) (cf : Nat → Int64) (lf : Nat → Int32) (kf : Nat → Int64) (P ZP Qm ZQm : PL) (h0 : mSt b mf xf yf vf wf cf 0 P ZP) (h1 : mSt b mf xf yf vf wf cf 1 Qm ZQm) (hb1 : b ≤ 15) (hsp : sp ≤ 32768) (hsb : sp = 2 ^ b) (hnc : nc ≤ 60) (hlt : P.length < 512) (hbl : bl ≤ 400) (hbk : 1 ≤ bk) (hbk2 : bk ≤ 8) : CWi l X yX6_insert wsX6_insert 5 [.ref m, .int x, .int y, .int v] [(m, .inr (6, [.int (nI bl), .int (nI bk), .int (nI b), .int (nI sp), .ref mn, .ref xr, .ref yr, .ref vr, .ref cr, .ref wr, .int (nI nc), .int (nI 0), .int f_ar, .ref wl, .ref wc, .int f_wt, .int f_lv, .int f_fi, .int f_en, .long f_cd, .ref rx, .ref ry, .ref rv, .ref fr, .int f_rs])), (mn, .inl (X.2.1, 2, .inl mf)), (xr, .inl (X.2.1, 6600, .inl xf)), (yr, .inl (X.2.1, 6600, .inl yf)), (vr, .inl (X.2.1, 6600, .inl vf)), (cr, .inl (X.2.2, 6600, .inr (.inl cf))), (wr, .inl (X.2.1, 6600, .inl wf)), (wl, .inl (X.2.1, 80, .inl lf)), (wc, .inl (X.2.2, 80, .inr (.inl kf)))] (S := ((Nat → Int32) × (Nat → Int32) × (Nat → Int32) × (Nat → Int32) × (Nat → Int32) × (Nat → Int64)) × (((Nat → Int32) × (Nat → Int64)) × (Int32 × Int32 × Int32 × Int32 × Int64)) × (PL × PL × List Op)) (fun r u => (r, u.2.2.1, u.2.2.2.2) = insF sp bk b bl P nc x y v ∧ mSt b u.1.1 u.1.2.1 u.1.2.2.1 u.1.2.2.2.1 u.1.2.2.2.2.1 u.1.2.2.2.2.2 0 u.2.2.1 u.2.2.2.1 ∧ mSt b u.1.1 u.1.2.1 u.1.2.2.1 u.1.2.2.2.1 u.1.2.2.2.2.1 u.1.2.2.2.2.2 1 Qm ZQm) (fun ⟨⟨mf2, xf2, yf2, vf2, wf2, cf2⟩, ⟨⟨lf2, kf2⟩, ⟨g_wt, g_lv, g_fi, g_en, g_cd⟩⟩, ⟨P2, ZP2, D⟩⟩ => [(m, .inr (6, [.int (nI bl), .int (nI bk), .int (nI b), .int (nI sp), .ref mn, .ref xr, .ref yr, .ref vr, .ref cr, .ref wr, .int (nI (nc + D.length)), .int (nI 0), .int f_ar, .ref wl, .ref wc, .int g_wt, .int g_lv, .int g_fi, .int g_en, .long g_cd, .ref rx, .ref ry, .ref rv, .ref fr, .int f_rs])), (mn, .inl (X.2.1, 2, .inl mf2)), (xr, .inl (X.2.1, 6600, .inl xf2)), (yr, .inl (X.2.1, 6600, .inl yf2)), (vr, .inl (X.2.1, 6600, .inl vf2)), (cr, .inl (X.2.2, 6600, .inr (.inl cf2))), (wr, .inl (X.2.1, 6600, .inl wf2)), (wl, .inl (X.2.1, 80, .inl lf2)), (wc, .inl (X.2.2, 80, .inr (.inl kf2)))]) := by
  refine Met.ofW (cc := cX6_insert) (maxL := 5) (ret := some (.int)) (by decide) rfl ?_
  intro pz ez sz mz args below meth cz s₁ Bz hml hv
  obtain ⟨rfl, hP, hK, hD0, hN⟩ := hv
  have hx := Bz.exec
  have hb := Bz.bytes
  have hr := Bz.returns
  have hts := atoms_spec (ws := wsX6_insert) Bz.pre
  have hown : sz.vm.findClass RX6 = some mz.cls := findClass_of_methodNamed Bz.named
  have hlocks := Bz.notSynchronized
  have hD := inW.self hD0
  have hS : va_S (inW [(m, .inr (6, [.int (nI bl), .int (nI bk), .int (nI b), .int (nI sp), .ref mn, .ref xr, .ref yr, .ref vr, .ref cr, .ref wr, .int (nI nc), .int (nI 0), .int f_ar, .ref wl, .ref wc, .int f_wt, .int f_lv, .int f_fi, .int f_en, .long f_cd, .ref rx, .ref ry, .ref rv, .ref fr, .int f_rs])), (mn, .inl (X.2.1, 2, .inl mf)), (xr, .inl (X.2.1, 6600, .inl xf)), (yr, .inl (X.2.1, 6600, .inl yf)), (vr, .inl (X.2.1, 6600, .inl vf)), (cr, .inl (X.2.2, 6600, .inr (.inl cf))), (wr, .inl (X.2.1, 6600, .inl wf)), (wl, .inl (X.2.1, 80, .inl lf)), (wc, .inl (X.2.2, 80, .inr (.inl kf)))]) sz.heap sz.heap [] := va_S.rf
  have hl := lv_entry ([.ref m, .int x, .int y, .int v]) (n := 5) (Nat.le_of_ble_eq_true rfl)
  rw [lg_entry_eq]
  generalize (lg_sl ([.ref m, .int x, .int y, .int v]) ++ List.replicate (5 - (lg_sl ([.ref m, .int x, .int y, .int v])).length) Slot.unset).toArray = ls at hl ⊢
  have hl : lv_has ls 5 [(0, .ref m), (1, .int x), (2, .int y), (3, .int v)] := hl
  have lk19 := hts (.fieldLink RX6 19 "PointStoreModel" "values" "[I") (by decide +kernel)
  have lk26 := hts (.fieldLink RX6 26 "PointStoreModel" "codeValues" "[I") (by decide +kernel)
  have lk51 := hts (.fieldLink RX6 51 "PointStoreModel" "blocks" "I") (by decide +kernel)
  have lk71 := hts (.fieldLink RX6 71 "PointStoreModel" "changes" "I") (by decide +kernel)
  have lk105 := hts (.fieldLink RX6 105 "PointStoreModel" "isOff" "Z") (by decide +kernel)
  have hin6 : ∀ w ∈ u_ws RX6 TX6 25, w ∈ wsX6_insert := by decide +kernel
  refine wQ (fun Q hQ => ?_)
  generalize hAe : inW [(m, .inr (6, [.int (nI bl), .int (nI bk), .int (nI b), .int (nI sp), .ref mn, .ref xr, .ref yr, .ref vr, .ref cr, .ref wr, .int (nI nc), .int (nI 0), .int f_ar, .ref wl, .ref wc, .int f_wt, .int f_lv, .int f_fi, .int f_en, .long f_cd, .ref rx, .ref ry, .ref rv, .ref fr, .int f_rs])), (mn, .inl (X.2.1, 2, .inl mf)), (xr, .inl (X.2.1, 6600, .inl xf)), (yr, .inl (X.2.1, 6600, .inl yf)), (vr, .inl (X.2.1, 6600, .inl vf)), (cr, .inl (X.2.2, 6600, .inr (.inl cf))), (wr, .inl (X.2.1, 6600, .inl wf)), (wl, .inl (X.2.1, 80, .inl lf)), (wc, .inl (X.2.2, 80, .inr (.inl kf)))] = A_ at hD hS hQ
  refine lv_aload_n hx hb dX6_insert_0 rfl (lv_at hl 0 rfl) ?_
  refine va_get (D := X.1) (ci := 6) (v := .int (nI 0)) (C := RX6) (T := TX6) (N := 25) hx hb hts hin6 hown hK hP 0 rfl rfl 11 (by decide) lk105 (fun _ h9 => h9) rfl dX6_insert_1 ?_
  refine lv_if_eq (tgt := 10) hx hb dX6_insert_4 (by decide) (fun c_4 => ?_) (fun c_4 => ?_)
  · skip
    refine lv_aload_n hx hb dX6_insert_10 rfl (lv_at hl 0 rfl) ?_
    refine lv_iload_n hx hb dX6_insert_11 rfl (lv_at hl 1 rfl) ?_
    refine lv_iload_n hx hb dX6_insert_12 rfl (lv_at hl 2 rfl) ?_
    refine ckVRi (As := [.int x, .int y]) (rest := []) 0 [0] (c_X6_isInside l X m bl bk b sp mn xr yr vr cr wr nc wl wc rx ry rv fr (nI 0) f_ar f_wt f_lv f_fi f_en f_rs f_cd x y) ⟨hx, hb, hml, hown, hts⟩ (cwV 2 hts gX6_insert_X6_isInside rfl rfl rfl (by decide +kernel) ⟨Nat.le_of_ble_eq_true rfl, Nat.le_of_ble_eq_true rfl⟩) hK hN hP hD (by decide) rfl (ci := 6) rfl rfl rfl hl.1 rfl (Nat.le_of_ble_eq_true rfl) dX6_insert_13 ⟨Nat.zero_le _, Nat.zero_le _⟩ (fun r_1 hc_13 => ?_)
    rcases hc_13 with ⟨hc_13, rfl⟩ | ⟨hc_13, rfl⟩
    · skip
      obtain ⟨xa, ya, hxa, hya, rfl, rfl⟩ := onp_of hc_13 hsp
      have hkin : (xa * 32768 + ya) / 32768 < 2 ^ b ∧ (xa * 32768 + ya) % 32768 < 2 ^ b := by omega
      refine lv_if_eq (tgt := 23) hx hb dX6_insert_16 (by decide) (fun c_16 => ?_) (fun c_16 => ?_)
      · exact absurd c_16 (by decide)
      · skip
        refine lv_iload_n hx hb dX6_insert_19 rfl (lv_at hl 3 rfl) ?_
        refine lv_if_ge (tgt := 25) hx hb dX6_insert_20 (by decide) (fun c_20 => ?_) (fun c_20 => ?_)
        · skip
          obtain ⟨vv, hvv, rfl⟩ := nI_of (ge_nlt c_20)
          refine lv_aload_n hx hb dX6_insert_25 rfl (lv_at hl 0 rfl) ?_
          refine va_get (D := X.1) (ci := 6) (v := .int (nI nc)) (C := RX6) (T := TX6) (N := 25) hx hb hts hin6 hown hK hP 0 rfl rfl 10 (by decide) lk71 (fun _ h9 => h9) rfl dX6_insert_26 ?_
          refine lv_bipush (v := nI 60) hx hb dX6_insert_29 (by decide) ?_
          refine lv_icmp_ne (tgt := 36) hx hb dX6_insert_31 (by decide) (fun c_31 => ?_) (fun c_31 => ?_)
          · replace c_31 : ¬ nc = 60 := fun h9 => c_31 ((nI_eq (by omega) (by omega)).mpr h9)
            refine lv_aload_n hx hb dX6_insert_36 rfl (lv_at hl 0 rfl) ?_
            refine lv_iconst (v := nI 0) hx hb dX6_insert_37 (by decide) ?_
            refine lv_iload_n hx hb dX6_insert_38 rfl (lv_at hl 1 rfl) ?_
            refine lv_iload_n hx hb dX6_insert_39 rfl (lv_at hl 2 rfl) ?_
            refine ckVRi (As := [.int (nI 0), .int (nI xa), .int (nI ya)]) (rest := []) 0 [0, 1, 2, 3] (c_X6_placeOf l X m bl bk b sp mn xr yr vr cr wr nc wl wc rx ry rv fr (nI 0) f_ar f_wt f_lv f_fi f_en f_rs f_cd 0 (nI xa) (nI ya) mf xf yf P (by decide) h0.m h0.X h0.L) ⟨hx, hb, hml, hown, hts⟩ (cwV 3 hts gX6_insert_X6_placeOf rfl rfl rfl (by decide +kernel) ⟨Nat.le_of_ble_eq_true rfl, Nat.le_of_ble_eq_true rfl⟩) hK hN hP hD (by decide) rfl (ci := 6) rfl rfl rfl hl.1 rfl (Nat.le_of_ble_eq_true rfl) dX6_insert_40 ⟨Nat.zero_le _, Nat.zero_le _⟩ (fun r_2 hc_40 => ?_)
            obtain ⟨kk, rfl, hpl⟩ := hc_40
            obtain rfl := plAt_rk h0.L (by omega) (by omega) hpl
            have hrl := rk_le P (xa * 32768 + ya)
            refine lv_istore (lv' := [(4, .int (nI (rk P (xa * 32768 + ya)))), (0, .ref m), (1, .int (nI xa)), (2, .int (nI ya)), (3, .int (nI vv))]) hx hb dX6_insert_43 hl (by decide) rfl (fun ls hl => ?_)
            refine lv_aload_n hx hb dX6_insert_45 rfl (lv_at hl 1 rfl) ?_
            refine lv_iconst (v := nI 0) hx hb dX6_insert_46 (by decide) ?_
            refine lv_iload hx hb dX6_insert_47 (lv_at hl 0 rfl) ?_
            refine lv_iload_n hx hb dX6_insert_49 rfl (lv_at hl 2 rfl) ?_
            refine lv_iload_n hx hb dX6_insert_50 rfl (lv_at hl 3 rfl) ?_
            refine ckVRi (As := [.int (nI 0), .int (nI (rk P (xa * 32768 + ya))), .int (nI xa), .int (nI ya)]) (rest := []) 0 [0, 1, 2, 3] (c_X6_isAt l X m bl bk b sp mn xr yr vr cr wr nc wl wc rx ry rv fr (nI 0) f_ar f_wt f_lv f_fi f_en f_rs f_cd 0 (rk P (xa * 32768 + ya)) (nI xa) (nI ya) mf xf yf P (by decide) hrl h0.m h0.X h0.L) ⟨hx, hb, hml, hown, hts⟩ (cwV 4 hts gX6_insert_X6_isAt rfl rfl rfl (by decide +kernel) ⟨Nat.le_of_ble_eq_true rfl, Nat.le_of_ble_eq_true rfl⟩) hK hN hP hD (by decide) rfl (ci := 6) rfl rfl rfl hl.1 rfl (Nat.le_of_ble_eq_true rfl) dX6_insert_51 ⟨Nat.zero_le _, Nat.zero_le _⟩ (fun r_3 hc_51 => ?_)
            rcases hc_51 with ⟨hc_51, rfl⟩ | ⟨hc_51, rfl⟩
            · skip
              have hsome := at_some h0.L (by omega) (by omega) hc_51
              refine lv_if_eq (tgt := 94) hx hb dX6_insert_54 (by decide) (fun c_54 => ?_) (fun c_54 => ?_)
              · exact absurd c_54 (by decide)
              · skip
                refine lv_aload_n hx hb dX6_insert_57 rfl (lv_at hl 1 rfl) ?_
                refine va_get (D := X.1) (ci := 6) (v := .ref vr) (C := RX6) (T := TX6) (N := 25) hx hb hts hin6 hown hK hP 0 rfl rfl 7 (by decide) lk19 (fun _ h9 => h9) rfl dX6_insert_58 ?_
                refine lv_iload hx hb dX6_insert_61 (lv_at hl 0 rfl) ?_
                refine lv_iload_n hx hb dX6_insert_63 rfl (lv_at hl 4 rfl) ?_
                have hpl7 := h0.L.1
                have hi_4 : vp_in (nI (rk P (xa * 32768 + ya))) 6600 := vp_in_nI (by omega) (by omega)
                refine va_iast hx hb hK hP hD hS 4 0 rfl rfl hi_4 dX6_insert_64 (fun H locs hP hD hS => ?_)
                rw [nI_clamp (by omega)] at hP hD
                have hP : va_P X.1 vwCl [(m, .inr (6, [.int (nI bl), .int (nI bk), .int (nI b), .int (nI sp), .ref mn, .ref xr, .ref yr, .ref vr, .ref cr, .ref wr, .int (nI nc), .int (nI 0), .int f_ar, .ref wl, .ref wc, .int f_wt, .int f_lv, .int f_fi, .int f_en, .long f_cd, .ref rx, .ref ry, .ref rv, .ref fr, .int f_rs])), (mn, .inl (X.2.1, 2, .inl mf)), (xr, .inl (X.2.1, 6600, .inl xf)), (yr, .inl (X.2.1, 6600, .inl yf)), (vr, .inl (X.2.1, 6600, .inl (upd vf (rk P (xa * 32768 + ya)) (nI vv)))), (cr, .inl (X.2.2, 6600, .inr (.inl cf))), (wr, .inl (X.2.1, 6600, .inl wf)), (wl, .inl (X.2.1, 80, .inl lf)), (wc, .inl (X.2.2, 80, .inr (.inl kf)))] H := hP
                have hD : va_D A_ [(m, .inr (6, [.int (nI bl), .int (nI bk), .int (nI b), .int (nI sp), .ref mn, .ref xr, .ref yr, .ref vr, .ref cr, .ref wr, .int (nI nc), .int (nI 0), .int f_ar, .ref wl, .ref wc, .int f_wt, .int f_lv, .int f_fi, .int f_en, .long f_cd, .ref rx, .ref ry, .ref rv, .ref fr, .int f_rs])), (mn, .inl (X.2.1, 2, .inl mf)), (xr, .inl (X.2.1, 6600, .inl xf)), (yr, .inl (X.2.1, 6600, .inl yf)), (vr, .inl (X.2.1, 6600, .inl (upd vf (rk P (xa * 32768 + ya)) (nI vv)))), (cr, .inl (X.2.2, 6600, .inr (.inl cf))), (wr, .inl (X.2.1, 6600, .inl wf)), (wl, .inl (X.2.1, 80, .inl lf)), (wc, .inl (X.2.2, 80, .inr (.inl kf)))] := hD
                refine lv_aload_n hx hb dX6_insert_65 rfl (lv_at hl 1 rfl) ?_
                refine va_get (D := X.1) (ci := 6) (v := .ref wr) (C := RX6) (T := TX6) (N := 25) hx hb hts hin6 hown hK hP 0 rfl rfl 9 (by decide) lk26 (fun _ h9 => h9) rfl dX6_insert_66 ?_
                refine lv_aload_n hx hb dX6_insert_69 rfl (lv_at hl 1 rfl) ?_
                refine lv_iconst (v := nI 0) hx hb dX6_insert_70 (by decide) ?_
                refine lv_aload_n hx hb dX6_insert_71 rfl (lv_at hl 1 rfl) ?_
                refine lv_iload_n hx hb dX6_insert_72 rfl (lv_at hl 2 rfl) ?_
                refine lv_iload_n hx hb dX6_insert_73 rfl (lv_at hl 3 rfl) ?_
                refine ckVRl (As := [.int (nI xa), .int (nI ya)]) (rest := [.int (nI 0), .ref m, .ref wr]) 0 [0] (c_X6_codeOf l X m bl bk b sp mn xr yr vr cr wr nc wl wc rx ry rv fr (nI 0) f_ar f_wt f_lv f_fi f_en f_rs f_cd xa ya hb1 (by omega) (by omega)) ⟨hx, hb, hml, hown, hts⟩ (cwV 2 hts gX6_insert_X6_codeOf rfl rfl rfl (by decide +kernel) ⟨Nat.le_of_ble_eq_true rfl, Nat.le_of_ble_eq_true rfl⟩) hK hN hP hD (by decide) rfl (ci := 6) rfl rfl rfl hl.1 rfl (Nat.le_of_ble_eq_true rfl) dX6_insert_74 ⟨Nat.zero_le _, Nat.zero_le _⟩ (fun r_5 hc_74 => ?_)
                obtain rfl : r_5 = lN (zk b (xa * 32768 + ya)) := hc_74.trans (by unfold zk; rw [show (xa * 32768 + ya) / 32768 = xa by omega, show (xa * 32768 + ya) % 32768 = ya by omega])
                refine ckVRi (As := [.int (nI 0), .long (lN (zk b (xa * 32768 + ya)))]) (rest := [.ref wr]) 0 [0, 1, 5] (c_X6_below l X m bl bk b sp mn xr yr vr cr wr nc wl wc rx ry rv fr (nI 0) f_ar f_wt f_lv f_fi f_en f_rs f_cd 0 (zk b (xa * 32768 + ya)) mf cf ZP (by decide) (by have := zk_lt b (xa * 32768 + ya); have : 4 ^ b ≤ 4 ^ 15 := Nat.pow_le_pow_right (by decide) hb1; omega) h0.mz h0.C h0.Z.1 (by rw [h0.Z.len]; exact h0.L.1) (h0.Z.b hb1)) ⟨hx, hb, hml, hown, hts⟩ (cwV 2 hts gX6_insert_X6_below rfl rfl rfl (by decide +kernel) ⟨Nat.le_of_ble_eq_true rfl, Nat.le_of_ble_eq_true rfl⟩) hK hN hP hD (by decide) rfl (ci := 6) rfl rfl rfl hl.1 rfl (Nat.le_of_ble_eq_true rfl) dX6_insert_77 ⟨Nat.zero_le _, Nat.zero_le _⟩ (fun r_6 hc_77 => ?_)
                subst hc_77
                refine lv_iload_n hx hb dX6_insert_80 rfl (lv_at hl 4 rfl) ?_
                have hzl8 := rk_le ZP (zk b (xa * 32768 + ya))
                have hzl7 := h0.Z.len
                have hpl7 := h0.L.1
                have hi_7 : vp_in (nI (rk ZP (zk b (xa * 32768 + ya)))) 6600 := vp_in_nI (by omega) (by omega)
                refine va_iast hx hb hK hP hD hS 6 0 rfl rfl hi_7 dX6_insert_81 (fun H locs hP hD hS => ?_)
                rw [nI_clamp (by omega)] at hP hD
                have hP : va_P X.1 vwCl [(m, .inr (6, [.int (nI bl), .int (nI bk), .int (nI b), .int (nI sp), .ref mn, .ref xr, .ref yr, .ref vr, .ref cr, .ref wr, .int (nI nc), .int (nI 0), .int f_ar, .ref wl, .ref wc, .int f_wt, .int f_lv, .int f_fi, .int f_en, .long f_cd, .ref rx, .ref ry, .ref rv, .ref fr, .int f_rs])), (mn, .inl (X.2.1, 2, .inl mf)), (xr, .inl (X.2.1, 6600, .inl xf)), (yr, .inl (X.2.1, 6600, .inl yf)), (vr, .inl (X.2.1, 6600, .inl (upd vf (rk P (xa * 32768 + ya)) (nI vv)))), (cr, .inl (X.2.2, 6600, .inr (.inl cf))), (wr, .inl (X.2.1, 6600, .inl (upd wf (rk ZP (zk b (xa * 32768 + ya))) (nI vv)))), (wl, .inl (X.2.1, 80, .inl lf)), (wc, .inl (X.2.2, 80, .inr (.inl kf)))] H := hP
                have hD : va_D A_ [(m, .inr (6, [.int (nI bl), .int (nI bk), .int (nI b), .int (nI sp), .ref mn, .ref xr, .ref yr, .ref vr, .ref cr, .ref wr, .int (nI nc), .int (nI 0), .int f_ar, .ref wl, .ref wc, .int f_wt, .int f_lv, .int f_fi, .int f_en, .long f_cd, .ref rx, .ref ry, .ref rv, .ref fr, .int f_rs])), (mn, .inl (X.2.1, 2, .inl mf)), (xr, .inl (X.2.1, 6600, .inl xf)), (yr, .inl (X.2.1, 6600, .inl yf)), (vr, .inl (X.2.1, 6600, .inl (upd vf (rk P (xa * 32768 + ya)) (nI vv)))), (cr, .inl (X.2.2, 6600, .inr (.inl cf))), (wr, .inl (X.2.1, 6600, .inl (upd wf (rk ZP (zk b (xa * 32768 + ya))) (nI vv)))), (wl, .inl (X.2.1, 80, .inl lf)), (wc, .inl (X.2.2, 80, .inr (.inl kf)))] := hD
                refine lv_aload_n hx hb dX6_insert_82 rfl (lv_at hl 1 rfl) ?_
                refine lv_aload_n hx hb dX6_insert_83 rfl (lv_at hl 1 rfl) ?_
                refine va_get (D := X.1) (ci := 6) (v := .int (nI nc)) (C := RX6) (T := TX6) (N := 25) hx hb hts hin6 hown hK hP 0 rfl rfl 10 (by decide) lk71 (fun _ h9 => h9) rfl dX6_insert_84 ?_
                refine lv_iconst (v := nI 1) hx hb dX6_insert_87 (by decide) ?_
                refine lv_iadd hx hb dX6_insert_88 ?_
                refine lv_topi (fun x_8 ex_8 => ?_)
                obtain rfl : x_8 = nI (nc + 1) := by
                  rw [ex_8]
                  exact nI_add _ _
                refine va_put (D := X.1) (ci := 6) (v := .int (nI (nc + 1))) (ty := .int) (C := RX6) (T := TX6) (N := 25) hx hb hts hin6 tyX6 tyX6_ok nmX6 hown hK hP hD hS 0 rfl rfl 10 (by decide) lk71 (fun _ h9 => h9) rfl (by decide +kernel) rfl rfl (Nat.le_of_ble_eq_true rfl) dX6_insert_89 (fun H locs hP hD hS => ?_)
                have hP : va_P X.1 vwCl [(m, .inr (6, [.int (nI bl), .int (nI bk), .int (nI b), .int (nI sp), .ref mn, .ref xr, .ref yr, .ref vr, .ref cr, .ref wr, .int (nI (nc + 1)), .int (nI 0), .int f_ar, .ref wl, .ref wc, .int f_wt, .int f_lv, .int f_fi, .int f_en, .long f_cd, .ref rx, .ref ry, .ref rv, .ref fr, .int f_rs])), (mn, .inl (X.2.1, 2, .inl mf)), (xr, .inl (X.2.1, 6600, .inl xf)), (yr, .inl (X.2.1, 6600, .inl yf)), (vr, .inl (X.2.1, 6600, .inl (upd vf (rk P (xa * 32768 + ya)) (nI vv)))), (cr, .inl (X.2.2, 6600, .inr (.inl cf))), (wr, .inl (X.2.1, 6600, .inl (upd wf (rk ZP (zk b (xa * 32768 + ya))) (nI vv)))), (wl, .inl (X.2.1, 80, .inl lf)), (wc, .inl (X.2.2, 80, .inr (.inl kf)))] H := hP
                have hD : va_D A_ [(m, .inr (6, [.int (nI bl), .int (nI bk), .int (nI b), .int (nI sp), .ref mn, .ref xr, .ref yr, .ref vr, .ref cr, .ref wr, .int (nI (nc + 1)), .int (nI 0), .int f_ar, .ref wl, .ref wc, .int f_wt, .int f_lv, .int f_fi, .int f_en, .long f_cd, .ref rx, .ref ry, .ref rv, .ref fr, .int f_rs])), (mn, .inl (X.2.1, 2, .inl mf)), (xr, .inl (X.2.1, 6600, .inl xf)), (yr, .inl (X.2.1, 6600, .inl yf)), (vr, .inl (X.2.1, 6600, .inl (upd vf (rk P (xa * 32768 + ya)) (nI vv)))), (cr, .inl (X.2.2, 6600, .inr (.inl cf))), (wr, .inl (X.2.1, 6600, .inl (upd wf (rk ZP (zk b (xa * 32768 + ya))) (nI vv)))), (wl, .inl (X.2.1, 80, .inl lf)), (wc, .inl (X.2.2, 80, .inr (.inl kf)))] := hD
                refine lv_iconst (v := nI 1) hx hb dX6_insert_92 (by decide) ?_
                have hzl9 := rk_le ZP (zk b (xa * 32768 + ya))
                have hk1 := st_keep (mf2 := mf) (xf2 := xf) (yf2 := yf) (vf2 := upd vf (rk P (xa * 32768 + ya)) (nI vv)) (wf2 := upd wf (rk ZP (zk b (xa * 32768 + ya))) (nI vv)) (cf2 := cf) h1 rfl (fun j ha hb => ⟨rfl, rfl, pk_un (by omega), pk_un (by omega), rfl⟩)
                refine wM hQ ?_
                exact rtI ((mf, xf, yf, upd vf (rk P (xa * 32768 + ya)) (nI vv), upd wf (rk ZP (zk b (xa * 32768 + ya))) (nI vv), cf), ((lf, kf), (f_wt, f_lv, f_fi, f_en, f_cd)), (pput P (xa * 32768 + ya) vv, pput ZP (zk b (xa * 32768 + ya)) vv, [some (xa * 32768 + ya, some vv)])) hx hb hr hlocks hP hS (⟨(by show (nI 1, pput P (xa * 32768 + ya) vv, [some (xa * 32768 + ya, some vv)]) = _; unfold insF; rw [cif_pos ⟨hc_13, nI_pos hvv⟩, cif_neg (by omega), kOf_nI (by omega) (by omega), nI_clamp hvv, cif_neg (by rw [hsome]; exact fun z => by cases z)]), st_set h0 hsome hkin (by omega) hvv, hk1⟩) dX6_insert_93
            · skip
              have hnone := at_none h0.L hc_51 (by omega)
              refine lv_if_eq (tgt := 94) hx hb dX6_insert_54 (by decide) (fun c_54 => ?_) (fun c_54 => ?_)
              · skip
                refine lv_aload_n hx hb dX6_insert_94 rfl (lv_at hl 1 rfl) ?_
                refine lv_iload hx hb dX6_insert_95 (lv_at hl 0 rfl) ?_
                refine lv_iload_n hx hb dX6_insert_97 rfl (lv_at hl 2 rfl) ?_
                refine lv_iload_n hx hb dX6_insert_98 rfl (lv_at hl 3 rfl) ?_
                refine lv_iload_n hx hb dX6_insert_99 rfl (lv_at hl 4 rfl) ?_
                refine ckVv (As := [.int (nI (rk P (xa * 32768 + ya))), .int (nI xa), .int (nI ya), .int (nI vv)]) (rest := []) 0 [0, 1, 2, 3, 4, 5, 6] (c_X6_puts l X m bl bk b sp mn xr yr vr cr wr nc wl wc rx ry rv fr (nI 0) f_ar f_wt f_lv f_fi f_en f_rs f_cd (rk P (xa * 32768 + ya)) xa ya vv mf xf yf vf wf cf P ZP Qm ZQm h0 h1 rfl hnone hlt (by omega) (by omega) hb1 hvv) ⟨hx, hb, hml, hown, hts⟩ (cwV 4 hts gX6_insert_X6_puts rfl rfl rfl (by decide +kernel) ⟨Nat.le_of_ble_eq_true rfl, Nat.le_of_ble_eq_true rfl⟩) hK hN hP hD hS (by decide) rfl (ci := 6) rfl rfl (fun _ => rfl) rfl hl.1 rfl (Nat.le_of_ble_eq_true rfl) dX6_insert_100 ⟨Nat.zero_le _, Nat.zero_le _⟩ (fun u_9 H locs hpu hP hD hS => ?_)
                obtain ⟨mf2, xf2, yf2, vf2, wf2, cf2⟩ := u_9
                have hP : va_P X.1 vwCl [(m, .inr (6, [.int (nI bl), .int (nI bk), .int (nI b), .int (nI sp), .ref mn, .ref xr, .ref yr, .ref vr, .ref cr, .ref wr, .int (nI nc), .int (nI 0), .int f_ar, .ref wl, .ref wc, .int f_wt, .int f_lv, .int f_fi, .int f_en, .long f_cd, .ref rx, .ref ry, .ref rv, .ref fr, .int f_rs])), (mn, .inl (X.2.1, 2, .inl mf2)), (xr, .inl (X.2.1, 6600, .inl xf2)), (yr, .inl (X.2.1, 6600, .inl yf2)), (vr, .inl (X.2.1, 6600, .inl vf2)), (cr, .inl (X.2.2, 6600, .inr (.inl cf2))), (wr, .inl (X.2.1, 6600, .inl wf2)), (wl, .inl (X.2.1, 80, .inl lf)), (wc, .inl (X.2.2, 80, .inr (.inl kf)))] H := hP
                have hD : va_D A_ [(m, .inr (6, [.int (nI bl), .int (nI bk), .int (nI b), .int (nI sp), .ref mn, .ref xr, .ref yr, .ref vr, .ref cr, .ref wr, .int (nI nc), .int (nI 0), .int f_ar, .ref wl, .ref wc, .int f_wt, .int f_lv, .int f_fi, .int f_en, .long f_cd, .ref rx, .ref ry, .ref rv, .ref fr, .int f_rs])), (mn, .inl (X.2.1, 2, .inl mf2)), (xr, .inl (X.2.1, 6600, .inl xf2)), (yr, .inl (X.2.1, 6600, .inl yf2)), (vr, .inl (X.2.1, 6600, .inl vf2)), (cr, .inl (X.2.2, 6600, .inr (.inl cf2))), (wr, .inl (X.2.1, 6600, .inl wf2)), (wl, .inl (X.2.1, 80, .inl lf)), (wc, .inl (X.2.2, 80, .inr (.inl kf)))] := hD
                try dsimp only at hpu
                refine lv_aload_n hx hb dX6_insert_103 rfl (lv_at hl 1 rfl) ?_
                refine lv_iconst (v := nI 0) hx hb dX6_insert_104 (by decide) ?_
                refine ckVi (As := [.int (nI 0)]) (rest := []) 0 [0, 1, 5, 7, 8] (c_X6_nodes l X m bl bk b sp mn xr yr vr cr wr nc wl wc rx ry rv fr (nI 0) f_ar f_wt f_lv f_fi f_en f_rs f_cd 0 mf2 cf2 (pput P (xa * 32768 + ya) vv) (pput ZP (zk b (xa * 32768 + ya)) vv) (by decide) hpu.1.mz hpu.1.C hpu.1.Z hpu.1.I hpu.1.L hb1 lf kf hbk hbk2) ⟨hx, hb, hml, hown, hts⟩ (cwV 1 hts gX6_insert_X6_nodes rfl rfl rfl (by decide +kernel) ⟨Nat.le_of_ble_eq_true rfl, Nat.le_of_ble_eq_true rfl⟩) hK hN hP hD hS (by decide) rfl (ci := 6) rfl rfl (fun _ => rfl) rfl hl.1 rfl (Nat.le_of_ble_eq_true rfl) dX6_insert_105 ⟨Nat.zero_le _, Nat.zero_le _⟩ (fun r_12 u_11 H locs hc_105 hP hD hS => ?_)
                obtain ⟨⟨lf2, kf2⟩, ⟨g_wt, g_lv, g_fi, g_en, g_cd⟩⟩ := u_11
                have hP : va_P X.1 vwCl [(m, .inr (6, [.int (nI bl), .int (nI bk), .int (nI b), .int (nI sp), .ref mn, .ref xr, .ref yr, .ref vr, .ref cr, .ref wr, .int (nI nc), .int (nI 0), .int f_ar, .ref wl, .ref wc, .int g_wt, .int g_lv, .int g_fi, .int g_en, .long g_cd, .ref rx, .ref ry, .ref rv, .ref fr, .int f_rs])), (mn, .inl (X.2.1, 2, .inl mf2)), (xr, .inl (X.2.1, 6600, .inl xf2)), (yr, .inl (X.2.1, 6600, .inl yf2)), (vr, .inl (X.2.1, 6600, .inl vf2)), (cr, .inl (X.2.2, 6600, .inr (.inl cf2))), (wr, .inl (X.2.1, 6600, .inl wf2)), (wl, .inl (X.2.1, 80, .inl lf2)), (wc, .inl (X.2.2, 80, .inr (.inl kf2)))] H := hP
                have hD : va_D A_ [(m, .inr (6, [.int (nI bl), .int (nI bk), .int (nI b), .int (nI sp), .ref mn, .ref xr, .ref yr, .ref vr, .ref cr, .ref wr, .int (nI nc), .int (nI 0), .int f_ar, .ref wl, .ref wc, .int g_wt, .int g_lv, .int g_fi, .int g_en, .long g_cd, .ref rx, .ref ry, .ref rv, .ref fr, .int f_rs])), (mn, .inl (X.2.1, 2, .inl mf2)), (xr, .inl (X.2.1, 6600, .inl xf2)), (yr, .inl (X.2.1, 6600, .inl yf2)), (vr, .inl (X.2.1, 6600, .inl vf2)), (cr, .inl (X.2.2, 6600, .inr (.inl cf2))), (wr, .inl (X.2.1, 6600, .inl wf2)), (wl, .inl (X.2.1, 80, .inl lf2)), (wc, .inl (X.2.2, 80, .inr (.inl kf2)))] := hD
                try dsimp only at hc_105
                subst hc_105
                refine lv_aload_n hx hb dX6_insert_108 rfl (lv_at hl 1 rfl) ?_
                refine va_get (D := X.1) (ci := 6) (v := .int (nI bl)) (C := RX6) (T := TX6) (N := 25) hx hb hts hin6 hown hK hP 0 rfl rfl 0 (by decide) lk51 (fun _ h9 => h9) rfl dX6_insert_109 ?_
                have htl := tr_len_lt (bk := bk) (b := b) hpu.1.L hpu.1.I hb1
                refine lv_icmp_le (tgt := 123) hx hb dX6_insert_112 (by decide) (fun c_112 => ?_) (fun c_112 => ?_)
                · replace c_112 : ((tr bk b 0 0 (pput P (xa * 32768 + ya) vv)).length) ≤ bl := (nI_leI (by omega) (by omega)).mp c_112
                  refine lv_aload_n hx hb dX6_insert_123 rfl (lv_at hl 1 rfl) ?_
                  refine lv_aload_n hx hb dX6_insert_124 rfl (lv_at hl 1 rfl) ?_
                  refine va_get (D := X.1) (ci := 6) (v := .int (nI nc)) (C := RX6) (T := TX6) (N := 25) hx hb hts hin6 hown hK hP 0 rfl rfl 10 (by decide) lk71 (fun _ h9 => h9) rfl dX6_insert_125 ?_
                  refine lv_iconst (v := nI 1) hx hb dX6_insert_128 (by decide) ?_
                  refine lv_iadd hx hb dX6_insert_129 ?_
                  refine lv_topi (fun x_13 ex_13 => ?_)
                  obtain rfl : x_13 = nI (nc + 1) := by
                    rw [ex_13]
                    exact nI_add _ _
                  refine va_put (D := X.1) (ci := 6) (v := .int (nI (nc + 1))) (ty := .int) (C := RX6) (T := TX6) (N := 25) hx hb hts hin6 tyX6 tyX6_ok nmX6 hown hK hP hD hS 0 rfl rfl 10 (by decide) lk71 (fun _ h9 => h9) rfl (by decide +kernel) rfl rfl (Nat.le_of_ble_eq_true rfl) dX6_insert_130 (fun H locs hP hD hS => ?_)
                  have hP : va_P X.1 vwCl [(m, .inr (6, [.int (nI bl), .int (nI bk), .int (nI b), .int (nI sp), .ref mn, .ref xr, .ref yr, .ref vr, .ref cr, .ref wr, .int (nI (nc + 1)), .int (nI 0), .int f_ar, .ref wl, .ref wc, .int g_wt, .int g_lv, .int g_fi, .int g_en, .long g_cd, .ref rx, .ref ry, .ref rv, .ref fr, .int f_rs])), (mn, .inl (X.2.1, 2, .inl mf2)), (xr, .inl (X.2.1, 6600, .inl xf2)), (yr, .inl (X.2.1, 6600, .inl yf2)), (vr, .inl (X.2.1, 6600, .inl vf2)), (cr, .inl (X.2.2, 6600, .inr (.inl cf2))), (wr, .inl (X.2.1, 6600, .inl wf2)), (wl, .inl (X.2.1, 80, .inl lf2)), (wc, .inl (X.2.2, 80, .inr (.inl kf2)))] H := hP
                  have hD : va_D A_ [(m, .inr (6, [.int (nI bl), .int (nI bk), .int (nI b), .int (nI sp), .ref mn, .ref xr, .ref yr, .ref vr, .ref cr, .ref wr, .int (nI (nc + 1)), .int (nI 0), .int f_ar, .ref wl, .ref wc, .int g_wt, .int g_lv, .int g_fi, .int g_en, .long g_cd, .ref rx, .ref ry, .ref rv, .ref fr, .int f_rs])), (mn, .inl (X.2.1, 2, .inl mf2)), (xr, .inl (X.2.1, 6600, .inl xf2)), (yr, .inl (X.2.1, 6600, .inl yf2)), (vr, .inl (X.2.1, 6600, .inl vf2)), (cr, .inl (X.2.2, 6600, .inr (.inl cf2))), (wr, .inl (X.2.1, 6600, .inl wf2)), (wl, .inl (X.2.1, 80, .inl lf2)), (wc, .inl (X.2.2, 80, .inr (.inl kf2)))] := hD
                  refine lv_iconst (v := nI 0) hx hb dX6_insert_133 (by decide) ?_
                  refine wM hQ ?_
                  exact rtI ((mf2, xf2, yf2, vf2, wf2, cf2), ((lf2, kf2), (g_wt, g_lv, g_fi, g_en, g_cd)), (pput P (xa * 32768 + ya) vv, pput ZP (zk b (xa * 32768 + ya)) vv, [some (xa * 32768 + ya, some vv)])) hx hb hr hlocks hP hS (⟨(by show (nI 0, pput P (xa * 32768 + ya) vv, [some (xa * 32768 + ya, some vv)]) = _; unfold insF; rw [cif_pos ⟨hc_13, nI_pos hvv⟩, cif_neg (by omega), kOf_nI (by omega) (by omega), nI_clamp hvv, cif_pos hnone, cif_neg (by omega)]), hpu⟩) dX6_insert_134
                · replace c_112 : ¬ ((tr bk b 0 0 (pput P (xa * 32768 + ya) vv)).length) ≤ bl := fun h9 => c_112 ((nI_leI (by omega) (by omega)).mpr h9)
                  refine lv_aload_n hx hb dX6_insert_115 rfl (lv_at hl 1 rfl) ?_
                  refine lv_iload hx hb dX6_insert_116 (lv_at hl 0 rfl) ?_
                  refine ckVv (As := [.int (nI (rk P (xa * 32768 + ya)))]) (rest := []) 0 [0, 1, 2, 3, 4, 5, 6] (c_X6_takes l X m bl bk b sp mn xr yr vr cr wr nc wl wc rx ry rv fr (nI 0) f_ar g_wt g_lv g_fi g_en f_rs g_cd (rk P (xa * 32768 + ya)) (xa * 32768 + ya) vv mf2 xf2 yf2 vf2 wf2 cf2 (pput P (xa * 32768 + ya) vv) (pput ZP (zk b (xa * 32768 + ya)) vv) Qm ZQm hpu.1 hpu.2 (by rw [rk_pput h0.L.2.1]) (by rw [lkp_pput h0.L.2.1, if_pos rfl]) hkin hb1) ⟨hx, hb, hml, hown, hts⟩ (cwV 1 hts gX6_insert_X6_takes rfl rfl rfl (by decide +kernel) ⟨Nat.le_of_ble_eq_true rfl, Nat.le_of_ble_eq_true rfl⟩) hK hN hP hD hS (by decide) rfl (ci := 6) rfl rfl (fun _ => rfl) rfl hl.1 rfl (Nat.le_of_ble_eq_true rfl) dX6_insert_118 ⟨Nat.zero_le _, Nat.zero_le _⟩ (fun u_14 H locs htk hP hD hS => ?_)
                  obtain ⟨mf3, xf3, yf3, vf3, wf3, cf3⟩ := u_14
                  have hP : va_P X.1 vwCl [(m, .inr (6, [.int (nI bl), .int (nI bk), .int (nI b), .int (nI sp), .ref mn, .ref xr, .ref yr, .ref vr, .ref cr, .ref wr, .int (nI nc), .int (nI 0), .int f_ar, .ref wl, .ref wc, .int g_wt, .int g_lv, .int g_fi, .int g_en, .long g_cd, .ref rx, .ref ry, .ref rv, .ref fr, .int f_rs])), (mn, .inl (X.2.1, 2, .inl mf3)), (xr, .inl (X.2.1, 6600, .inl xf3)), (yr, .inl (X.2.1, 6600, .inl yf3)), (vr, .inl (X.2.1, 6600, .inl vf3)), (cr, .inl (X.2.2, 6600, .inr (.inl cf3))), (wr, .inl (X.2.1, 6600, .inl wf3)), (wl, .inl (X.2.1, 80, .inl lf2)), (wc, .inl (X.2.2, 80, .inr (.inl kf2)))] H := hP
                  have hD : va_D A_ [(m, .inr (6, [.int (nI bl), .int (nI bk), .int (nI b), .int (nI sp), .ref mn, .ref xr, .ref yr, .ref vr, .ref cr, .ref wr, .int (nI nc), .int (nI 0), .int f_ar, .ref wl, .ref wc, .int g_wt, .int g_lv, .int g_fi, .int g_en, .long g_cd, .ref rx, .ref ry, .ref rv, .ref fr, .int f_rs])), (mn, .inl (X.2.1, 2, .inl mf3)), (xr, .inl (X.2.1, 6600, .inl xf3)), (yr, .inl (X.2.1, 6600, .inl yf3)), (vr, .inl (X.2.1, 6600, .inl vf3)), (cr, .inl (X.2.2, 6600, .inr (.inl cf3))), (wr, .inl (X.2.1, 6600, .inl wf3)), (wl, .inl (X.2.1, 80, .inl lf2)), (wc, .inl (X.2.2, 80, .inr (.inl kf2)))] := hD
                  try dsimp only at htk
                  rw [pdel_pput h0.L.2.1 hnone, pdel_pput h0.Z.1 ((z_lkp h0.Z h0.L.2.1 h0.I hkin).trans hnone)] at htk
                  refine lv_iconst (v := nI 4) hx hb dX6_insert_121 (by decide) ?_
                  refine wM hQ ?_
                  exact rtI ((mf3, xf3, yf3, vf3, wf3, cf3), ((lf2, kf2), (g_wt, g_lv, g_fi, g_en, g_cd)), (P, ZP, [])) hx hb hr hlocks hP hS (⟨(by show (nI 4, P, []) = _; unfold insF; rw [cif_pos ⟨hc_13, nI_pos hvv⟩, cif_neg (by omega), kOf_nI (by omega) (by omega), nI_clamp hvv, cif_pos hnone, cif_pos (Nat.lt_of_not_le c_112)]), htk⟩) dX6_insert_122
              · exact absurd c_54 (by decide)
          · replace c_31 : nc = 60 := (nI_eq (by omega) (by omega)).mp c_31
            refine lv_iconst (v := nI 3) hx hb dX6_insert_34 (by decide) ?_
            refine wM hQ ?_
            exact rtI ((mf, xf, yf, vf, wf, cf), ((lf, kf), (f_wt, f_lv, f_fi, f_en, f_cd)), (P, ZP, [])) hx hb hr hlocks hP hS (⟨(by show (nI 3, P, []) = _; unfold insF; rw [cif_pos ⟨hc_13, nI_pos hvv⟩, cif_pos (by omega)]), h0, h1⟩) dX6_insert_35
        · skip
          refine lv_iconst (v := nI 2) hx hb dX6_insert_23 (by decide) ?_
          refine wM hQ ?_
          exact rtI ((mf, xf, yf, vf, wf, cf), ((lf, kf), (f_wt, f_lv, f_fi, f_en, f_cd)), (P, ZP, [])) hx hb hr hlocks hP hS (⟨(by show (nI 2, P, []) = _; unfold insF; rw [cif_neg (fun z => c_20 (Int32.not_lt.mp z.2))]), h0, h1⟩) dX6_insert_24
    · skip
      refine lv_if_eq (tgt := 23) hx hb dX6_insert_16 (by decide) (fun c_16 => ?_) (fun c_16 => ?_)
      · skip
        refine lv_iconst (v := nI 2) hx hb dX6_insert_23 (by decide) ?_
        refine wM hQ ?_
        exact rtI ((mf, xf, yf, vf, wf, cf), ((lf, kf), (f_wt, f_lv, f_fi, f_en, f_cd)), (P, ZP, [])) hx hb hr hlocks hP hS (⟨(by show (nI 2, P, []) = _; unfold insF; rw [cif_neg (fun z => hc_13 z.1)]), h0, h1⟩) dX6_insert_24
      · exact absurd c_16 (by decide)
  · exact absurd c_4 (by decide)
