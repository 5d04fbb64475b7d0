/-! THE LAW'S LOOP -/
theorem and15 (x : Int32) : ∃ j, j < 16 ∧ x &&& nI 15 = nI j := by
  refine ⟨(x.toBitVec &&& 15#32).toNat, ?_, ?_⟩
  · rw [BitVec.toNat_and]
    exact Nat.lt_of_le_of_lt Nat.and_le_right (by decide)
  · apply Int32.toBitVec_inj.1
    show x.toBitVec &&& 15#32 = BitVec.ofNat 32 _
    simp
theorem lw_more {L i : Nat} (hL : L ≤ 3075) (hi : i ≤ 4000) (h : ¬ nI L - nI 6 < nI i) : i + 6 ≤ L := by
  rcases Nat.lt_or_ge L 6 with z | z
  · have h1 := sg_neg (a := L) (c := 6) (by decide) z
    exact absurd (Int32.lt_of_lt_of_le (Int32.not_le.mp h1) (Int32.not_lt.mp (nI_pos (by omega)))) h
  · rw [pk_sub z] at h
    rcases Nat.lt_or_ge (L - 6) i with y | y
    · exact absurd (nI_lt y (by omega)) h
    · omega
set_option maxHeartbeats 4000000 in
set_option maxRecDepth 100000 in
theorem law_loop {pz : Program} {l : Launch} {ez : Env} {sz : State} {mz : MethodId} {below : List Frame} {meth : Method} {cz : Code} {X : kX} {bb L : Nat} {xs : Nat → Int32} {bl bk b a p pk pv h hk hv d lk lv t fa oa t2 fa2 oa2 ch ck cv rs rk_ rv rd m mn xr yr vr cr wr wl wc rx ry mv fr : Nat} (C0 : lwc pz sz mz cz X bb L xs (fun q : Nat => sz.heap.size ≤ q)) (hr : meth.sig.returnType = ret) (hlocks : meth.locks = false) (hpar : lpar bl bk b) (hL : L ≤ 3075) : ∀ (fu n : Nat), L < 6 * n + 3 + 6 * fu → ∀ (H : Heap) (locs : List Loc) (ls : Array Slot), (LOn X (fun q : Nat => sz.heap.size ≤ q) bl bk b n a p pk pv h hk hv d lk lv t fa oa t2 fa2 oa2 ch ck cv rs rk_ rv rd m mn xr yr vr cr wr wl wc rx ry mv fr H ∨ LOff X (fun q : Nat => sz.heap.size ≤ q) bl bk b n a p pk pv h hk hv d lk lv t fa oa t2 fa2 oa2 ch ck cv rs rk_ rv rd m mn xr yr vr cr wr wl wc rx ry mv fr H) → va_S (fun q : Nat => sz.heap.size ≤ q) sz.heap H locs → lv_has ls 4 [(0, .ref bb), (1, .ref a), (2, .ref m), (3, .int (nI (3 + 6 * n)))] → n ≤ 600 → W pz l ez room_1 sz mz #[Value.ref bb] below meth cz H locs 600000 7302250 (lw_Z below #[Value.ref bb] sz) (F0 mz 48 ls []) := by
  obtain ⟨hx, hb, hml, hown, hts, hXs, hbl0, hK, hN, hbA⟩ := id C0
  intro fu
  induction fu with
  | zero =>
    intro n hfu H locs ls hI hS hl hn6
    refine lv_iload_n hx hb dL_law_48 rfl (lv_at hl 3 rfl) ?_
    refine lv_aload_n hx hb dL_law_49 rfl (lv_at hl 0 rfl) ?_
    refine va_slen hx hb hXs hbl0 hbA hS dL_law_50 ?_
    refine lv_bipush (v := nI 6) hx hb dL_law_51 (by decide) ?_
    refine lv_isub hx hb dL_law_53 ?_
    refine lv_icmp_gt (tgt := 655) hx hb dL_law_54 (by decide) (fun c_54 => ?_) (fun c_54 => ?_)
    · refine lv_iconst (v := 1) hx hb dL_law_655 (by decide) ?_
      refine va_forget (fun q hq => hS.2.2 q hq) ?_
      exact lw_ret hx hb hr hlocks dL_law_656
    · have h9 := lw_more hL (by omega) c_54
      omega
  | succ fu ih =>
    intro n hfu H locs ls hI hS hl hn6
    refine lv_iload_n hx hb dL_law_48 rfl (lv_at hl 3 rfl) ?_
    refine lv_aload_n hx hb dL_law_49 rfl (lv_at hl 0 rfl) ?_
    refine va_slen hx hb hXs hbl0 hbA hS dL_law_50 ?_
    refine lv_bipush (v := nI 6) hx hb dL_law_51 (by decide) ?_
    refine lv_isub hx hb dL_law_53 ?_
    refine lv_icmp_gt (tgt := 655) hx hb dL_law_54 (by decide) (fun c_54 => ?_) (fun c_54 => ?_)
    · refine lv_iconst (v := 1) hx hb dL_law_655 (by decide) ?_
      refine va_forget (fun q hq => hS.2.2 q hq) ?_
      exact lw_ret hx hb hr hlocks dL_law_656
    · have hi := lw_more hL (by omega) c_54
      have hn : n < 512 := by omega
      have kk : ∀ (H1 : Heap) (locs1 : List Loc), (LOn X (fun q : Nat => sz.heap.size ≤ q) bl bk b (n + 1) a p pk pv h hk hv d lk lv t fa oa t2 fa2 oa2 ch ck cv rs rk_ rv rd m mn xr yr vr cr wr wl wc rx ry mv fr H1 ∨ LOff X (fun q : Nat => sz.heap.size ≤ q) bl bk b (n + 1) a p pk pv h hk hv d lk lv t fa oa t2 fa2 oa2 ch ck cv rs rk_ rv rd m mn xr yr vr cr wr wl wc rx ry mv fr H1) → va_S (fun q : Nat => sz.heap.size ≤ q) sz.heap H1 locs1 → W pz l ez room_1 sz mz #[Value.ref bb] below meth cz H1 locs1 600000 7302250 (lw_Z below #[Value.ref bb] sz) (F0 mz 649 ls []) := by
        intro H1 locs1 hI1 hS1
        refine lv_iinc (v := nI (3 + 6 * n + 6)) (lv' := [(3, .int (nI (3 + 6 * n + 6))), (0, .ref bb), (1, .ref a), (2, .ref m)]) hx hb dL_law_649 hl (k := 3) rfl (by rw [show Int32.ofInt 6 = nI 6 from by decide]; exact nI_add _ _) (by decide) rfl (fun ls hl => ?_)
        refine lv_goto (tgt := 48) hx hb dL_law_652 (by decide) ?_
        rw [show 3 + 6 * n + 6 = 3 + 6 * (n + 1) by omega] at hl
        exact ih (n + 1) (by omega) H1 locs1 ls hI1 hS1 (lv_sub hl [1, 2, 3, 0] rfl) (by omega)
      refine lv_aload_n hx hb dL_law_57 rfl (lv_at hl 0 rfl) ?_
      refine lv_iload_n hx hb dL_law_58 rfl (lv_at hl 3 rfl) ?_
      refine va_sld hx hb hXs hbl0 hbA hS (vp_in_nI (n := 3 + 6 * n) (by omega) (by omega)) dL_law_59 ?_
      refine lv_bipush (v := nI 15) hx hb dL_law_60 (by decide) ?_
      refine lv_iand hx hb dL_law_62 ?_
      refine lv_topi (fun x9 ex9 => ?_)
      obtain ⟨j, hj, ej⟩ := and15 (xs (nI (3 + 6 * n)).toNatClampNeg)
      obtain rfl : x9 = nI j := by rw [ex9, ej]
      rcases sw_lt16 hj with rfl | rfl | rfl | rfl | rfl | rfl | rfl | rfl | rfl | rfl | rfl | rfl | rfl | rfl | rfl | rfl
      · refine lv_tableIn (tgt := 140) hx hb dL_law_63 (by decide) (by decide) rfl (by decide) ?_
        rcases hI with hI | hI
        · exact lw_on_insert C0 hpar hn hi hL hI hS hl kk
        · exact lw_off_insert C0 hpar hn hi hL hI hS hl kk
      · refine lv_tableIn (tgt := 183) hx hb dL_law_63 (by decide) (by decide) rfl (by decide) ?_
        rcases hI with hI | hI
        · exact lw_on_delete C0 hpar hn hi hL hI hS hl kk
        · exact lw_off_delete C0 hpar hn hi hL hI hS hl kk
      · refine lv_tableIn (tgt := 216) hx hb dL_law_63 (by decide) (by decide) rfl (by decide) ?_
        rcases hI with hI | hI
        · exact lw_on_get C0 hpar hn hi hL hI hS hl kk
        · exact lw_off_get C0 hpar hn hi hL hI hS hl kk
      · refine lv_tableIn (tgt := 259) hx hb dL_law_63 (by decide) (by decide) rfl (by decide) ?_
        rcases hI with hI | hI
        · exact lw_on_window C0 hpar hn hi hL hI hS hl kk
        · exact lw_off_window C0 hpar hn hi hL hI hS hl kk
      · refine lv_tableIn (tgt := 322) hx hb dL_law_63 (by decide) (by decide) rfl (by decide) ?_
        rcases hI with hI | hI
        · exact lw_on_nearest C0 hpar hn hi hL hI hS hl kk
        · exact lw_off_nearest C0 hpar hn hi hL hI hS hl kk
      · refine lv_tableIn (tgt := 375) hx hb dL_law_63 (by decide) (by decide) rfl (by decide) ?_
        rcases hI with hI | hI
        · exact lw_on_differs C0 hpar hn hi hL hI hS hl kk
        · exact lw_off_differs C0 hpar hn hi hL hI hS hl kk
      · refine lv_tableIn (tgt := 388) hx hb dL_law_63 (by decide) (by decide) rfl (by decide) ?_
        rcases hI with hI | hI
        · exact lw_on_result C0 hpar hn hi hL hI hS hl kk
        · exact lw_off_result C0 hpar hn hi hL hI hS hl kk
      · refine lv_tableIn (tgt := 421) hx hb dL_law_63 (by decide) (by decide) rfl (by decide) ?_
        rcases hI with hI | hI
        · exact lw_on_size C0 hpar hn hi hL hI hS hl kk
        · exact lw_off_size C0 hpar hn hi hL hI hS hl kk
      · refine lv_tableIn (tgt := 434) hx hb dL_law_63 (by decide) (by decide) rfl (by decide) ?_
        rcases hI with hI | hI
        · exact lw_on_sum C0 hpar hn hi hL hI hS hl kk
        · exact lw_off_sum C0 hpar hn hi hL hI hS hl kk
      · refine lv_tableIn (tgt := 498) hx hb dL_law_63 (by decide) (by decide) rfl (by decide) ?_
        rcases hI with hI | hI
        · exact lw_on_commit C0 hpar hn hi hL hI hS hl kk
        · exact lw_off_commit C0 hpar hn hi hL hI hS hl kk
      · refine lv_tableIn (tgt := 511) hx hb dL_law_63 (by decide) (by decide) rfl (by decide) ?_
        rcases hI with hI | hI
        · exact lw_on_abort C0 hpar hn hi hL hI hS hl kk
        · exact lw_off_abort C0 hpar hn hi hL hI hS hl kk
      · refine lv_tableIn (tgt := 524) hx hb dL_law_63 (by decide) (by decide) rfl (by decide) ?_
        rcases hI with hI | hI
        · exact lw_on_format C0 hpar hn hi hL hI hS hl kk
        · exact lw_off_format C0 hpar hn hi hL hI hS hl kk
      · refine lv_tableIn (tgt := 537) hx hb dL_law_63 (by decide) (by decide) rfl (by decide) ?_
        rcases hI with hI | hI
        · exact lw_on_arm C0 hpar hn hi hL hI hS hl kk
        · exact lw_off_arm C0 hpar hn hi hL hI hS hl kk
      · refine lv_tableIn (tgt := 570) hx hb dL_law_63 (by decide) (by decide) rfl (by decide) ?_
        rcases hI with hI | hI
        · exact lw_on_recover C0 hpar hn hi hL hI hS hl kk
        · exact lw_off_recover C0 hpar hn hi hL hI hS hl kk
      · refine lv_tableIn (tgt := 583) hx hb dL_law_63 (by decide) (by decide) rfl (by decide) ?_
        rcases hI with hI | hI
        · exact lw_on_node C0 hpar hn hi hL hI hS hl kk
        · exact lw_off_node C0 hpar hn hi hL hI hS hl kk
      · refine lv_tableIn (tgt := 626) hx hb dL_law_63 (by decide) (by decide) rfl (by decide) ?_
        rcases hI with hI | hI
        · exact lw_on_count C0 hpar hn hi hL hI hS hl kk
        · exact lw_off_count C0 hpar hn hi hL hI hS hl kk
