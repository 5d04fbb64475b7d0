/-! Disk.writeHome, Results: contracts, laid by program (wip/gen/spec_dr.py) -/
set_option maxHeartbeats 4000000 in
set_option maxRecDepth 100000 in
theorem c_X1_writeHome (l : Launch) (X : kX) (d h lk lv k v w pt : Nat) (lkf lvf kf vf : Nat → Int32) (L : PL) (C : List Op) (hc : chOk lkf lvf C) (hp : ptOk kf vf L) (hpt : pt ≤ 256) (hcap : ∀ j, j ≤ C.length → (apL L (C.take j)).length ≤ 512) : CWv l X yX1_writeHome wsX1_writeHome 3 [.ref d, .int (nI pt)] [(d, .inr (1, [.ref h, .ref lk, .ref lv, .int (nI C.length)])), (lk, .inl (X.2.1, 60, .inl lkf)), (lv, .inl (X.2.1, 60, .inl lvf)), (h, .inr (2, [.ref k, .ref v, .int (nI L.length), .int (nI w)])), (k, .inl (X.2.1, 512, .inl kf)), (v, .inl (X.2.1, 512, .inl vf))] (S := (Nat → Int32) × (Nat → Int32)) (fun u => ptOk u.1 u.2 (apL L (C.take (C.length * pt / 256)))) (fun ⟨kf2, vf2⟩ => [(d, .inr (1, [.ref h, .ref lk, .ref lv, .int (nI C.length)])), (lk, .inl (X.2.1, 60, .inl lkf)), (lv, .inl (X.2.1, 60, .inl lvf)), (h, .inr (2, [.ref k, .ref v, .int (nI ((apL L (C.take (C.length * pt / 256))).length)), .int (nI (avL L w (C.take (C.length * pt / 256))))])), (k, .inl (X.2.1, 512, .inl kf2)), (v, .inl (X.2.1, 512, .inl vf2))]) := by
  refine Met.ofW (cc := cX1_writeHome) (maxL := 4) (ret := none) (by decide) rfl ?_
  intro pz ez sz mz args below meth cz s₁ Bz hml hv
  obtain ⟨rfl, hP, hK, hD0, hN⟩ := hv
  have hx := Bz.exec
  have hb := Bz.bytes
  have hr := Bz.returns
  have hts := atoms_spec (ws := wsX1_writeHome) Bz.pre
  have hown : sz.vm.findClass RX1 = some mz.cls := findClass_of_methodNamed Bz.named
  have hlocks := Bz.notSynchronized
  have hD := inW.self hD0
  have hS : va_S (inW [(d, .inr (1, [.ref h, .ref lk, .ref lv, .int (nI C.length)])), (lk, .inl (X.2.1, 60, .inl lkf)), (lv, .inl (X.2.1, 60, .inl lvf)), (h, .inr (2, [.ref k, .ref v, .int (nI L.length), .int (nI w)])), (k, .inl (X.2.1, 512, .inl kf)), (v, .inl (X.2.1, 512, .inl vf))]) sz.heap sz.heap [] := va_S.rf
  have hl := lv_entry ([.ref d, .int (nI pt)]) (n := 4) (Nat.le_of_ble_eq_true rfl)
  rw [lg_entry_eq]
  generalize (lg_sl ([.ref d, .int (nI pt)]) ++ List.replicate (4 - (lg_sl ([.ref d, .int (nI pt)])).length) Slot.unset).toArray = ls at hl ⊢
  have hl : lv_has ls 4 [(0, .ref d), (1, .int (nI pt))] := hl
  have lk9 := hts (.fieldLink RX1 9 "PointStore$Disk" "logKeys" "[I") (by decide +kernel)
  have lk15 := hts (.fieldLink RX1 15 "PointStore$Disk" "logValues" "[I") (by decide +kernel)
  have lk18 := hts (.fieldLink RX1 18 "PointStore$Disk" "sealed" "I") (by decide +kernel)
  have hin1 : ∀ w ∈ u_ws RX1 TX1 4, w ∈ wsX1_writeHome := by decide +kernel
  refine wQ (fun Q hQ => ?_)
  generalize hAe : inW [(d, .inr (1, [.ref h, .ref lk, .ref lv, .int (nI C.length)])), (lk, .inl (X.2.1, 60, .inl lkf)), (lv, .inl (X.2.1, 60, .inl lvf)), (h, .inr (2, [.ref k, .ref v, .int (nI L.length), .int (nI w)])), (k, .inl (X.2.1, 512, .inl kf)), (v, .inl (X.2.1, 512, .inl vf))] = A_ at hD hS hQ
  have hC := hc.1
  have hm : C.length * pt ≤ 60 * 256 := Nat.mul_le_mul hC hpt
  have hq : C.length * pt / 256 ≤ C.length := by
    have := Nat.mul_le_mul_left C.length hpt
    omega
  generalize hw0 : C.length * pt / 256 = wh at hq hQ
  refine lv_aload_n hx hb dX1_writeHome_0 rfl (lv_at hl 0 rfl) ?_
  refine va_get (D := X.1) (ci := 1) (v := .int (nI C.length)) (C := RX1) (T := TX1) (N := 4) hx hb hts hin1 hown hK hP 0 rfl rfl 3 (by decide) lk18 (fun _ h9 => h9) rfl dX1_writeHome_1 ?_
  refine lv_iload_n hx hb dX1_writeHome_4 rfl (lv_at hl 1 rfl) ?_
  refine lv_imul hx hb dX1_writeHome_5 ?_
  refine lv_topi (fun x_1 ex_1 => ?_)
  obtain rfl : x_1 = nI (C.length * pt) := by
    rw [ex_1]
    exact pk_mul _ _
  refine lv_sipush (v := nI 256) hx hb dX1_writeHome_6 (by decide) ?_
  refine lv_idiv hx hb dX1_writeHome_9 (by decide) ?_
  refine lv_topi (fun x_2 ex_2 => ?_)
  obtain rfl : x_2 = nI wh := by
    rw [ex_2]
    rw [← hw0]
    exact pk_div (by omega) (by omega) (by omega)
  refine lv_istore_n (lv' := [(2, .int (nI wh)), (0, .ref d), (1, .int (nI pt))]) hx hb dX1_writeHome_10 rfl hl (by decide) rfl (fun ls hl => ?_)
  refine lv_iconst (v := nI 0) hx hb dX1_writeHome_11 (by decide) ?_
  refine lv_istore_n (lv' := [(3, .int (nI 0)), (2, .int (nI wh)), (0, .ref d), (1, .int (nI pt))]) hx hb dX1_writeHome_12 rfl hl (by decide) rfl (fun ls hl => ?_)
  have loop_13 : ∀ (fu : Nat) (i : Nat) (kf1 : Nat → Int32) (vf1 : Nat → Int32), (i ≤ wh) → (ptOk kf1 vf1 (apL L (C.take i))) → wh - i < fu → ∀ (H : Heap) (locs : List Loc), va_P X.1 vwCl [(d, .inr (1, [.ref h, .ref lk, .ref lv, .int (nI C.length)])), (lk, .inl (X.2.1, 60, .inl lkf)), (lv, .inl (X.2.1, 60, .inl lvf)), (h, .inr (2, [.ref k, .ref v, .int (nI ((apL L (C.take i)).length)), .int (nI (avL L w (C.take i)))])), (k, .inl (X.2.1, 512, .inl kf1)), (v, .inl (X.2.1, 512, .inl vf1))] H → va_D A_ [(d, .inr (1, [.ref h, .ref lk, .ref lv, .int (nI C.length)])), (lk, .inl (X.2.1, 60, .inl lkf)), (lv, .inl (X.2.1, 60, .inl lvf)), (h, .inr (2, [.ref k, .ref v, .int (nI ((apL L (C.take i)).length)), .int (nI (avL L w (C.take i)))])), (k, .inl (X.2.1, 512, .inl kf1)), (v, .inl (X.2.1, 512, .inl vf1))] → va_S A_ sz.heap H locs → ∀ (ls : Array Slot), lv_has ls 4 [(0, .ref d), (2, .int (nI wh)), (3, .int (nI i))] → W pz l ez (headSpec wsX1_writeHome (rmk 3)).room sz mz ([.ref d, .int (nI pt)].toArray) below meth cz H locs 0 0 Q (F0 mz 13 ls []) := by
    intro fu
    induction fu with
    | zero => intro i kf1 vf1 h1 h2 hfu; exact absurd hfu (Nat.not_lt_zero _)
    | succ fu ih13 =>
      intro i kf1 vf1 h1 h2 hfu H locs hP hD hS ls hl
      refine lv_iload_n hx hb dX1_writeHome_13 rfl (lv_at hl 2 rfl) ?_
      refine lv_iload_n hx hb dX1_writeHome_14 rfl (lv_at hl 1 rfl) ?_
      refine lv_icmp_ge (tgt := 40) hx hb dX1_writeHome_15 (by decide) (fun c_15 => ?_) (fun c_15 => ?_)
      · replace c_15 : wh ≤ i := (nI_leI (by omega) (by omega)).mp c_15
        obtain rfl : wh = i := by omega
        refine wM hQ ?_
        exact rtV (kf1, vf1) hx hb hr hlocks hP hS (h2) dX1_writeHome_40
      · replace c_15 : ¬ wh ≤ i := fun h9 => c_15 ((nI_leI (by omega) (by omega)).mpr h9)
        refine lv_aload_n hx hb dX1_writeHome_18 rfl (lv_at hl 0 rfl) ?_
        refine lv_aload_n hx hb dX1_writeHome_19 rfl (lv_at hl 0 rfl) ?_
        refine va_get (D := X.1) (ci := 1) (v := .ref lk) (C := RX1) (T := TX1) (N := 4) hx hb hts hin1 hown hK hP 0 rfl rfl 1 (by decide) lk9 (fun _ h9 => h9) rfl dX1_writeHome_20 ?_
        refine lv_iload_n hx hb dX1_writeHome_23 rfl (lv_at hl 2 rfl) ?_
        have hi_3 : vp_in (nI i) 60 := vp_in_nI (by omega) (by omega)
        refine va_iald hx hb hK hP 1 0 rfl rfl hi_3 dX1_writeHome_24 ?_
        refine lv_topi (fun x_4 ex_4 => ?_)
        obtain rfl : x_4 = lkf i := by
          rw [ex_4]
          rw [nI_clamp (by omega)]
        refine lv_topi (fun x_5 ex_5 => ?_)
        obtain rfl : x_5 = opK (C.getD i none) := by
          rw [ex_5]
          exact (hc.2.1 i (by omega)).1
        refine lv_aload_n hx hb dX1_writeHome_25 rfl (lv_at hl 0 rfl) ?_
        refine va_get (D := X.1) (ci := 1) (v := .ref lv) (C := RX1) (T := TX1) (N := 4) hx hb hts hin1 hown hK hP 0 rfl rfl 2 (by decide) lk15 (fun _ h9 => h9) rfl dX1_writeHome_26 ?_
        refine lv_iload_n hx hb dX1_writeHome_29 rfl (lv_at hl 2 rfl) ?_
        have hi_6 : vp_in (nI i) 60 := vp_in_nI (by omega) (by omega)
        refine va_iald hx hb hK hP 2 0 rfl rfl hi_6 dX1_writeHome_30 ?_
        refine lv_topi (fun x_7 ex_7 => ?_)
        obtain rfl : x_7 = lvf i := by
          rw [ex_7]
          rw [nI_clamp (by omega)]
        refine lv_topi (fun x_8 ex_8 => ?_)
        obtain rfl : x_8 = opV (C.getD i none) := by
          rw [ex_8]
          exact (hc.2.1 i (by omega)).2
        have hcop := ch_op hc (i := i) (by omega)
        have hcp1 := hcap (i + 1) (by omega)
        rw [ap_take (by omega)] at hcp1
        rcases op_cases (C.getD i none) with hop | ⟨kk, hop⟩ | ⟨kk, vv, hop⟩
        · skip
          rw [hop] at hcop hcp1
          rw [hop]
          refine ckVv (As := [.int (-1), .int (-1)]) (rest := []) 0 [0, 3, 4, 5] (c_X1_writeAtHome_ev l X d h lk lv C.length k v (avL L w (C.take i)) kf1 vf1 (apL L (C.take i)) h2) ⟨hx, hb, hml, hown, hts⟩ (cwV 2 hts gX1_writeHome_X1_writeAtHome rfl rfl rfl (by decide +kernel) ⟨Nat.le_of_ble_eq_true rfl, Nat.le_of_ble_eq_true rfl⟩) hK hN hP hD hS (by decide) rfl (ci := 1) rfl rfl (fun _ => rfl) rfl hl.1 rfl (Nat.le_of_ble_eq_true rfl) dX1_writeHome_31 ⟨Nat.zero_le _, Nat.zero_le _⟩ (fun u_9 H locs hc_31 hP hD hS => ?_)
          obtain ⟨kf2, vf2⟩ := u_9
          have hP : va_P X.1 vwCl [(d, .inr (1, [.ref h, .ref lk, .ref lv, .int (nI C.length)])), (lk, .inl (X.2.1, 60, .inl lkf)), (lv, .inl (X.2.1, 60, .inl lvf)), (h, .inr (2, [.ref k, .ref v, .int (nI 0), .int (nI ((avL L w (C.take i)) + 1))])), (k, .inl (X.2.1, 512, .inl kf2)), (v, .inl (X.2.1, 512, .inl vf2))] H := hP
          have hD : va_D A_ [(d, .inr (1, [.ref h, .ref lk, .ref lv, .int (nI C.length)])), (lk, .inl (X.2.1, 60, .inl lkf)), (lv, .inl (X.2.1, 60, .inl lvf)), (h, .inr (2, [.ref k, .ref v, .int (nI 0), .int (nI ((avL L w (C.take i)) + 1))])), (k, .inl (X.2.1, 512, .inl kf2)), (v, .inl (X.2.1, 512, .inl vf2))] := hD
          try dsimp only at hc_31
          refine lv_iinc (v := nI (i + 1)) (lv' := [(3, .int (nI (i + 1))), (0, .ref d), (2, .int (nI wh))]) hx hb dX1_writeHome_34 hl (k := 2) rfl (by rw [show Int32.ofInt 1 = nI 1 from by decide]; exact nI_add _ _) (by decide) rfl (fun ls hl => ?_)
          refine lv_goto (tgt := 13) hx hb dX1_writeHome_37 (by decide) ?_
          have e1 : ([] : PL) = apL L (C.take (i + 1)) := by rw [ap_take (by omega), hop]; rfl
          have e2 : avL L w (C.take i) + 1 = avL L w (C.take (i + 1)) := by rw [av_take (by omega), hop]; rfl
          rw [show nI 0 = nI (apL L (C.take (i + 1))).length from by rw [← e1]; rfl, e2] at hP hD
          rw [e1] at hc_31
          exact ih13 (i + 1) kf2 vf2 (by omega) (by exact hc_31) (by omega) _ _ hP hD hS ls (lv_sub hl [1, 2, 0] rfl)
        · skip
          rw [hop] at hcop hcp1
          rw [hop]
          have hkk : kk < 2 ^ 30 := hcop
          refine ckVv (As := [.int (nI kk), .int (-1)]) (rest := []) 0 [0, 3, 4, 5] (c_X1_writeAtHome_del l X d h lk lv C.length k v (avL L w (C.take i)) kf1 vf1 (apL L (C.take i)) kk hkk h2) ⟨hx, hb, hml, hown, hts⟩ (cwV 2 hts gX1_writeHome_X1_writeAtHome rfl rfl rfl (by decide +kernel) ⟨Nat.le_of_ble_eq_true rfl, Nat.le_of_ble_eq_true rfl⟩) hK hN hP hD hS (by decide) rfl (ci := 1) rfl rfl (fun _ => rfl) rfl hl.1 rfl (Nat.le_of_ble_eq_true rfl) dX1_writeHome_31 ⟨Nat.zero_le _, Nat.zero_le _⟩ (fun u_11 H locs hc_31 hP hD hS => ?_)
          obtain ⟨kf2, vf2⟩ := u_11
          have hP : va_P X.1 vwCl [(d, .inr (1, [.ref h, .ref lk, .ref lv, .int (nI C.length)])), (lk, .inl (X.2.1, 60, .inl lkf)), (lv, .inl (X.2.1, 60, .inl lvf)), (h, .inr (2, [.ref k, .ref v, .int (nI ((pdel (apL L (C.take i)) kk).length)), .int (nI (tv (apL L (C.take i)) kk (avL L w (C.take i))))])), (k, .inl (X.2.1, 512, .inl kf2)), (v, .inl (X.2.1, 512, .inl vf2))] H := hP
          have hD : va_D A_ [(d, .inr (1, [.ref h, .ref lk, .ref lv, .int (nI C.length)])), (lk, .inl (X.2.1, 60, .inl lkf)), (lv, .inl (X.2.1, 60, .inl lvf)), (h, .inr (2, [.ref k, .ref v, .int (nI ((pdel (apL L (C.take i)) kk).length)), .int (nI (tv (apL L (C.take i)) kk (avL L w (C.take i))))])), (k, .inl (X.2.1, 512, .inl kf2)), (v, .inl (X.2.1, 512, .inl vf2))] := hD
          try dsimp only at hc_31
          refine lv_iinc (v := nI (i + 1)) (lv' := [(3, .int (nI (i + 1))), (0, .ref d), (2, .int (nI wh))]) hx hb dX1_writeHome_34 hl (k := 2) rfl (by rw [show Int32.ofInt 1 = nI 1 from by decide]; exact nI_add _ _) (by decide) rfl (fun ls hl => ?_)
          refine lv_goto (tgt := 13) hx hb dX1_writeHome_37 (by decide) ?_
          have e1 : pdel (apL L (C.take i)) kk = apL L (C.take (i + 1)) := by rw [ap_take (by omega), hop]; rfl
          have e2 : tv (apL L (C.take i)) kk (avL L w (C.take i)) = avL L w (C.take (i + 1)) := by rw [av_take (by omega), hop]; rfl
          rw [e1, e2] at hP hD
          rw [e1] at hc_31
          exact ih13 (i + 1) kf2 vf2 (by omega) (by exact hc_31) (by omega) _ _ hP hD hS ls (lv_sub hl [1, 2, 0] rfl)
        · skip
          rw [hop] at hcop hcp1
          rw [hop]
          obtain ⟨hkk, hvv⟩ : kk < 2 ^ 30 ∧ vv < 2 ^ 31 := hcop
          refine ckVv (As := [.int (nI kk), .int (nI vv)]) (rest := []) 0 [0, 3, 4, 5] (c_X1_writeAtHome_put l X d h lk lv C.length k v (avL L w (C.take i)) kf1 vf1 (apL L (C.take i)) kk vv hkk hvv hcp1 h2) ⟨hx, hb, hml, hown, hts⟩ (cwV 2 hts gX1_writeHome_X1_writeAtHome rfl rfl rfl (by decide +kernel) ⟨Nat.le_of_ble_eq_true rfl, Nat.le_of_ble_eq_true rfl⟩) hK hN hP hD hS (by decide) rfl (ci := 1) rfl rfl (fun _ => rfl) rfl hl.1 rfl (Nat.le_of_ble_eq_true rfl) dX1_writeHome_31 ⟨Nat.zero_le _, Nat.zero_le _⟩ (fun u_13 H locs hc_31 hP hD hS => ?_)
          obtain ⟨kf2, vf2⟩ := u_13
          have hP : va_P X.1 vwCl [(d, .inr (1, [.ref h, .ref lk, .ref lv, .int (nI C.length)])), (lk, .inl (X.2.1, 60, .inl lkf)), (lv, .inl (X.2.1, 60, .inl lvf)), (h, .inr (2, [.ref k, .ref v, .int (nI ((pput (apL L (C.take i)) kk vv).length)), .int (nI ((avL L w (C.take i)) + 1))])), (k, .inl (X.2.1, 512, .inl kf2)), (v, .inl (X.2.1, 512, .inl vf2))] H := hP
          have hD : va_D A_ [(d, .inr (1, [.ref h, .ref lk, .ref lv, .int (nI C.length)])), (lk, .inl (X.2.1, 60, .inl lkf)), (lv, .inl (X.2.1, 60, .inl lvf)), (h, .inr (2, [.ref k, .ref v, .int (nI ((pput (apL L (C.take i)) kk vv).length)), .int (nI ((avL L w (C.take i)) + 1))])), (k, .inl (X.2.1, 512, .inl kf2)), (v, .inl (X.2.1, 512, .inl vf2))] := hD
          try dsimp only at hc_31
          refine lv_iinc (v := nI (i + 1)) (lv' := [(3, .int (nI (i + 1))), (0, .ref d), (2, .int (nI wh))]) hx hb dX1_writeHome_34 hl (k := 2) rfl (by rw [show Int32.ofInt 1 = nI 1 from by decide]; exact nI_add _ _) (by decide) rfl (fun ls hl => ?_)
          refine lv_goto (tgt := 13) hx hb dX1_writeHome_37 (by decide) ?_
          have e1 : pput (apL L (C.take i)) kk vv = apL L (C.take (i + 1)) := by rw [ap_take (by omega), hop]; rfl
          have e2 : avL L w (C.take i) + 1 = avL L w (C.take (i + 1)) := by rw [av_take (by omega), hop]; rfl
          rw [e1, e2] at hP hD
          rw [e1] at hc_31
          exact ih13 (i + 1) kf2 vf2 (by omega) (by exact hc_31) (by omega) _ _ hP hD hS ls (lv_sub hl [1, 2, 0] rfl)
  have hP : va_P X.1 vwCl [(d, .inr (1, [.ref h, .ref lk, .ref lv, .int (nI C.length)])), (lk, .inl (X.2.1, 60, .inl lkf)), (lv, .inl (X.2.1, 60, .inl lvf)), (h, .inr (2, [.ref k, .ref v, .int (nI ((apL L (C.take 0)).length)), .int (nI (avL L w (C.take 0)))])), (k, .inl (X.2.1, 512, .inl kf)), (v, .inl (X.2.1, 512, .inl vf))] _ := hP
  have hD : va_D A_ [(d, .inr (1, [.ref h, .ref lk, .ref lv, .int (nI C.length)])), (lk, .inl (X.2.1, 60, .inl lkf)), (lv, .inl (X.2.1, 60, .inl lvf)), (h, .inr (2, [.ref k, .ref v, .int (nI ((apL L (C.take 0)).length)), .int (nI (avL L w (C.take 0)))])), (k, .inl (X.2.1, 512, .inl kf)), (v, .inl (X.2.1, 512, .inl vf))] := hD
  exact loop_13 _ 0 kf vf (by omega) (show ptOk kf vf (apL L (C.take 0)) from hp) (Nat.lt_succ_self _) _ _ hP hD hS ls (lv_sub hl [2, 1, 0] rfl)
set_option maxHeartbeats 4000000 in
set_option maxRecDepth 100000 in
theorem c_X3_clear (l : Launch) (X : kX) (r k v dd : Nat) (f_n : Int32) : CWv l X yX3_clear wsX3_clear 0 [.ref r] [(r, .inr (3, [.ref k, .ref v, .ref dd, .int f_n]))] (S := Unit) (fun _ => True) (fun _ => [(r, .inr (3, [.ref k, .ref v, .ref dd, .int (nI 0)]))]) := by
  refine Met.ofW (cc := cX3_clear) (maxL := 1) (ret := none) (by decide) rfl ?_
  intro pz ez sz mz args below meth cz s₁ Bz hml hv
  obtain ⟨rfl, hP, hK, hD0, hN⟩ := hv
  have hx := Bz.exec
  have hb := Bz.bytes
  have hr := Bz.returns
  have hts := atoms_spec (ws := wsX3_clear) Bz.pre
  have hown : sz.vm.findClass RX3 = some mz.cls := findClass_of_methodNamed Bz.named
  have hlocks := Bz.notSynchronized
  have hD := inW.self hD0
  have hS : va_S (inW [(r, .inr (3, [.ref k, .ref v, .ref dd, .int f_n]))]) sz.heap sz.heap [] := va_S.rf
  have hl := lv_entry ([.ref r]) (n := 1) (Nat.le_of_ble_eq_true rfl)
  rw [lg_entry_eq]
  generalize (lg_sl ([.ref r]) ++ List.replicate (1 - (lg_sl ([.ref r])).length) Slot.unset).toArray = ls at hl ⊢
  have hl : lv_has ls 1 [(0, .ref r)] := hl
  have lk22 := hts (.fieldLink RX3 22 "PointStore$Results" "total" "I") (by decide +kernel)
  have hin3 : ∀ w ∈ u_ws RX3 TX3 4, w ∈ wsX3_clear := by decide +kernel
  refine wQ (fun Q hQ => ?_)
  generalize hAe : inW [(r, .inr (3, [.ref k, .ref v, .ref dd, .int f_n]))] = A_ at hD hS hQ
  refine lv_aload_n hx hb dX3_clear_0 rfl (lv_at hl 0 rfl) ?_
  refine lv_iconst (v := nI 0) hx hb dX3_clear_1 (by decide) ?_
  refine va_put (D := X.1) (ci := 3) (v := .int (nI 0)) (ty := .int) (C := RX3) (T := TX3) (N := 4) hx hb hts hin3 tyX3 tyX3_ok nmX3 hown hK hP hD hS 0 rfl rfl 3 (by decide) lk22 (fun _ h9 => h9) rfl (by decide +kernel) rfl rfl (Nat.le_of_ble_eq_true rfl) dX3_clear_2 (fun H locs hP hD hS => ?_)
  have hP : va_P X.1 vwCl [(r, .inr (3, [.ref k, .ref v, .ref dd, .int (nI 0)]))] H := hP
  have hD : va_D A_ [(r, .inr (3, [.ref k, .ref v, .ref dd, .int (nI 0)]))] := hD
  refine wM hQ ?_
  exact rtV () hx hb hr hlocks hP hS (trivial) dX3_clear_5
set_option maxHeartbeats 4000000 in
set_option maxRecDepth 100000 in
theorem c_X3_add (l : Launch) (X : kX) (r k v dd key : Nat) (x : Int32) (kf vf : Nat → Int32) (R : RSL) (h : rsOk kf vf R) (hk : key < 2 ^ 30) : CWv l X yX3_add wsX3_add 0 [.ref r, .int (nI key), .int x] [(r, .inr (3, [.ref k, .ref v, .ref dd, .int (nI R.length)])), (k, .inl (X.2.1, 150, .inl kf)), (v, .inl (X.2.1, 150, .inl vf))] (S := (Nat → Int32) × (Nat → Int32)) (fun u => rsOk u.1 u.2 (rsAdd R key x)) (fun ⟨kf2, vf2⟩ => [(r, .inr (3, [.ref k, .ref v, .ref dd, .int (nI ((rsAdd R key x).length))])), (k, .inl (X.2.1, 150, .inl kf2)), (v, .inl (X.2.1, 150, .inl vf2))]) := by
  refine Met.ofW (cc := cX3_add) (maxL := 3) (ret := none) (by decide) rfl ?_
  intro pz ez sz mz args below meth cz s₁ Bz hml hv
  obtain ⟨rfl, hP, hK, hD0, hN⟩ := hv
  have hx := Bz.exec
  have hb := Bz.bytes
  have hr := Bz.returns
  have hts := atoms_spec (ws := wsX3_add) Bz.pre
  have hown : sz.vm.findClass RX3 = some mz.cls := findClass_of_methodNamed Bz.named
  have hlocks := Bz.notSynchronized
  have hD := inW.self hD0
  have hS : va_S (inW [(r, .inr (3, [.ref k, .ref v, .ref dd, .int (nI R.length)])), (k, .inl (X.2.1, 150, .inl kf)), (v, .inl (X.2.1, 150, .inl vf))]) sz.heap sz.heap [] := va_S.rf
  have hl := lv_entry ([.ref r, .int (nI key), .int x]) (n := 3) (Nat.le_of_ble_eq_true rfl)
  rw [lg_entry_eq]
  generalize (lg_sl ([.ref r, .int (nI key), .int x]) ++ List.replicate (3 - (lg_sl ([.ref r, .int (nI key), .int x])).length) Slot.unset).toArray = ls at hl ⊢
  have hl : lv_has ls 3 [(0, .ref r), (1, .int (nI key)), (2, .int x)] := hl
  have lk9 := hts (.fieldLink RX3 9 "PointStore$Results" "keys" "[I") (by decide +kernel)
  have lk15 := hts (.fieldLink RX3 15 "PointStore$Results" "values" "[I") (by decide +kernel)
  have lk22 := hts (.fieldLink RX3 22 "PointStore$Results" "total" "I") (by decide +kernel)
  have hin3 : ∀ w ∈ u_ws RX3 TX3 4, w ∈ wsX3_add := by decide +kernel
  refine wQ (fun Q hQ => ?_)
  generalize hAe : inW [(r, .inr (3, [.ref k, .ref v, .ref dd, .int (nI R.length)])), (k, .inl (X.2.1, 150, .inl kf)), (v, .inl (X.2.1, 150, .inl vf))] = A_ at hD hS hQ
  have hL := h.1
  refine lv_aload_n hx hb dX3_add_0 rfl (lv_at hl 0 rfl) ?_
  refine va_get (D := X.1) (ci := 3) (v := .int (nI R.length)) (C := RX3) (T := TX3) (N := 4) hx hb hts hin3 hown hK hP 0 rfl rfl 3 (by decide) lk22 (fun _ h9 => h9) rfl dX3_add_1 ?_
  refine lv_sipush (v := nI 150) hx hb dX3_add_4 (by decide) ?_
  refine lv_icmp_ge (tgt := 40) hx hb dX3_add_7 (by decide) (fun c_7 => ?_) (fun c_7 => ?_)
  · replace c_7 : 150 ≤ R.length := (nI_leI (by omega) (by omega)).mp c_7
    rw [← rs_full (R := R) (key := key) (x := x) (by omega)] at hP
    refine wM hQ ?_
    exact rtV (kf, vf) hx hb hr hlocks hP hS ((by show rsOk kf vf _; rw [rs_full (by omega)]; exact h)) dX3_add_40
  · replace c_7 : ¬ 150 ≤ R.length := fun h9 => c_7 ((nI_leI (by omega) (by omega)).mpr h9)
    refine lv_aload_n hx hb dX3_add_10 rfl (lv_at hl 0 rfl) ?_
    refine va_get (D := X.1) (ci := 3) (v := .ref k) (C := RX3) (T := TX3) (N := 4) hx hb hts hin3 hown hK hP 0 rfl rfl 0 (by decide) lk9 (fun _ h9 => h9) rfl dX3_add_11 ?_
    refine lv_aload_n hx hb dX3_add_14 rfl (lv_at hl 0 rfl) ?_
    refine va_get (D := X.1) (ci := 3) (v := .int (nI R.length)) (C := RX3) (T := TX3) (N := 4) hx hb hts hin3 hown hK hP 0 rfl rfl 3 (by decide) lk22 (fun _ h9 => h9) rfl dX3_add_15 ?_
    refine lv_iload_n hx hb dX3_add_18 rfl (lv_at hl 1 rfl) ?_
    have hi_1 : vp_in (nI R.length) 150 := vp_in_nI (by omega) (by omega)
    refine va_iast hx hb hK hP hD hS 1 0 rfl rfl hi_1 dX3_add_19 (fun H locs hP hD hS => ?_)
    rw [nI_clamp (by omega)] at hP hD
    have hP : va_P X.1 vwCl [(r, .inr (3, [.ref k, .ref v, .ref dd, .int (nI R.length)])), (k, .inl (X.2.1, 150, .inl (upd kf R.length (nI key)))), (v, .inl (X.2.1, 150, .inl vf))] H := hP
    have hD : va_D A_ [(r, .inr (3, [.ref k, .ref v, .ref dd, .int (nI R.length)])), (k, .inl (X.2.1, 150, .inl (upd kf R.length (nI key)))), (v, .inl (X.2.1, 150, .inl vf))] := hD
    refine lv_aload_n hx hb dX3_add_20 rfl (lv_at hl 0 rfl) ?_
    refine va_get (D := X.1) (ci := 3) (v := .ref v) (C := RX3) (T := TX3) (N := 4) hx hb hts hin3 hown hK hP 0 rfl rfl 1 (by decide) lk15 (fun _ h9 => h9) rfl dX3_add_21 ?_
    refine lv_aload_n hx hb dX3_add_24 rfl (lv_at hl 0 rfl) ?_
    refine va_get (D := X.1) (ci := 3) (v := .int (nI R.length)) (C := RX3) (T := TX3) (N := 4) hx hb hts hin3 hown hK hP 0 rfl rfl 3 (by decide) lk22 (fun _ h9 => h9) rfl dX3_add_25 ?_
    refine lv_iload_n hx hb dX3_add_28 rfl (lv_at hl 2 rfl) ?_
    have hi_2 : vp_in (nI R.length) 150 := vp_in_nI (by omega) (by omega)
    refine va_iast hx hb hK hP hD hS 2 0 rfl rfl hi_2 dX3_add_29 (fun H locs hP hD hS => ?_)
    rw [nI_clamp (by omega)] at hP hD
    have hP : va_P X.1 vwCl [(r, .inr (3, [.ref k, .ref v, .ref dd, .int (nI R.length)])), (k, .inl (X.2.1, 150, .inl (upd kf R.length (nI key)))), (v, .inl (X.2.1, 150, .inl (upd vf R.length x)))] H := hP
    have hD : va_D A_ [(r, .inr (3, [.ref k, .ref v, .ref dd, .int (nI R.length)])), (k, .inl (X.2.1, 150, .inl (upd kf R.length (nI key)))), (v, .inl (X.2.1, 150, .inl (upd vf R.length x)))] := hD
    refine lv_aload_n hx hb dX3_add_30 rfl (lv_at hl 0 rfl) ?_
    refine lv_dup hx hb dX3_add_31 rfl ?_
    refine va_get (D := X.1) (ci := 3) (v := .int (nI R.length)) (C := RX3) (T := TX3) (N := 4) hx hb hts hin3 hown hK hP 0 rfl rfl 3 (by decide) lk22 (fun _ h9 => h9) rfl dX3_add_32 ?_
    refine lv_iconst (v := nI 1) hx hb dX3_add_35 (by decide) ?_
    refine lv_iadd hx hb dX3_add_36 ?_
    refine lv_topi (fun x_3 ex_3 => ?_)
    obtain rfl : x_3 = nI (R.length + 1) := by
      rw [ex_3]
      exact nI_add _ _
    refine va_put (D := X.1) (ci := 3) (v := .int (nI (R.length + 1))) (ty := .int) (C := RX3) (T := TX3) (N := 4) hx hb hts hin3 tyX3 tyX3_ok nmX3 hown hK hP hD hS 0 rfl rfl 3 (by decide) lk22 (fun _ h9 => h9) rfl (by decide +kernel) rfl rfl (Nat.le_of_ble_eq_true rfl) dX3_add_37 (fun H locs hP hD hS => ?_)
    have hP : va_P X.1 vwCl [(r, .inr (3, [.ref k, .ref v, .ref dd, .int (nI (R.length + 1))])), (k, .inl (X.2.1, 150, .inl (upd kf R.length (nI key)))), (v, .inl (X.2.1, 150, .inl (upd vf R.length x)))] H := hP
    have hD : va_D A_ [(r, .inr (3, [.ref k, .ref v, .ref dd, .int (nI (R.length + 1))])), (k, .inl (X.2.1, 150, .inl (upd kf R.length (nI key)))), (v, .inl (X.2.1, 150, .inl (upd vf R.length x)))] := hD
    rw [← (rs_add (x := x) h hk c_7).2] at hP
    refine wM hQ ?_
    exact rtV (upd kf R.length (nI key), upd vf R.length x) hx hb hr hlocks hP hS ((rs_add h hk c_7).1) dX3_add_40
