/-! MY OWN ROWS: contracts over a fixed list of cells, calls in one row, returns in one row -/
/-- the links of nest mates, which no method's own words hold -/
def nw (U : State) : Prop := va_Nw (.methodLinkNest RX5 15 yX2_init RX5) U ∧ va_Nw (.methodLinkNest RX5 53 yX0_init RX5) U ∧ va_Nw (.methodLinkNest RX5 60 yX3_init RX5) U ∧ va_Nw (.methodLinkNest RX4 62 yX5_keyOf RX5) U
theorem nw.same {u U : State} (h : u.vm = U.vm) (k : nw u) : nw U := ⟨va_Nw.same rfl h k.1, va_Nw.same rfl h k.2.1, va_Nw.same rfl h k.2.2.1, va_Nw.same rfl h k.2.2.2⟩
theorem nw.warm {s U : State} (hW : s.WarmedH U.vm) (k : nw s) : nw U := ⟨va_Nw.warmM hW k.1, va_Nw.warmM hW k.2.1, va_Nw.warmM hW k.2.2.1, va_Nw.warmM hW k.2.2.2⟩
abbrev kX : Type := va_G × ClassId × ClassId
abbrev kT (X : kX) : List (ClassId × FieldType) := [(X.2.1, .int), (X.2.2, .long)]
/-- a method's start: its cells, the tables -/
def Kst (X : kX) (ws : va_W) (U : State) : Prop := va_P X.1 vwCl ws U.heap ∧ va_K X.1 vwCl (kT X) U ∧ va_D (fun _ => True) ws ∧ nw U
theorem Kst.blind {X : kX} {ws : va_W} {av : List Value} : FrameBlind (va_Pc av (Kst X ws)) := fun a U g mk q => by
  obtain ⟨h0, h1, h2, h3, h4⟩ := q
  exact ⟨h0, h1, va_K.moved (u := U) (U := U.calling g mk a) (Vm.Alike.refl U.vm) h2, h3, nw.same (u := U) (U := U.calling g mk a) rfl h4⟩
/-- the addresses of a list of cells -/
def inW (ws : va_W) : Nat → Prop := fun q => ∃ (k : Nat) (e : va_E), ws[k]? = some (q, e)
theorem inW.self {ws : va_W} {A : Nat → Prop} (h : va_D A ws) : va_D (inW ws) ws := ⟨h.1, fun k q hk => ⟨k, q.2, hk⟩⟩
/-- cells set at places -/
def setAll : va_W → List Nat → va_W → va_W
  | ws, [], _ => ws
  | ws, _ :: _, [] => ws
  | ws, i :: is, w :: wo => setAll (ws.set i w) is wo
theorem setAll_get : ∀ (is : List Nat) (ws wo : va_W), va_nd is = true → is.length = wo.length → (∀ i ∈ is, i < ws.length) → ∀ k : Nat, (∃ j : Nat, is[j]? = some k ∧ (setAll ws is wo)[k]? = wo[j]?) ∨ (k ∉ is ∧ (setAll ws is wo)[k]? = ws[k]?)
  | [], ws, wo, _, _, _, k => Or.inr ⟨List.not_mem_nil, by simp [setAll]⟩
  | i :: is, ws, [], _, hl, _, k => by simp at hl
  | i :: is, ws, w :: wo, hn, hl, hi, k => by
    simp only [va_nd, Bool.and_eq_true, decide_eq_true_eq] at hn
    have hlt : i < ws.length := hi i List.mem_cons_self
    rcases setAll_get is (ws.set i w) wo hn.2 (by simpa using hl) (fun j hj => by rw [List.length_set]; exact hi j (List.mem_cons_of_mem _ hj)) k with ⟨j, h1, h2⟩ | ⟨h1, h2⟩
    · exact Or.inl ⟨j + 1, by simpa using h1, by simpa [setAll] using h2⟩
    · by_cases hk : k = i
      · subst hk
        refine Or.inl ⟨0, rfl, ?_⟩
        show (setAll (ws.set k w) is wo)[k]? = _
        rw [h2, List.getElem?_set_self hlt]; rfl
      · refine Or.inr ⟨fun h => ?_, ?_⟩
        · rcases List.mem_cons.mp h with h | h
          · exact hk h
          · exact h1 h
        · show (setAll (ws.set i w) is wo)[k]? = _
          rw [h2, List.getElem?_set_ne (fun z => hk z.symm)]
theorem k_at {ws wi : va_W} {is : List Nat} (hC : is.map (fun i => ws[i]?) = wi.map some) {j i : Nat} (h : is[j]? = some i) : ws[i]? = wi[j]? := by
  have h1 := congrArg (fun l => l[j]?) hC
  simp only [List.getElem?_map, h, Option.map_some] at h1
  cases hw : wi[j]? with
  | none => rw [hw] at h1; simp at h1
  | some w => rw [hw] at h1; simpa using h1
theorem k_at2 {ws wi : va_W} {is : List Nat} (hC : is.map (fun i => ws[i]?) = wi.map some) {j : Nat} {q : Nat × va_E} (h : wi[j]? = some q) : ∃ i : Nat, is[j]? = some i ∧ ws[i]? = some q := by
  have h1 := congrArg (fun l => l[j]?) hC
  simp only [List.getElem?_map, h, Option.map_some] at h1
  cases hi : is[j]? with
  | none => rw [hi] at h1; simp at h1
  | some i => rw [hi] at h1; exact ⟨i, rfl, by simpa using h1⟩
theorem k_inA {A : Nat → Prop} {ws wi : va_W} (hD : va_D A ws) {is : List Nat} (hC : is.map (fun i => ws[i]?) = wi.map some) : ∀ q, inW wi q → A q := by
  rintro q ⟨k, e, h⟩
  obtain ⟨i, -, h2⟩ := k_at2 hC h
  exact hD.2 i (q, e) h2
theorem k_sub {ws wi : va_W} {is : List Nat} (hC : is.map (fun i => ws[i]?) = wi.map some) : is.filterMap (fun i => ws[i]?) = wi := by
  have h1 := congrArg (List.filterMap id) hC
  simpa [List.filterMap_map] using h1
theorem k_len {ws wi : va_W} {is : List Nat} (hC : is.map (fun i => ws[i]?) = wi.map some) : is.length = wi.length := by
  have h1 := congrArg List.length hC
  simpa using h1
theorem k_lt {ws wi : va_W} {is : List Nat} (hC : is.map (fun i => ws[i]?) = wi.map some) : ∀ i ∈ is, i < ws.length := by
  intro i hi
  obtain ⟨j, hj⟩ := List.getElem?_of_mem hi
  have h1 := k_at hC hj
  have hl : j < is.length := (List.getElem?_eq_some_iff.mp hj).1
  rw [k_len hC] at hl
  rw [List.getElem?_eq_getElem hl] at h1
  exact (List.getElem?_eq_some_iff.mp h1).1
theorem va_D.adr {A : Nat → Prop} {ws ws' : va_W} (h : ws'.map Prod.fst = ws.map Prod.fst) (hD : va_D A ws) : va_D A ws' := by
  have key : ∀ (k : Nat) (q : Nat × va_E), ws'[k]? = some q → ∃ q0 : Nat × va_E, ws[k]? = some q0 ∧ q0.1 = q.1 := by
    intro k q hk
    have h1 := congrArg (fun l => l[k]?) h
    simp only [List.getElem?_map, hk, Option.map_some] at h1
    cases hw : ws[k]? with
    | none => rw [hw] at h1; simp at h1
    | some q0 => rw [hw] at h1; exact ⟨q0, rfl, by simpa using h1.symm⟩
  refine ⟨fun i j x y hi hj hxy => ?_, fun k q hk => ?_⟩
  · obtain ⟨x0, h1, h2⟩ := key i x hi
    obtain ⟨y0, h3, h4⟩ := key j y hj
    exact hD.1 i j x0 y0 h1 h3 (h2.trans (hxy.trans h4.symm))
  · obtain ⟨q0, h1, h2⟩ := key k q hk
    rw [← h2]; exact hD.2 k q0 h1
theorem setAll_adr {ws wi wo : va_W} {is : List Nat} (hn : va_nd is = true) (hC : is.map (fun i => ws[i]?) = wi.map some) (ha : wo.map Prod.fst = wi.map Prod.fst) : (setAll ws is wo).map Prod.fst = ws.map Prod.fst := by
  have hl : is.length = wo.length := by
    have h1 := congrArg List.length ha
    rw [k_len hC]; simpa using h1.symm
  apply List.ext_getElem?
  intro k
  rw [List.getElem?_map, List.getElem?_map]
  rcases setAll_get is ws wo hn hl (k_lt hC) k with ⟨j, h1, h2⟩ | ⟨-, h2⟩
  · rw [h2, k_at hC h1, ← List.getElem?_map, ← List.getElem?_map, ha]
  · rw [h2]
/-- behind a call: the callee's cells as they are now, the others as they were -/
theorem k_join {A : Nat → Prop} {D : va_G} {cl : List vw_C} {ws wi wo : va_W} {H H1 : Heap} (hP : va_P D cl ws H) (hD : va_D A ws) {is : List Nat} (hn : va_nd is = true) (hC : is.map (fun i => ws[i]?) = wi.map some) (ha : wo.map Prod.fst = wi.map Prod.fst)
    (hk : ∀ q : Nat, q < H.size → ¬ inW wi q → H1[q]? = H[q]?) (hP1 : va_P D cl wo H1) : va_P D cl (setAll ws is wo) H1 ∧ va_D A (setAll ws is wo) := by
  have hl : is.length = wo.length := by
    have h1 := congrArg List.length ha
    rw [k_len hC]; simpa using h1.symm
  refine ⟨fun k q hq => ?_, va_D.adr (setAll_adr hn hC ha) hD⟩
  rcases setAll_get is ws wo hn hl (k_lt hC) k with ⟨j, h1, h2⟩ | ⟨h1, h2⟩
  · exact hP1 j q (by rw [← h2]; exact hq)
  · have hw : ws[k]? = some q := by rw [← h2]; exact hq
    refine (hP k q hw).kept (hk q.1 (hP k q hw).lt ?_)
    rintro ⟨j, e, h3⟩
    obtain ⟨i, h4, h5⟩ := k_at2 hC h3
    have h6 := hD.1 k i q (q.1, e) hw h5 rfl
    subst h6
    exact h1 (List.mem_of_getElem? h4)
/-- the rooms: k frames of calls below -/
def rmk (k : Nat) : Room := { frames := k + 1, cells := 0, slots := 0, locals := 100 * (k + 1) }
section KC
variable (l : Launch) (X : kX) (y : MethodName) (wy : List Cond) (k : Nat) (av : List Value) (wi : va_W)
/-- contracts: a method that writes its cells alone (int or boolean, nothing, a reference), one that writes nothing (int, long, a reference or null) -/
abbrev CWi {S : Type} (post : Int32 → S → Prop) (wo : S → va_W) : Prop := Met l y wy (rmk k) (va_Pc av (Kst X wi)) (va_Qi post (fun u t => va_P X.1 vwCl (wo u) t.heap) (inW wi)) 0 0 (inW wi)
abbrev CWv {S : Type} (post : S → Prop) (wo : S → va_W) : Prop := Met l y wy (rmk k) (va_Pc av (Kst X wi)) (va_Qv post (fun u t => va_P X.1 vwCl (wo u) t.heap) (inW wi)) 0 0 (inW wi)
abbrev CWr {S : Type} (a : Nat) (post : S → Prop) (wo : S → va_W) : Prop := Met l y wy (rmk k) (va_Pc av (Kst X wi)) (va_Qr post (fun u b t => b = a ∧ va_P X.1 vwCl (wo u) t.heap) (inW wi)) 0 0 (inW wi)
abbrev CRi (post : Int32 → Prop) : Prop := Met l y wy (rmk k) (va_Pc av (Kst X wi)) (vp_Si post) 0 0 (fun _ => False)
abbrev CRl (post : Int64 → Prop) : Prop := Met l y wy (rmk k) (va_Pc av (Kst X wi)) (vp_Sl post) 0 0 (fun _ => False)
abbrev CRq (post : Option Nat → Prop) : Prop := Met l y wy (rmk k) (va_Pc av (Kst X wi)) (va_Sq post) 0 0 (fun _ => False)
end KC
section KK
variable {p : Program} {l : Launch} {e : Env} {R : Room} {s : State} {m : MethodId} {args : Array Value} {below : List Frame} {meth : Method} {c : Code} {H : Heap} {locs : List Loc} {cells slots : Nat} {Q : State → Prop}
variable {X : kX} {y : MethodName} {wy : List Cond} {k : Nat} {ws wi : va_W} {A : Nat → Prop} {H0 : Heap} {cc bytes : ByteArray} {nL maxL n index pc ci b : Nat} {Ts : List Cond} {own C : String} {ret : Option FieldType} {As rest st0 : List Value} {ls : Array Slot} {is : List Nat} {fs : List Value} {T : u_T} {N : Nat}
theorem k_preV {av : List Value} (hav : av = .ref b :: As) (hK : va_K X.1 vwCl (kT X) s) (hN : nw s) (hP : va_P X.1 vwCl ws H) (hD : va_D A ws) (hn : va_nd is = true) (hC : is.map (fun i => ws[i]?) = wi.map some) (q0 : Nat) (hcl : vwCl[ci]? = some (C, T, N)) (he : wi[q0]? = some (b, .inr (ci, fs))) : PreV s H C b (va_Pc av (Kst X wi)) As := by
  subst hav
  exact ⟨Kst.blind, va_recv hK (hP.sub is (k_sub hC)) hcl he, fun U hU hW => ⟨rfl, by rw [hU]; exact hP.sub is (k_sub hC), va_K.moved hW.alike hK, (hD.sub is hn hC).weaken (fun _ _ _ _ => trivial), hN.warm hW⟩⟩
theorem k_preS {av : List Value} (hav : av = As) (hK : va_K X.1 vwCl (kT X) s) (hN : nw s) (hP : va_P X.1 vwCl ws H) (hD : va_D A ws) (hn : va_nd is = true) (hC : is.map (fun i => ws[i]?) = wi.map some) : PreS s H (va_Pc av (Kst X wi)) As := by
  subst hav
  exact ⟨Kst.blind, fun U hU hW => ⟨rfl, by rw [hU]; exact hP.sub is (k_sub hC), va_K.moved hW.alike hK, (hD.sub is hn hC).weaken (fun _ _ _ _ => trivial), hN.warm hW⟩⟩
theorem ckVi {S : Type} {post : Int32 → S → Prop} {wo : S → va_W} (q0 : Nat) (is : List Nat) (hM : CWi l X y wy k (.ref b :: As) wi post wo) (Fx : CallFix p m c cc nL s args Ts own) (cw : CallW R s args own C index y bytes maxL ret wy (rmk k) 0 0 n) (hK : va_K X.1 vwCl (kT X) s) (hN : nw s) (hP : va_P X.1 vwCl ws H) (hD : va_D A ws) (hS : va_S A H0 H locs) (hn : va_nd is = true) (hC : is.map (fun i => ws[i]?) = wi.map some) (hcl : vwCl[ci]? = some (C, T, N)) (he : wi[q0]? = some (b, .inr (ci, fs))) (ha : ∀ u, (wo u).map Prod.fst = wi.map Prod.fst)
    (hlen : As.length = n) (hsize : ls.size = nL) (hst : st0 = As.reverse ++ .ref b :: rest) (hW : (rest.map fun v => v.category).sum ≤ 8) (hdg : decode cc pc = .ok (.invokevirtual index, 3)) (hf : cells ≤ R.cells ∧ slots ≤ R.slots)
    (kk : ∀ (r : Int32) (u : S) (H1 : Heap) (locs1 : List Loc), post r u → va_P X.1 vwCl (setAll ws is (wo u)) H1 → va_D A (setAll ws is (wo u)) → va_S A H0 H1 locs1 → W p l e R s m args below meth c H1 locs1 cells slots Q (F0 m (pc + 3) ls (.int r :: rest))) : W p l e R s m args below meth c H locs cells slots Q (F0 m pc ls st0) := by
  refine va_calli (va_runV (As := As) (rest := rest) Fx hM cw (k_preV rfl hK hN hP hD hn hC q0 hcl he) rfl hlen hsize hst (lv_room hW) hdg hf) hS (fun q _ h => k_inA hD hC q h) (k_inA hD hC) (fun r u t H1 locs1 ht hvm hp hB hz hk hS1 => ?_)
  rw [ht] at hB
  obtain ⟨hP1, hD1⟩ := k_join hP hD hn hC (ha u) hk hB
  exact kk r u H1 locs1 hp hP1 hD1 hS1
theorem ckVv {S : Type} {post : S → Prop} {wo : S → va_W} (q0 : Nat) (is : List Nat) (hM : CWv l X y wy k (.ref b :: As) wi post wo) (Fx : CallFix p m c cc nL s args Ts own) (cw : CallW R s args own C index y bytes maxL ret wy (rmk k) 0 0 n) (hK : va_K X.1 vwCl (kT X) s) (hN : nw s) (hP : va_P X.1 vwCl ws H) (hD : va_D A ws) (hS : va_S A H0 H locs) (hn : va_nd is = true) (hC : is.map (fun i => ws[i]?) = wi.map some) (hcl : vwCl[ci]? = some (C, T, N)) (he : wi[q0]? = some (b, .inr (ci, fs))) (ha : ∀ u, (wo u).map Prod.fst = wi.map Prod.fst)
    (hlen : As.length = n) (hsize : ls.size = nL) (hst : st0 = As.reverse ++ .ref b :: rest) (hW : (rest.map fun v => v.category).sum ≤ 8) (hdg : decode cc pc = .ok (.invokevirtual index, 3)) (hf : cells ≤ R.cells ∧ slots ≤ R.slots)
    (kk : ∀ (u : S) (H1 : Heap) (locs1 : List Loc), post u → va_P X.1 vwCl (setAll ws is (wo u)) H1 → va_D A (setAll ws is (wo u)) → va_S A H0 H1 locs1 → W p l e R s m args below meth c H1 locs1 cells slots Q (F0 m (pc + 3) ls rest)) : W p l e R s m args below meth c H locs cells slots Q (F0 m pc ls st0) := by
  refine va_callv (va_runV (As := As) (rest := rest) Fx hM cw (k_preV rfl hK hN hP hD hn hC q0 hcl he) rfl hlen hsize hst (lv_room hW) hdg hf) hS (fun q _ h => k_inA hD hC q h) (k_inA hD hC) (fun u t H1 locs1 ht hvm hp hB hz hk hS1 => ?_)
  rw [ht] at hB
  obtain ⟨hP1, hD1⟩ := k_join hP hD hn hC (ha u) hk hB
  exact kk u H1 locs1 hp hP1 hD1 hS1
theorem ckVr {S : Type} {a : Nat} {post : S → Prop} {wo : S → va_W} (q0 : Nat) (is : List Nat) (hM : CWr l X y wy k (.ref b :: As) wi a post wo) (Fx : CallFix p m c cc nL s args Ts own) (cw : CallW R s args own C index y bytes maxL ret wy (rmk k) 0 0 n) (hK : va_K X.1 vwCl (kT X) s) (hN : nw s) (hP : va_P X.1 vwCl ws H) (hD : va_D A ws) (hS : va_S A H0 H locs) (hn : va_nd is = true) (hC : is.map (fun i => ws[i]?) = wi.map some) (hcl : vwCl[ci]? = some (C, T, N)) (he : wi[q0]? = some (b, .inr (ci, fs))) (ha : ∀ u, (wo u).map Prod.fst = wi.map Prod.fst)
    (hlen : As.length = n) (hsize : ls.size = nL) (hst : st0 = As.reverse ++ .ref b :: rest) (hW : (rest.map fun v => v.category).sum ≤ 8) (hdg : decode cc pc = .ok (.invokevirtual index, 3)) (hf : cells ≤ R.cells ∧ slots ≤ R.slots)
    (kk : ∀ (u : S) (H1 : Heap) (locs1 : List Loc), post u → va_P X.1 vwCl (setAll ws is (wo u)) H1 → va_D A (setAll ws is (wo u)) → va_S A H0 H1 locs1 → W p l e R s m args below meth c H1 locs1 cells slots Q (F0 m (pc + 3) ls (.ref a :: rest))) : W p l e R s m args below meth c H locs cells slots Q (F0 m pc ls st0) := by
  refine va_callr (va_runV (As := As) (rest := rest) Fx hM cw (k_preV rfl hK hN hP hD hn hC q0 hcl he) rfl hlen hsize hst (lv_room hW) hdg hf) hS (fun q _ h => k_inA hD hC q h) (k_inA hD hC) (fun u ra t H1 locs1 ht hvm hp hB hz hk hS1 => ?_)
  obtain ⟨rfl, hB⟩ := hB
  rw [ht] at hB
  obtain ⟨hP1, hD1⟩ := k_join hP hD hn hC (ha u) hk hB
  exact kk u H1 locs1 hp hP1 hD1 hS1
theorem ckSv {S : Type} {post : S → Prop} {wo : S → va_W} (is : List Nat) (hM : CWv l X y wy k As wi post wo) (Fx : CallFix p m c cc nL s args Ts own) (cw : CallB R s args own index y bytes maxL ret wy (rmk k) 0 0 n ∧ (Cond.static y).before args s = true) (hK : va_K X.1 vwCl (kT X) s) (hN : nw s) (hP : va_P X.1 vwCl ws H) (hD : va_D A ws) (hS : va_S A H0 H locs) (hn : va_nd is = true) (hC : is.map (fun i => ws[i]?) = wi.map some) (ha : ∀ u, (wo u).map Prod.fst = wi.map Prod.fst)
    (hlen : As.length = n) (hsize : ls.size = nL) (hst : st0 = As.reverse ++ rest) (hW : (rest.map fun v => v.category).sum ≤ 8) (hdg : decode cc pc = .ok (.invokestatic index, 3)) (hf : cells ≤ R.cells ∧ slots ≤ R.slots)
    (kk : ∀ (u : S) (H1 : Heap) (locs1 : List Loc), post u → va_P X.1 vwCl (setAll ws is (wo u)) H1 → va_D A (setAll ws is (wo u)) → va_S A H0 H1 locs1 → W p l e R s m args below meth c H1 locs1 cells slots Q (F0 m (pc + 3) ls rest)) : W p l e R s m args below meth c H locs cells slots Q (F0 m pc ls st0) := by
  refine va_callv (va_runS (As := As) (rest := rest) Fx hM cw (k_preS rfl hK hN hP hD hn hC) rfl hlen hsize hst (lv_room hW) hdg hf) hS (fun q _ h => k_inA hD hC q h) (k_inA hD hC) (fun u t H1 locs1 ht hvm hp hB hz hk hS1 => ?_)
  rw [ht] at hB
  obtain ⟨hP1, hD1⟩ := k_join hP hD hn hC (ha u) hk hB
  exact kk u H1 locs1 hp hP1 hD1 hS1
theorem ckVRi {post : Int32 → Prop} (q0 : Nat) (is : List Nat) (hM : CRi l X y wy k (.ref b :: As) wi post) (Fx : CallFix p m c cc nL s args Ts own) (cw : CallW R s args own C index y bytes maxL ret wy (rmk k) 0 0 n) (hK : va_K X.1 vwCl (kT X) s) (hN : nw s) (hP : va_P X.1 vwCl ws H) (hD : va_D A ws) (hn : va_nd is = true) (hC : is.map (fun i => ws[i]?) = wi.map some) (hcl : vwCl[ci]? = some (C, T, N)) (he : wi[q0]? = some (b, .inr (ci, fs)))
    (hlen : As.length = n) (hsize : ls.size = nL) (hst : st0 = As.reverse ++ .ref b :: rest) (hW : (rest.map fun v => v.category).sum ≤ 8) (hdg : decode cc pc = .ok (.invokevirtual index, 3)) (hf : cells ≤ R.cells ∧ slots ≤ R.slots)
    (kk : ∀ r : Int32, post r → W p l e R s m args below meth c H locs cells slots Q (F0 m (pc + 3) ls (.int r :: rest))) : W p l e R s m args below meth c H locs cells slots Q (F0 m pc ls st0) :=
  vp_callSi (va_runV (As := As) (rest := rest) Fx hM cw (k_preV rfl hK hN hP hD hn hC q0 hcl he) rfl hlen hsize hst (lv_room hW) hdg hf).run kk
theorem ckVRl {post : Int64 → Prop} (q0 : Nat) (is : List Nat) (hM : CRl l X y wy k (.ref b :: As) wi post) (Fx : CallFix p m c cc nL s args Ts own) (cw : CallW R s args own C index y bytes maxL ret wy (rmk k) 0 0 n) (hK : va_K X.1 vwCl (kT X) s) (hN : nw s) (hP : va_P X.1 vwCl ws H) (hD : va_D A ws) (hn : va_nd is = true) (hC : is.map (fun i => ws[i]?) = wi.map some) (hcl : vwCl[ci]? = some (C, T, N)) (he : wi[q0]? = some (b, .inr (ci, fs)))
    (hlen : As.length = n) (hsize : ls.size = nL) (hst : st0 = As.reverse ++ .ref b :: rest) (hW : (rest.map fun v => v.category).sum ≤ 8) (hdg : decode cc pc = .ok (.invokevirtual index, 3)) (hf : cells ≤ R.cells ∧ slots ≤ R.slots)
    (kk : ∀ r : Int64, post r → W p l e R s m args below meth c H locs cells slots Q (F0 m (pc + 3) ls (.long r :: rest))) : W p l e R s m args below meth c H locs cells slots Q (F0 m pc ls st0) :=
  vp_callSl (va_runV (As := As) (rest := rest) Fx hM cw (k_preV rfl hK hN hP hD hn hC q0 hcl he) rfl hlen hsize hst (lv_room hW) hdg hf).run kk
theorem ckVRq {post : Option Nat → Prop} (q0 : Nat) (is : List Nat) (hM : CRq l X y wy k (.ref b :: As) wi post) (Fx : CallFix p m c cc nL s args Ts own) (cw : CallW R s args own C index y bytes maxL ret wy (rmk k) 0 0 n) (hK : va_K X.1 vwCl (kT X) s) (hN : nw s) (hP : va_P X.1 vwCl ws H) (hD : va_D A ws) (hn : va_nd is = true) (hC : is.map (fun i => ws[i]?) = wi.map some) (hcl : vwCl[ci]? = some (C, T, N)) (he : wi[q0]? = some (b, .inr (ci, fs)))
    (hlen : As.length = n) (hsize : ls.size = nL) (hst : st0 = As.reverse ++ .ref b :: rest) (hW : (rest.map fun v => v.category).sum ≤ 8) (hdg : decode cc pc = .ok (.invokevirtual index, 3)) (hf : cells ≤ R.cells ∧ slots ≤ R.slots)
    (kk : ∀ r : Option Nat, post r → W p l e R s m args below meth c H locs cells slots Q (F0 m (pc + 3) ls (va_rf r :: rest))) : W p l e R s m args below meth c H locs cells slots Q (F0 m pc ls st0) :=
  va_csq (va_runV (As := As) (rest := rest) Fx hM cw (k_preV rfl hK hN hP hD hn hC q0 hcl he) rfl hlen hsize hst (lv_room hW) hdg hf).run kk
theorem ckSRi {post : Int32 → Prop} (is : List Nat) (hM : CRi l X y wy k As wi post) (Fx : CallFix p m c cc nL s args Ts own) (cw : CallB R s args own index y bytes maxL ret wy (rmk k) 0 0 n ∧ (Cond.static y).before args s = true) (hK : va_K X.1 vwCl (kT X) s) (hN : nw s) (hP : va_P X.1 vwCl ws H) (hD : va_D A ws) (hn : va_nd is = true) (hC : is.map (fun i => ws[i]?) = wi.map some)
    (hlen : As.length = n) (hsize : ls.size = nL) (hst : st0 = As.reverse ++ rest) (hW : (rest.map fun v => v.category).sum ≤ 8) (hdg : decode cc pc = .ok (.invokestatic index, 3)) (hf : cells ≤ R.cells ∧ slots ≤ R.slots)
    (kk : ∀ r : Int32, post r → W p l e R s m args below meth c H locs cells slots Q (F0 m (pc + 3) ls (.int r :: rest))) : W p l e R s m args below meth c H locs cells slots Q (F0 m pc ls st0) :=
  vp_callSi (va_runS (As := As) (rest := rest) Fx hM cw (k_preS rfl hK hN hP hD hn hC) rfl hlen hsize hst (lv_room hW) hdg hf).run kk
theorem ckSRl {post : Int64 → Prop} (is : List Nat) (hM : CRl l X y wy k As wi post) (Fx : CallFix p m c cc nL s args Ts own) (cw : CallB R s args own index y bytes maxL ret wy (rmk k) 0 0 n ∧ (Cond.static y).before args s = true) (hK : va_K X.1 vwCl (kT X) s) (hN : nw s) (hP : va_P X.1 vwCl ws H) (hD : va_D A ws) (hn : va_nd is = true) (hC : is.map (fun i => ws[i]?) = wi.map some)
    (hlen : As.length = n) (hsize : ls.size = nL) (hst : st0 = As.reverse ++ rest) (hW : (rest.map fun v => v.category).sum ≤ 8) (hdg : decode cc pc = .ok (.invokestatic index, 3)) (hf : cells ≤ R.cells ∧ slots ≤ R.slots)
    (kk : ∀ r : Int64, post r → W p l e R s m args below meth c H locs cells slots Q (F0 m (pc + 3) ls (.long r :: rest))) : W p l e R s m args below meth c H locs cells slots Q (F0 m pc ls st0) :=
  vp_callSl (va_runS (As := As) (rest := rest) Fx hM cw (k_preS rfl hK hN hP hD hn hC) rfl hlen hsize hst (lv_room hW) hdg hf).run kk
theorem ckNRi {post : Int32 → Prop} {host : String} (is : List Nat) (hM : CRi l X y wy k As wi post) (Fx : CallFix p m c cc nL s args Ts own) (cw : va_CN R s args own index y host bytes maxL ret wy (rmk k) 0 0 n ∧ (Cond.static y).before args s = true ∧ True) (hK : va_K X.1 vwCl (kT X) s) (hN : nw s) (hP : va_P X.1 vwCl ws H) (hD : va_D A ws) (hn : va_nd is = true) (hC : is.map (fun i => ws[i]?) = wi.map some)
    (hlen : As.length = n) (hsize : ls.size = nL) (hst : st0 = As.reverse ++ rest) (hW : (rest.map fun v => v.category).sum ≤ 8) (hdg : decode cc pc = .ok (.invokestatic index, 3)) (hf : cells ≤ R.cells ∧ slots ≤ R.slots)
    (kk : ∀ r : Int32, post r → W p l e R s m args below meth c H locs cells slots Q (F0 m (pc + 3) ls (.int r :: rest))) : W p l e R s m args below meth c H locs cells slots Q (F0 m pc ls st0) :=
  vp_callSi (va_runSN (As := As) (rest := rest) Fx hM cw (k_preS rfl hK hN hP hD hn hC) rfl hlen hsize hst (lv_room hW) hdg hf).run kk
end KK
section KR
variable {p : Program} {l : Launch} {e : Env} {R : Room} {s : State} {m : MethodId} {args : Array Value} {below : List Frame} {meth : Method} {c : Code} {H : Heap} {locs : List Loc} {X : kX} {wi : va_W} {cc : ByteArray} {pc : Nat} {ls : Array Slot}
/-- returns -/
theorem rtI {S : Type} {post : Int32 → S → Prop} {wo : S → va_W} {v : Int32} (u : S) (hx : p.tables.exec = Jvm.exec) (hb : c.code = cc) (hr : meth.sig.returnType = some .int) (hlocks : meth.locks = false) (hP : va_P X.1 vwCl (wo u) H) {A : Nat → Prop} (hS : va_S A s.heap H locs) (hpost : post v u) (hdg : decode cc pc = .ok (.ireturn, 1)) : W p l e R s m args below meth c H locs 0 0 (MQ below (va_Qi post (fun u t => va_P X.1 vwCl (wo u) t.heap) A) args s 0 0 A) (F0 m pc ls [.int v]) :=
  W.iret hx hb hr (fun t ht _ => ⟨⟨v, u, rfl, hpost, by show va_P X.1 vwCl (wo u) t.heap; rw [ht]; exact hP⟩, hS.F ht⟩) hS.2.2 hdg hlocks
theorem rtZ {S : Type} {post : Int32 → S → Prop} {wo : S → va_W} {v : Int32} (u : S) (hx : p.tables.exec = Jvm.exec) (hb : c.code = cc) (hr : meth.sig.returnType = some .boolean) (hlocks : meth.locks = false) (hn : narrow .boolean (.int v) = .int v) (hP : va_P X.1 vwCl (wo u) H) {A : Nat → Prop} (hS : va_S A s.heap H locs) (hpost : post v u) (hdg : decode cc pc = .ok (.ireturn, 1)) : W p l e R s m args below meth c H locs 0 0 (MQ below (va_Qi post (fun u t => va_P X.1 vwCl (wo u) t.heap) A) args s 0 0 A) (F0 m pc ls [.int v]) :=
  W.zret hx hb hr hn (fun t ht _ => ⟨⟨v, u, rfl, hpost, by show va_P X.1 vwCl (wo u) t.heap; rw [ht]; exact hP⟩, hS.F ht⟩) hS.2.2 hdg hlocks
theorem rtV {S : Type} {post : S → Prop} {wo : S → va_W} (u : S) (hx : p.tables.exec = Jvm.exec) (hb : c.code = cc) (hr : meth.sig.returnType = none) (hlocks : meth.locks = false) (hP : va_P X.1 vwCl (wo u) H) {A : Nat → Prop} (hS : va_S A s.heap H locs) (hpost : post u) (hdg : decode cc pc = .ok (.return_, 1)) : W p l e R s m args below meth c H locs 0 0 (MQ below (va_Qv post (fun u t => va_P X.1 vwCl (wo u) t.heap) A) args s 0 0 A) (F0 m pc ls []) :=
  W.vret hx hb hr (fun t ht _ => ⟨⟨u, rfl, hpost, by show va_P X.1 vwCl (wo u) t.heap; rw [ht]; exact hP⟩, hS.F ht⟩) hS.2.2 hdg hlocks
theorem rtA {S : Type} {post : S → Prop} {wo : S → va_W} {a : Nat} {nm : String} (u : S) (hx : p.tables.exec = Jvm.exec) (hb : c.code = cc) (hr : meth.sig.returnType = some (.object nm)) (hlocks : meth.locks = false) (hP : va_P X.1 vwCl (wo u) H) {A : Nat → Prop} (hS : va_S A s.heap H locs) (hpost : post u) (hdg : decode cc pc = .ok (.areturn, 1)) : W p l e R s m args below meth c H locs 0 0 (MQ below (va_Qr post (fun u b t => b = a ∧ va_P X.1 vwCl (wo u) t.heap) A) args s 0 0 A) (F0 m pc ls [.ref a]) :=
  W.aret hx hb hr (Or.inl ⟨nm, rfl⟩) (Or.inr ⟨a, rfl⟩) (fun t ht _ => ⟨⟨u, a, rfl, hpost, rfl, by show va_P X.1 vwCl (wo u) t.heap; rw [ht]; exact hP⟩, hS.F ht⟩) hS.2.2 hdg hlocks
theorem rtRI {post : Int32 → Prop} {v : Int32} (hx : p.tables.exec = Jvm.exec) (hb : c.code = cc) (hr : meth.sig.returnType = some .int) (hlocks : meth.locks = false) (hpost : post v) (hdg : decode cc pc = .ok (.ireturn, 1)) : W p l e R s m args below meth c s.heap [] 0 0 (MQ below (vp_Si post) args s 0 0 (fun _ => False)) (F0 m pc ls [.int v]) :=
  W.iret hx hb hr (fun t ht _ => ⟨v, rfl, hpost, ht⟩) (fun _ h => by cases h) hdg hlocks
theorem rtRZ {post : Int32 → Prop} {v : Int32} (hx : p.tables.exec = Jvm.exec) (hb : c.code = cc) (hr : meth.sig.returnType = some .boolean) (hlocks : meth.locks = false) (hn : narrow .boolean (.int v) = .int v) (hpost : post v) (hdg : decode cc pc = .ok (.ireturn, 1)) : W p l e R s m args below meth c s.heap [] 0 0 (MQ below (vp_Si post) args s 0 0 (fun _ => False)) (F0 m pc ls [.int v]) :=
  W.zret hx hb hr hn (fun t ht _ => ⟨v, rfl, hpost, ht⟩) (fun _ h => by cases h) hdg hlocks
theorem rtRL {post : Int64 → Prop} {v : Int64} (hx : p.tables.exec = Jvm.exec) (hb : c.code = cc) (hr : meth.sig.returnType = some .long) (hlocks : meth.locks = false) (hpost : post v) (hdg : decode cc pc = .ok (.lreturn, 1)) : W p l e R s m args below meth c s.heap [] 0 0 (MQ below (vp_Sl post) args s 0 0 (fun _ => False)) (F0 m pc ls [.long v]) :=
  W.lret hx hb hr (fun t ht _ => ⟨v, rfl, hpost, ht⟩) (fun _ h => by cases h) hdg hlocks
theorem rtRQ {post : Option Nat → Prop} {v : Option Nat} {w : Value} {nm : String} (hw : w = va_rf v) (hx : p.tables.exec = Jvm.exec) (hb : c.code = cc) (hr : meth.sig.returnType = some (.object nm)) (hlocks : meth.locks = false) (hpost : post v) (hdg : decode cc pc = .ok (.areturn, 1)) : W p l e R s m args below meth c s.heap [] 0 0 (MQ below (va_Sq post) args s 0 0 (fun _ => False)) (F0 m pc ls [w]) := by
  subst hw
  exact W.aret hx hb hr (Or.inl ⟨nm, rfl⟩) (va_rf_or v) (fun t ht _ => ⟨v, rfl, hpost, ht⟩) (fun _ h => by cases h) hdg hlocks
end KR
section KQ
variable {p : Program} {l : Launch} {e : Env} {R : Room} {s : State} {m : MethodId} {args : Array Value} {below : List Frame} {meth : Method} {c : Code} {H : Heap} {locs : List Loc} {cells slots : Nat} {Q Q' : State → Prop} {g : JFrame}
theorem wM (h : ∀ t, Q t → Q' t) (k : W p l e R s m args below meth c H locs cells slots Q g) : W p l e R s m args below meth c H locs cells slots Q' g := fun T hT X => by
  obtain ⟨t, a, b⟩ := k T hT X
  exact ⟨t, a, h t b⟩
theorem wQ (k : ∀ Q' : State → Prop, (∀ t, Q t → Q' t) → W p l e R s m args below meth c H locs cells slots Q' g) : W p l e R s m args below meth c H locs cells slots Q g := k Q (fun _ h => h)
end KQ
theorem ii_m1 {a : Nat} (h : 1 ≤ a) : nI a + Int32.ofInt (-1) = nI (a - 1) := by
  obtain ⟨b, rfl⟩ : ∃ b, a = b + 1 := ⟨a - 1, by omega⟩
  rw [show Int32.ofInt (-1) = -1 from by decide, Nat.add_sub_cancel]
  exact pk_m1 b
theorem sw_cases (x : Int32) (n : Nat) : (x.toInt < 0 ∨ (n : Int) ≤ x.toInt) ∨ ∃ j : Nat, j < n ∧ x = nI j := by
  by_cases h0 : x < 0
  · exact Or.inl (Or.inl (by have := Int32.lt_iff_toInt_lt.mp h0; simpa using this))
  · obtain ⟨j, hj, rfl⟩ := nI_of h0
    rw [nI_toInt hj]
    by_cases h : j < n
    · exact Or.inr ⟨j, h, rfl⟩
    · exact Or.inl (Or.inr (by omega))
theorem sw_lt3 {j : Nat} (h : j < 3) : j = 0 ∨ j = 1 ∨ j = 2 := by omega
theorem sw_lt6 {j : Nat} (h : j < 6) : j = 0 ∨ j = 1 ∨ j = 2 ∨ j = 3 ∨ j = 4 ∨ j = 5 := by omega
theorem sw_lt11 {j : Nat} (h : j < 11) : j = 0 ∨ j = 1 ∨ j = 2 ∨ j = 3 ∨ j = 4 ∨ j = 5 ∨ j = 6 ∨ j = 7 ∨ j = 8 ∨ j = 9 ∨ j = 10 := by omega
theorem sw_lt16 {j : Nat} (h : j < 16) : j = 0 ∨ j = 1 ∨ j = 2 ∨ j = 3 ∨ j = 4 ∨ j = 5 ∨ j = 6 ∨ j = 7 ∨ j = 8 ∨ j = 9 ∨ j = 10 ∨ j = 11 ∨ j = 12 ∨ j = 13 ∨ j = 14 ∨ j = 15 := by omega
