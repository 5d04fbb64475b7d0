/-! MY ROWS FOR CONSTRUCTORS: contracts that make cells -/
def rmn (k mc ms : Nat) : Room := { frames := k + 1, cells := mc, slots := ms, locals := 100 * (k + 1) }
section IC
variable (l : Launch) (X : kX) (y : MethodName) (wy : List Cond) (k mc ms : Nat) (av : List Value) (wi : va_W)
abbrev CNv (sq : Nat) {S : Type} (post : S → Prop) (wo : S → va_W) : Prop := Met l y wy (rmn k mc ms) (va_Pc av (fun U => U.heap.size = sq ∧ Kst X wi U)) (va_Qv post (fun u t => va_P X.1 vwCl (wo u) t.heap ∧ va_D (va_A wi sq) (wo u)) (va_A wi sq)) mc ms (va_A wi sq)
end IC
theorem Kst.blindN {X : kX} {ws : va_W} {av : List Value} {sq : Nat} : FrameBlind (va_Pc av (fun U => U.heap.size = sq ∧ Kst X ws U)) := fun a U g mk q => by
  obtain ⟨h0, hq, h1, h2, h3, h4⟩ := q
  exact ⟨h0, hq, h1, va_K.moved (u := U) (U := U.calling g mk a) (Vm.Alike.refl U.vm) h2, h3, nw.same (u := U) (U := U.calling g mk a) rfl h4⟩
section IK
variable {p : Program} {l : Launch} {e : Env} {R : Room} {s : State} {m : MethodId} {args : Array Value} {below : List Frame} {meth : Method} {c : Code} {H : Heap} {locs : List Loc} {cells slots : Nat} {Q : State → Prop}
variable {X : kX} {y : MethodName} {wy : List Cond} {k mc ms : Nat} {ws wi : va_W} {A : Nat → Prop} {H0 : Heap} {cc bytes : ByteArray} {nL maxL n index pc b : Nat} {Ts : List Cond} {own : String} {As rest st0 : List Value} {ls : Array Slot}
theorem ckAi (hx : p.tables.exec = Jvm.exec) (hb : c.code = cc) (harr : (Cond.arrayClass .int).before args s = true) (hK : va_K X.1 vwCl (kT X) s) (hP : va_P X.1 vwCl ws H) (hD : va_D A ws) (hS : va_S A H0 H locs) (hA : ∀ q, H0.size ≤ q → A q) {N' : Nat} (hN : N' ≤ 100000) (hcells : cells + 1 ≤ R.cells) (hslots : slots + N' ≤ R.slots) (hdg : decode cc pc = .ok (.newarray .int, 2))
    (kk : ∀ (q : Nat) (H1 : Heap), va_P X.1 vwCl (ws ++ [(q, .inl (X.2.1, N', .inl (fun _ => 0)))]) H1 → va_D A (ws ++ [(q, .inl (X.2.1, N', .inl (fun _ => 0)))]) → va_S A H0 H1 locs → W p l e R s m args below meth c H1 locs (cells + 1) (slots + N') Q (F0 m (pc + 2) ls (.ref q :: rest))) : W p l e R s m args below meth c H locs cells slots Q (F0 m pc ls (.int (nI N') :: rest)) := by
  refine va_newa (atype := .int) hx hb harr rfl hK hP hD hS hA (N' := N') (a0 := (N', .inl (fun _ => 0))) (fun _ => rfl) (nI_pos (by omega)) (nI_clamp (by omega)) (by show N' * 4 ≤ _; omega) hcells hslots hdg (fun q cA H1 hK1 hP1 hD1 hS1 => ?_)
  have h1 : s.vm.findClass _ = some cA := (hK1.2 2 (cA, .int) rfl).2
  have h2 : s.vm.findClass _ = some X.2.1 := (hK.2 0 (X.2.1, .int) rfl).2
  have h3 : cA = X.2.1 := Option.some.inj (h1.symm.trans h2)
  subst h3
  exact kk q H1 hP1 hD1 hS1
theorem ckAl (hx : p.tables.exec = Jvm.exec) (hb : c.code = cc) (harr : (Cond.arrayClass .long).before args s = true) (hK : va_K X.1 vwCl (kT X) s) (hP : va_P X.1 vwCl ws H) (hD : va_D A ws) (hS : va_S A H0 H locs) (hA : ∀ q, H0.size ≤ q → A q) {N' : Nat} (hN : N' ≤ 100000) (hcells : cells + 1 ≤ R.cells) (hslots : slots + N' ≤ R.slots) (hdg : decode cc pc = .ok (.newarray .long, 2))
    (kk : ∀ (q : Nat) (H1 : Heap), va_P X.1 vwCl (ws ++ [(q, .inl (X.2.2, N', .inr (.inl (fun _ => 0))))]) H1 → va_D A (ws ++ [(q, .inl (X.2.2, N', .inr (.inl (fun _ => 0))))]) → va_S A H0 H1 locs → W p l e R s m args below meth c H1 locs (cells + 1) (slots + N') Q (F0 m (pc + 2) ls (.ref q :: rest))) : W p l e R s m args below meth c H locs cells slots Q (F0 m pc ls (.int (nI N') :: rest)) := by
  refine va_newa (atype := .long) hx hb harr rfl hK hP hD hS hA (N' := N') (a0 := (N', .inr (.inl (fun _ => 0)))) (fun _ => rfl) (nI_pos (by omega)) (nI_clamp (by omega)) (by show N' * 8 ≤ _; omega) hcells hslots hdg (fun q cA H1 hK1 hP1 hD1 hS1 => ?_)
  have h1 : s.vm.findClass _ = some cA := (hK1.2 2 (cA, .long) rfl).2
  have h2 : s.vm.findClass _ = some X.2.2 := (hK.2 1 (X.2.2, .long) rfl).2
  have h3 : cA = X.2.2 := Option.some.inj (h1.symm.trans h2)
  subst h3
  exact kk q H1 hP1 hD1 hS1
theorem k_preI (hK : va_K X.1 vwCl (kT X) s) (hN : nw s) (hP : va_P X.1 vwCl ws H) (hD : va_D A ws) {isC : List Nat} (hn : va_nd isC = true) (hC : isC.map (fun i => ws[i]?) = wi.map some) : PreS s H (va_Pc (.ref b :: As) (fun U => U.heap.size = H.size ∧ Kst X wi U)) (.ref b :: As) :=
  ⟨Kst.blindN, fun U hU hW => ⟨rfl, by rw [hU], by rw [hU]; exact hP.sub isC (k_sub hC), va_K.moved hW.alike hK, (hD.sub isC hn hC).weaken (fun _ _ _ _ => trivial), hN.warm hW⟩⟩
theorem ckI {S : Type} {post : S → Prop} {wo : S → va_W} (isC isR : List Nat) (wr : va_W) (hM : CNv l X y wy k mc ms (.ref b :: As) wi H.size post wo) (Fx : CallFix p m c cc nL s args Ts own) (cw : CallB R s args own index y bytes maxL none wy (rmn k mc ms) mc ms n ∧ y.name = "<init>" ∧ (Cond.instanceMethod y).before args s = true) (hK : va_K X.1 vwCl (kT X) s) (hN : nw s) (hP : va_P X.1 vwCl ws H) (hD : va_D A ws) (hS : va_S A H0 H locs) (hA : ∀ q, H0.size ≤ q → A q) (hn : va_nd isC = true) (hC : isC.map (fun i => ws[i]?) = wi.map some) (hR : isR.map (fun i => ws[i]?) = wr.map some) (hnR : va_nd isR = true) (hdis : ∀ i ∈ isR, i ∉ isC)
    (hlen : As.length = n) (hsize : ls.size = nL) (hst : st0 = As.reverse ++ .ref b :: rest) (hW : (rest.map fun v => v.category).sum ≤ 8) (hdg : decode cc pc = .ok (.invokespecial index, 3)) (hf : cells + mc ≤ R.cells ∧ slots + ms ≤ R.slots)
    (kk : ∀ (u : S) (H1 : Heap) (locs1 : List Loc), post u → va_P X.1 vwCl (wr ++ wo u) H1 → va_D A (wr ++ wo u) → va_S A H0 H1 locs1 → W p l e R s m args below meth c H1 locs1 (cells + mc) (slots + ms) Q (F0 m (pc + 3) ls rest)) : W p l e R s m args below meth c H locs cells slots Q (F0 m pc ls st0) := by
  have hFc := va_free (wc := wi) hD hS hA isC hC
  refine va_callv (va_runI (As := As) (rest := rest) Fx hM cw (k_preI hK hN hP hD hn hC) rfl hlen hsize hst (lv_room hW) hdg hf) hS (fun q _ h => hFc q h) hFc (fun u t H1 locs1 ht hvm hp hB hz hk hS1 => ?_)
  obtain ⟨hP1, hD1⟩ := hB
  rw [ht] at hP1
  obtain ⟨hP2, hD2⟩ := va_join hP hD isC isR hC hR hnR hdis hk hFc hP1 hD1
  exact kk u H1 locs1 hp hP2 hD2 hS1
theorem ckIN {S : Type} {post : S → Prop} {wo : S → va_W} {host : String} (isC isR : List Nat) (wr : va_W) (hM : CNv l X y wy k mc ms (.ref b :: As) wi H.size post wo) (Fx : CallFix p m c cc nL s args Ts own) (cw : va_CN R s args own index y host bytes maxL none wy (rmn k mc ms) mc ms n ∧ y.name = "<init>" ∧ (Cond.instanceMethod y).before args s = true) (hK : va_K X.1 vwCl (kT X) s) (hN : nw s) (hP : va_P X.1 vwCl ws H) (hD : va_D A ws) (hS : va_S A H0 H locs) (hA : ∀ q, H0.size ≤ q → A q) (hn : va_nd isC = true) (hC : isC.map (fun i => ws[i]?) = wi.map some) (hR : isR.map (fun i => ws[i]?) = wr.map some) (hnR : va_nd isR = true) (hdis : ∀ i ∈ isR, i ∉ isC)
    (hlen : As.length = n) (hsize : ls.size = nL) (hst : st0 = As.reverse ++ .ref b :: rest) (hW : (rest.map fun v => v.category).sum ≤ 8) (hdg : decode cc pc = .ok (.invokespecial index, 3)) (hf : cells + mc ≤ R.cells ∧ slots + ms ≤ R.slots)
    (kk : ∀ (u : S) (H1 : Heap) (locs1 : List Loc), post u → va_P X.1 vwCl (wr ++ wo u) H1 → va_D A (wr ++ wo u) → va_S A H0 H1 locs1 → W p l e R s m args below meth c H1 locs1 (cells + mc) (slots + ms) Q (F0 m (pc + 3) ls rest)) : W p l e R s m args below meth c H locs cells slots Q (F0 m pc ls st0) := by
  have hFc := va_free (wc := wi) hD hS hA isC hC
  refine va_callv (va_runIN (As := As) (rest := rest) Fx hM cw (k_preI hK hN hP hD hn hC) rfl hlen hsize hst (lv_room hW) hdg hf) hS (fun q _ h => hFc q h) hFc (fun u t H1 locs1 ht hvm hp hB hz hk hS1 => ?_)
  obtain ⟨hP1, hD1⟩ := hB
  rw [ht] at hP1
  obtain ⟨hP2, hD2⟩ := va_join hP hD isC isR hC hR hnR hdis hk hFc hP1 hD1
  exact kk u H1 locs1 hp hP2 hD2 hS1
theorem rtN {S : Type} {post : S → Prop} {wo : S → va_W} (u : S) (hx : p.tables.exec = Jvm.exec) (hb : c.code = cc) (hr : meth.sig.returnType = none) (hlocks : meth.locks = false) (hP : va_P X.1 vwCl (wo u) H) (hD : va_D A (wo u)) (hS : va_S A s.heap H locs) (hpost : post u) (hcl : cells ≤ mc) (hsl : slots ≤ ms) (hdg : decode cc pc = .ok (.return_, 1)) : W p l e R s m args below meth c H locs cells slots (MQ below (va_Qv post (fun u t => va_P X.1 vwCl (wo u) t.heap ∧ va_D A (wo u)) A) args s mc ms A) (F0 m pc ls []) := by
  refine W.widen (k := mc) (n := ms) hcl hsl ?_
  exact W.vret hx hb hr (fun t ht _ => ⟨⟨u, rfl, hpost, by show va_P X.1 vwCl (wo u) t.heap ∧ _; rw [ht]; exact ⟨hP, hD⟩⟩, hS.F ht⟩) hS.2.2 hdg hlocks
end IK
