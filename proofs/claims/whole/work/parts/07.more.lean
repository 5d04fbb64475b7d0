theorem filt_in {α : Type} {f : α → Bool} {l : List α} {e : α} (h : f e = true) : (l ++ [e]).filter f = l.filter f ++ [e] := by simp [h]
theorem filt_out {α : Type} {f : α → Bool} {l : List α} {e : α} (h : f e = false) : (l ++ [e]).filter f = l.filter f := by simp [h]
theorem take_app {α : Type} (X T : List α) (N : Nat) : (X.take N ++ T).take N = (X ++ T).take N := by
  by_cases h : N ≤ X.length
  · rw [List.take_append_of_le_length h, List.take_append_of_le_length (by simp; omega), List.take_take, Nat.min_self]
  · rw [List.take_of_length_le (l := X) (by omega)]
theorem dpt_congr (b : Nat) : ∀ {F G : List Nd}, F.map Prod.fst = G.map Prod.fst → dpt b F = dpt b G
  | [], [], _ => rfl
  | [], _ :: _, h => by simp at h
  | _ :: _, [], h => by simp at h
  | n :: F, m :: G, h => by
    simp only [List.map_cons, List.cons.injEq] at h
    unfold dpt
    rw [h.1, dpt_congr b h.2]
/-- the nodes once quarters below q are done -/
def gq (bk d x y N : Nat) (P : PL) (F : List Nd) (q m : Nat) : List Nd := (F ++ (d + 1, x, y, P.length, m, low P) :: kids (fun x y P => tr bk d x y P) x y (2 ^ d) P q).take N
theorem gq_get {bk d x y N : Nat} {P : PL} {F : List Nd} {q m : Nat} (h : F.length < N) : (gq bk d x y N P F q m)[F.length]? = some (d + 1, x, y, P.length, m, low P) := by
  unfold gq
  rw [List.getElem?_take, if_pos h]
  simp
theorem gq_lt {bk d x y N : Nat} {P : PL} {F : List Nd} {q m : Nat} (h : F.length < N) : F.length < (gq bk d x y N P F q m).length := (List.getElem?_eq_some_iff.mp (gq_get h)).1
theorem gq_set {bk d x y N : Nat} {P : PL} {F : List Nd} {q m m' : Nat} : (gq bk d x y N P F q m).set F.length (d + 1, x, y, P.length, m', low P) = gq bk d x y N P F q m' := by
  unfold gq
  rw [← List.take_set, set_mid]
theorem gq_len {bk d x y N : Nat} {P : PL} {F : List Nd} {q m m' : Nat} : (gq bk d x y N P F q m).length = (gq bk d x y N P F q m').length := by
  rw [← gq_set (m := m) (m' := m'), List.length_set]
theorem gq_dpt {b bk d x y N : Nat} {P : PL} {F : List Nd} {q m m' : Nat} : dpt b (gq bk d x y N P F q m) = dpt b (gq bk d x y N P F q m') := by
  apply dpt_congr
  unfold gq
  rw [List.map_take, List.map_take]
  simp
theorem gq_kid {bk d x y N : Nat} {P : PL} {F : List Nd} {q m : Nat} (h : ¬ (sub x y (2 ^ d) P q).length = 0) : (gq bk d x y N P F q m ++ tr bk d (x + q % 2 * 2 ^ d) (y + q / 2 * 2 ^ d) (sub x y (2 ^ d) P q)).take N = gq bk d x y N P F (q + 1) m := by
  unfold gq
  rw [take_app]
  show _ = (F ++ (d + 1, x, y, P.length, m, low P) :: (kids (fun x y P => tr bk d x y P) x y (2 ^ d) P q ++ kid (fun x y P => tr bk d x y P) x y (2 ^ d) P q)).take N
  unfold kid
  rw [if_neg h]
  simp
theorem gq_nokid {bk d x y N : Nat} {P : PL} {F : List Nd} {q m : Nat} (h : (sub x y (2 ^ d) P q).length = 0) : gq bk d x y N P F q m = gq bk d x y N P F (q + 1) m := by
  unfold gq
  show _ = (F ++ (d + 1, x, y, P.length, m, low P) :: (kids (fun x y P => tr bk d x y P) x y (2 ^ d) P q ++ kid (fun x y P => tr bk d x y P) x y (2 ^ d) P q)).take N
  unfold kid
  rw [if_pos h]
  simp
theorem gq_mask {f : Nat → Int32} {bk d x y N : Nat} {P : PL} {F : List Nd} {q m m' : Nat} (hF : F.length < N) (h : fOk f (gq bk d x y N P F q m)) : fOk (upd f (F.length * 6 + 4) (nI m')) (gq bk d x y N P F q m') := by
  have h1 := fOk_mask (m := m') h (gq_lt hF)
  rw [List.getD_eq_getElem?_getD, gq_get hF] at h1
  rw [← gq_set (m := m) (m' := m')]
  exact h1
theorem gq_at {f : Nat → Int32} {bk d x y N : Nat} {P : PL} {F : List Nd} {q m : Nat} (hF : F.length < N) (h : fOk f (gq bk d x y N P F q m)) : f (F.length * 6 + 4) = nI m := by
  have h1 := (h _ (gq_lt hF)).2.2.2.2.1
  rw [List.getD_eq_getElem?_getD, gq_get hF] at h1
  exact h1
def gF (bk d x y N : Nat) (P : PL) (F : List Nd) : List Nd := (F ++ tr bk d x y P).take N
theorem gF_full {bk d x y N : Nat} {P : PL} {F : List Nd} (h : F.length = N) : gF bk d x y N P F = F := by
  unfold gF
  rw [List.take_append_of_le_length (by omega), List.take_of_length_le (by omega)]
theorem gF_leaf0 {bk x y N : Nat} {P : PL} {F : List Nd} (h : F.length < N) : gF bk 0 x y N P F = F ++ [(0, x, y, P.length, 0, low P)] := by
  unfold gF tr
  rw [List.take_of_length_le (by simp; omega)]
theorem gF_leaf {bk d x y N : Nat} {P : PL} {F : List Nd} (h : F.length < N) (hb : P.length ≤ bk) : gF bk (d + 1) x y N P F = F ++ [(d + 1, x, y, P.length, 0, low P)] := by
  unfold gF tr
  rw [if_pos hb, List.take_of_length_le (by simp; omega)]
theorem gF_inner {bk d x y N : Nat} {P : PL} {F : List Nd} (hb : ¬ P.length ≤ bk) : gF bk (d + 1) x y N P F = gq bk d x y N P F 4 (msk x y (2 ^ d) P 4) := by
  unfold gF tr
  rw [if_neg hb]; rfl
theorem gq_0 {bk d x y N : Nat} {P : PL} {F : List Nd} (h : F.length < N) : gq bk d x y N P F 0 (msk x y (2 ^ d) P 0) = F ++ [(d + 1, x, y, P.length, 0, low P)] := by
  unfold gq kids msk
  rw [List.take_of_length_le (by simp; omega)]
theorem mmax_nI {a b : Nat} (ha : a < 2 ^ 31) (hb : b < 2 ^ 31) : (if nI a < nI b then nI b else nI a) = nI (max a b) := by
  by_cases h : a < b
  · rw [if_pos (nI_lt h hb), Nat.max_eq_right (by omega)]
  · rw [if_neg (nI_nlt (by omega) ha), Nat.max_eq_left (by omega)]
theorem or_msk {m q : Nat} (h : m < 2 ^ q) : nI m ||| nI (2 ^ q) = nI (m + 2 ^ q) := by
  rw [bI_or]
  have h1 := Nat.two_pow_add_eq_or_of_lt h 1
  rw [Nat.mul_one] at h1
  rw [Nat.or_comm, ← h1, Nat.add_comm]
theorem q_apart {x y h q q' : Nat} {e : Nat × Nat} (hq : q < 4) (hq' : q' < 4) (hne : q ≠ q') (h1 : inq (x + q % 2 * h) (y + q / 2 * h) h e = true) : inq (x + q' % 2 * h) (y + q' / 2 * h) h e = false := by
  unfold inq at h1 ⊢
  rw [decide_eq_true_eq] at h1
  rw [decide_eq_false_iff_not]
  rcases (show q = 0 ∨ q = 1 ∨ q = 2 ∨ q = 3 by omega) with rfl | rfl | rfl | rfl <;> rcases (show q' = 0 ∨ q' = 1 ∨ q' = 2 ∨ q' = 3 by omega) with rfl | rfl | rfl | rfl <;> simp at h1 hne ⊢ <;> omega
theorem r_step {L : PL} {R R2 S : List Nat} {x y h q q' : Nat} (hq : q < 4) (hq' : q' < 4) (hlt : q < q') (hR : R2.Perm (R.filter (fun i => !inS L (x + q % 2 * h) (y + q / 2 * h) h i))) (hS : (R.filter (inS L (x + q' % 2 * h) (y + q' / 2 * h) h)).Perm (S.filter (inS L (x + q' % 2 * h) (y + q' / 2 * h) h))) : (R2.filter (inS L (x + q' % 2 * h) (y + q' / 2 * h) h)).Perm (S.filter (inS L (x + q' % 2 * h) (y + q' / 2 * h) h)) := by
  refine ((hR.filter _).trans ?_).trans hS
  rw [List.filter_filter]
  apply List.Perm.of_eq
  apply List.filter_congr
  intro i _
  cases hz : inS L (x + q' % 2 * h) (y + q' / 2 * h) h i with
  | false => rfl
  | true =>
    have := q_apart (e := L.getD i (0, 0)) hq' hq (by omega) hz
    show (true && !inS L (x + q % 2 * h) (y + q / 2 * h) h i) = true
    rw [show inS L (x + q % 2 * h) (y + q / 2 * h) h i = false from this]; rfl
theorem reg1 {L : PL} {S : List Nat} {x y : Nat} (hs : pSort L) (hl : ∀ i ∈ S, i < L.length) (hn : S.Nodup) (hr : ∀ i ∈ S, inS L x y 1 i = true) : S.length ≤ 1 := by
  rcases S with _ | ⟨a, _ | ⟨b, S⟩⟩
  · simp
  · simp
  · exfalso
    have ha := hr a (by simp)
    have hb := hr b (by simp)
    have la := hl a (by simp)
    have lb := hl b (by simp)
    have hab : a ≠ b := by
      intro z
      subst z
      simp at hn
    unfold inS inq at ha hb
    rw [decide_eq_true_eq] at ha hb
    have e : pK L a = pK L b := by
      show (L.getD a (0, 0)).1 = (L.getD b (0, 0)).1
      omega
    rcases Nat.lt_or_ge a b with z | z
    · have := sort_ij hs z lb; omega
    · have := sort_ij hs (show b < a by omega) la; omega
theorem ps_len (L : PL) (S : List Nat) : (ps L S).length = S.length := by simp [ps]
theorem ps_perm {L : PL} {S T : List Nat} (h : S.Perm T) : (ps L S).Perm (ps L T) := h.map _
theorem ps_range (L : PL) : ps L (List.range L.length) = L := by
  unfold ps
  apply List.ext_getElem?
  intro i
  rw [List.getElem?_map]
  by_cases h : i < L.length
  · rw [List.getElem?_range h]
    simp [h]
  · rw [List.getElem?_eq_none (by simp; omega), List.getElem?_eq_none (by omega)]; rfl
theorem o_range {o : Nat → Int32} {n : Nat} (h : ∀ j, j < n → o j = nI j) : oOk o ([] ++ List.range n ++ []) n := by
  simp only [List.nil_append, List.append_nil]
  refine ⟨fun i hi => ?_, fun i hi => List.mem_range.mp hi⟩
  rw [List.length_range] at hi
  rw [h i hi, List.getD_eq_getElem?_getD, List.getElem?_range hi]; rfl
