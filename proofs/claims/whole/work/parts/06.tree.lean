/-! THE TREE of a list of points: its nodes in their order; a node: (levels below it, x, y, points, children, low bits) -/
abbrev Nd : Type := Nat × Nat × Nat × Nat × Nat × Nat
def nd0 : Nd := (0, 0, 0, 0, 0, 0)
def inq (x y sd : Nat) (q : Nat × Nat) : Bool := decide (x ≤ q.1 / 32768 ∧ q.1 / 32768 < x + sd ∧ y ≤ q.1 % 32768 ∧ q.1 % 32768 < y + sd)
def low (P : PL) : Nat := (P.map (fun q => q.2 % 65536)).sum
def sub (x y h : Nat) (P : PL) (q : Nat) : PL := P.filter (inq (x + q % 2 * h) (y + q / 2 * h) h)
def msk (x y h : Nat) (P : PL) : Nat → Nat
  | 0 => 0
  | n + 1 => msk x y h P n + if (sub x y h P n).length = 0 then 0 else 2 ^ n
def kid (f : Nat → Nat → PL → List Nd) (x y h : Nat) (P : PL) (q : Nat) : List Nd := if (sub x y h P q).length = 0 then [] else f (x + q % 2 * h) (y + q / 2 * h) (sub x y h P q)
def kids (f : Nat → Nat → PL → List Nd) (x y h : Nat) (P : PL) : Nat → List Nd
  | 0 => []
  | n + 1 => kids f x y h P n ++ kid f x y h P n
def tr (bk : Nat) : Nat → Nat → Nat → PL → List Nd
  | 0, x, y, P => [(0, x, y, P.length, 0, low P)]
  | d + 1, x, y, P => if P.length ≤ bk then [(d + 1, x, y, P.length, 0, low P)] else (d + 1, x, y, P.length, msk x y (2 ^ d) P 4, low P) :: kids (fun x y P => tr bk d x y P) x y (2 ^ d) P 4
theorem low_perm {P P' : PL} (h : P.Perm P') : low P = low P' := by
  induction h with
  | nil => rfl
  | cons a _ ih => unfold low at ih ⊢; simp [ih]
  | swap a b l => unfold low; simp; omega
  | trans _ _ i1 i2 => exact i1.trans i2
theorem sub_perm {P P' : PL} (h : P.Perm P') (x y hh q : Nat) : (sub x y hh P q).Perm (sub x y hh P' q) := h.filter _
theorem msk_perm {P P' : PL} (h : P.Perm P') (x y hh : Nat) : ∀ n, msk x y hh P n = msk x y hh P' n
  | 0 => rfl
  | n + 1 => by unfold msk; rw [msk_perm h x y hh n, (sub_perm h x y hh n).length_eq]
theorem kid_perm {f : Nat → Nat → PL → List Nd} (hf : ∀ x y P P', P.Perm P' → f x y P = f x y P') {P P' : PL} (h : P.Perm P') (x y hh q : Nat) : kid f x y hh P q = kid f x y hh P' q := by
  unfold kid
  rw [(sub_perm h x y hh q).length_eq, hf _ _ _ _ (sub_perm h x y hh q)]
theorem kids_perm {f : Nat → Nat → PL → List Nd} (hf : ∀ x y P P', P.Perm P' → f x y P = f x y P') {P P' : PL} (h : P.Perm P') (x y hh : Nat) : ∀ n, kids f x y hh P n = kids f x y hh P' n
  | 0 => rfl
  | n + 1 => by unfold kids; rw [kids_perm hf h x y hh n, kid_perm hf h]
theorem tr_perm (bk : Nat) : ∀ (d x y : Nat) (P P' : PL), P.Perm P' → tr bk d x y P = tr bk d x y P'
  | 0, x, y, P, P', h => by unfold tr; rw [h.length_eq, low_perm h]
  | d + 1, x, y, P, P', h => by
    unfold tr
    rw [h.length_eq, low_perm h, msk_perm h, kids_perm (fun x y P P' h => tr_perm bk d x y P P' h) h]
theorem msk_lt (x y h : Nat) (P : PL) : ∀ n, msk x y h P n < 2 ^ n
  | 0 => by simp [msk]
  | n + 1 => by
    have := msk_lt x y h P n
    unfold msk
    rw [Nat.pow_succ]
    split <;> omega
/-- the nodes in an array of six numbers each -/
def rowAt (f : Nat → Int32) (c : Nat) (n : Nd) : Prop := f (c * 6) = nI (2 ^ n.1) ∧ f (c * 6 + 1) = nI n.2.1 ∧ f (c * 6 + 2) = nI n.2.2.1 ∧ f (c * 6 + 3) = nI n.2.2.2.1 ∧ f (c * 6 + 4) = nI n.2.2.2.2.1 ∧ f (c * 6 + 5) = nI n.2.2.2.2.2
def fOk (f : Nat → Int32) (F : List Nd) : Prop := ∀ j, j < F.length → rowAt f j (F.getD j nd0)
def dpt (b : Nat) : List Nd → Nat
  | [] => 0
  | n :: F => max (b - n.1) (dpt b F)
theorem dpt_app (b : Nat) : ∀ (F G : List Nd), dpt b (F ++ G) = max (dpt b F) (dpt b G)
  | [], G => by simp [dpt]
  | n :: F, G => by
    show max _ (dpt b (F ++ G)) = _
    rw [dpt_app b F G]
    show _ = max (max _ (dpt b F)) (dpt b G)
    omega
theorem dpt_le (b : Nat) : ∀ (F : List Nd), dpt b F ≤ b
  | [] => by simp [dpt]
  | n :: F => by
    have := dpt_le b F
    show max (b - n.1) (dpt b F) ≤ b
    omega
def set6 (f : Nat → Int32) (c : Nat) (a0 a1 a2 a3 a4 a5 : Int32) : Nat → Int32 := upd (upd (upd (upd (upd (upd f (c * 6) a0) (c * 6 + 1) a1) (c * 6 + 2) a2) (c * 6 + 3) a3) (c * 6 + 4) a4) (c * 6 + 5) a5
theorem fOk_push {f : Nat → Int32} {F : List Nd} (h : fOk f F) (n : Nd) : fOk (set6 f F.length (nI (2 ^ n.1)) (nI n.2.1) (nI n.2.2.1) (nI n.2.2.2.1) (nI n.2.2.2.2.1) (nI n.2.2.2.2.2)) (F ++ [n]) := by
  intro j hj
  simp only [List.length_append, List.length_cons, List.length_nil] at hj
  by_cases h1 : j = F.length
  · subst h1
    have e : (F ++ [n]).getD F.length nd0 = n := by simp [List.getD_eq_getElem?_getD]
    rw [e]
    unfold rowAt set6 upd
    refine ⟨?_, ?_, ?_, ?_, ?_, ?_⟩ <;> (repeat (first | rw [if_pos (by omega)] | rw [if_neg (by omega)]))
  · have e : (F ++ [n]).getD j nd0 = F.getD j nd0 := by
      rw [List.getD_eq_getElem?_getD, List.getElem?_append_left (by omega), ← List.getD_eq_getElem?_getD]
    rw [e]
    have := h j (by omega)
    unfold rowAt at this ⊢
    unfold set6 upd
    repeat rw [if_neg (by omega)]
    exact this
theorem fOk_mask {f : Nat → Int32} {F : List Nd} (h : fOk f F) {c m : Nat} (hc : c < F.length) : fOk (upd f (c * 6 + 4) (nI m)) (F.set c ((F.getD c nd0).1, (F.getD c nd0).2.1, (F.getD c nd0).2.2.1, (F.getD c nd0).2.2.2.1, m, (F.getD c nd0).2.2.2.2.2)) := by
  intro j hj
  rw [List.length_set] at hj
  have h0 := h j hj
  by_cases h1 : j = c
  · subst h1
    have e : (F.set j ((F.getD j nd0).1, (F.getD j nd0).2.1, (F.getD j nd0).2.2.1, (F.getD j nd0).2.2.2.1, m, (F.getD j nd0).2.2.2.2.2)).getD j nd0 = ((F.getD j nd0).1, (F.getD j nd0).2.1, (F.getD j nd0).2.2.1, (F.getD j nd0).2.2.2.1, m, (F.getD j nd0).2.2.2.2.2) := by
      rw [List.getD_eq_getElem?_getD, List.getElem?_set_self hj]; rfl
    rw [e]
    unfold rowAt at h0 ⊢
    refine ⟨?_, ?_, ?_, ?_, ?_, ?_⟩
    · rw [pk_un (by omega)]; exact h0.1
    · rw [pk_un (by omega)]; exact h0.2.1
    · rw [pk_un (by omega)]; exact h0.2.2.1
    · rw [pk_un (by omega)]; exact h0.2.2.2.1
    · rw [pk_us]
    · rw [pk_un (by omega)]; exact h0.2.2.2.2.2
  · have e : (F.set c ((F.getD c nd0).1, (F.getD c nd0).2.1, (F.getD c nd0).2.2.1, (F.getD c nd0).2.2.2.1, m, (F.getD c nd0).2.2.2.2.2)).getD j nd0 = F.getD j nd0 := by
      rw [List.getD_eq_getElem?_getD, List.getElem?_set_ne (fun z => h1 z.symm), ← List.getD_eq_getElem?_getD]
    rw [e]
    unfold rowAt at h0 ⊢
    repeat rw [pk_un (by omega)]
    exact h0
/-- the order: numbers of points -/
def oOk (o : Nat → Int32) (O : List Nat) (n : Nat) : Prop := (∀ i, i < O.length → o i = nI (O.getD i 0)) ∧ ∀ i ∈ O, i < n
theorem oOk.at {o : Nat → Int32} {O : List Nat} {n : Nat} (h : oOk o O n) {i a : Nat} (hi : O[i]? = some a) : o i = nI a ∧ a < n := by
  have hl := (List.getElem?_eq_some_iff.mp hi).1
  refine ⟨?_, h.2 a (List.mem_of_getElem? hi)⟩
  rw [h.1 i hl, List.getD_eq_getElem?_getD, hi]; rfl
theorem oOk_set {o : Nat → Int32} {O : List Nat} {n : Nat} (h : oOk o O n) {k a : Nat} (ha : a < n) : oOk (upd o k (nI a)) (O.set k a) n := by
  refine ⟨fun i hi => ?_, fun i hi => ?_⟩
  · rw [List.length_set] at hi
    by_cases h1 : i = k
    · subst h1
      rw [pk_us, List.getD_eq_getElem?_getD, List.getElem?_set_self hi]; rfl
    · rw [pk_un h1, List.getD_eq_getElem?_getD, List.getElem?_set_ne (fun z => h1 z.symm), ← List.getD_eq_getElem?_getD]
      exact h.1 i hi
  · rcases List.mem_or_eq_of_mem_set hi with z | z
    · exact h.2 i z
    · rw [z]; exact ha
def ps (L : PL) (S : List Nat) : PL := S.map (fun i => L.getD i (0, 0))
def inS (L : PL) (x y sd : Nat) (i : Nat) : Bool := inq x y sd (L.getD i (0, 0))
theorem ps_filter (L : PL) (S : List Nat) (x y sd : Nat) : ps L (S.filter (inS L x y sd)) = (ps L S).filter (inq x y sd) := by
  unfold ps
  rw [List.filter_map]
  rfl
theorem inS_win {L : PL} {i x y sd : Nat} (hs : 0 < sd) (hx : x + sd ≤ 32768) (hy : y + sd ≤ 32768) (hk : pK L i < 2 ^ 30) : inS L x y sd i = true ↔ win (pK L i) (nI x) (nI y) (nI (x + sd - 1)) (nI (y + sd - 1)) := by
  unfold inS inq win
  rw [decide_eq_true_eq]
  show x ≤ pK L i / 32768 ∧ _ ↔ _
  have h1 : pK L i / 32768 < 2 ^ 31 := by omega
  have h2 : pK L i % 32768 < 2 ^ 31 := by omega
  rw [nI_ltI h1 (by omega), nI_ltI (by omega) h1, nI_ltI h2 (by omega), nI_ltI (by omega) h2]
  show x ≤ pK L i / 32768 ∧ pK L i / 32768 < x + sd ∧ y ≤ pK L i % 32768 ∧ pK L i % 32768 < y + sd ↔ _
  omega
theorem set_mid {α : Type} (P Y : List α) (a b : α) : (P ++ a :: Y).set P.length b = P ++ b :: Y := by simp
/-- one more point behind those of the region -/
theorem o_swap {o : Nat → Int32} {P O1 Q : List Nat} {e n : Nat} (h : oOk o (P ++ O1 ++ e :: Q) n) : ∃ O2 : List Nat, O2.Perm O1 ∧ oOk (upd (upd o (P.length + O1.length) (o P.length)) P.length (nI e)) ((P ++ [e]) ++ O2 ++ Q) n := by
  have he : e < n := h.2 e (by simp)
  cases O1 with
  | nil =>
    refine ⟨[], List.Perm.refl _, ?_⟩
    have e1 := (h.at (i := P.length) (a := e) (by simp)).1
    have h2 := oOk_set (k := P.length) (oOk_set (k := P.length) h he) he
    rw [List.length_nil, Nat.add_zero, e1]
    simpa using h2
  | cons a O1 =>
    have e1 := h.at (i := P.length) (a := a) (by simp)
    refine ⟨O1 ++ [a], by simpa using (List.perm_append_comm (l₁ := O1) (l₂ := [a])), ?_⟩
    rw [e1.1]
    have h2 := oOk_set (k := P.length) (oOk_set (k := P.length + (a :: O1).length) h e1.2) he
    have e2 : ((P ++ a :: O1 ++ e :: Q).set (P.length + (a :: O1).length) a).set P.length e = (P ++ [e]) ++ (O1 ++ [a]) ++ Q := by
      have h3 := set_mid (P ++ a :: O1) Q e a
      rw [List.length_append] at h3
      rw [h3, List.append_assoc, List.cons_append, set_mid]
      simp
    rw [e2] at h2
    exact h2
theorem low_take {L : PL} {S : List Nat} {j : Nat} (h : j < S.length) : low (ps L (S.take (j + 1))) = low (ps L (S.take j)) + pV L (S.getD j 0) % 65536 := by
  have e : S.take (j + 1) = S.take j ++ [S.getD j 0] := by rw [List.take_succ]; simp [h]
  unfold low ps
  rw [e]
  simp [pV]
theorem get_mid {A S B : List Nat} {j : Nat} (h : j < S.length) : (A ++ S ++ B)[A.length + j]? = some (S.getD j 0) := by
  rw [List.append_assoc, List.getElem?_append_right (by omega), show A.length + j - A.length = j by omega, List.getElem?_append_left h]
  simp [h]
/-- what factOf says -/
def ndv (n : Nd) : Nat → Int32
  | 0 => nI (2 ^ n.1)
  | 1 => nI n.2.1
  | 2 => nI n.2.2.1
  | 3 => nI n.2.2.2.1
  | 4 => nI n.2.2.2.2.1
  | _ => nI n.2.2.2.2.2
def fct (F : List Nd) (k w : Int32) : Int32 := if ¬ k < 0 ∧ ¬ nI F.length ≤ k ∧ ¬ w < 0 ∧ w < nI 6 then ndv (F.getD k.toNatClampNeg nd0) w.toNatClampNeg else -1
theorem fOk_ndv {f : Nat → Int32} {F : List Nd} (h : fOk f F) {j w : Nat} (hj : j < F.length) (hw : w < 6) : f (j * 6 + w) = ndv (F.getD j nd0) w := by
  obtain ⟨h0, h1, h2, h3, h4, h5⟩ := h j hj
  rcases (show w = 0 ∨ w = 1 ∨ w = 2 ∨ w = 3 ∨ w = 4 ∨ w = 5 by omega) with rfl | rfl | rfl | rfl | rfl | rfl
  · exact h0
  · exact h1
  · exact h2
  · exact h3
  · exact h4
  · exact h5
