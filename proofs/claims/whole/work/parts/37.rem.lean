theorem w_cases (W : List Rg) : W = [] ∨ (∃ W0 X Y, W = W0 ++ [(0, X, Y)]) ∨ ∃ W0 d X Y, W = W0 ++ [(d + 1, X, Y)] := by
  rcases List.eq_nil_or_concat W with h | ⟨W0, r, h⟩
  · exact Or.inl h
  · obtain ⟨d, X, Y⟩ := r
    rw [List.concat_eq_append] at h
    cases d with
    | zero => exact Or.inr (Or.inl ⟨W0, X, Y, h⟩)
    | succ d => exact Or.inr (Or.inr ⟨W0, d, X, Y, h⟩)
theorem tr_cons {bk : Nat} {L : PL} (hs : pSort L) (hbk : 1 ≤ bk) (r : Rg) : trR bk L r = hdR bk L r :: (trR bk L r).tail := by
  by_cases h : (flt L r.1 r.2.1 r.2.2).length ≤ bk
  · rw [tr_leaf h]; rfl
  · obtain ⟨d, X, Y⟩ := r
    cases d with
    | zero =>
      have := flt_1 (b := 0) hs X Y
      exact absurd (show (flt L 0 X Y).length ≤ bk by omega) h
    | succ d => rw [tr_inner h]; rfl
theorem rem_cons {bk : Nat} {L : PL} (hs : pSort L) (hbk : 1 ≤ bk) {W0 W2 : List Rg} {r : Rg} (h : rem bk L W2 = (trR bk L r).tail ++ rem bk L W0) : rem bk L (W0 ++ [r]) = hdR bk L r :: rem bk L W2 := by
  rw [rem_push, tr_cons hs hbk r, h]; rfl
theorem rem_nil (bk : Nat) (L : PL) : rem bk L [] = [] := rfl
theorem rs_len {R : RSL} {n key : Nat} {x : Int32} (h : R.length = min n 150) : (rsAdd R key x).length = min (n + 1) 150 := by
  unfold rsAdd
  split
  · simp; omega
  · omega
/-- the reference's RESULTS -/
def mR (xf yf vf : Nat → Int32) (R : RSL) : Prop := R.length ≤ 150 ∧ (∀ i, i < R.length → xf i = nI ((R.getD i (0, 0)).1 / 32768) ∧ yf i = nI ((R.getD i (0, 0)).1 % 32768) ∧ vf i = (R.getD i (0, 0)).2)
theorem mR_nil {xf yf vf : Nat → Int32} : mR xf yf vf [] := ⟨by simp, fun i hi => by simp at hi⟩
theorem mR_add {xf yf vf : Nat → Int32} {R : RSL} {key : Nat} {x : Int32} (h : mR xf yf vf R) (hl : R.length < 150) : mR (upd xf R.length (nI (key / 32768))) (upd yf R.length (nI (key % 32768))) (upd vf R.length x) (rsAdd R key x) := by
  have e : rsAdd R key x = R ++ [(key, x)] := by unfold rsAdd; rw [if_pos hl]
  rw [e]
  refine ⟨by simp; omega, fun i hi => ?_⟩
  simp only [List.length_append, List.length_cons, List.length_nil] at hi
  by_cases h1 : i = R.length
  · subst h1
    rw [pk_us, pk_us, pk_us]
    simp [List.getD_eq_getElem?_getD]
  · rw [pk_un h1, pk_un h1, pk_un h1, List.getD_eq_getElem?_getD, List.getElem?_append_left (by omega), ← List.getD_eq_getElem?_getD]
    exact h.2 i (by omega)
def mN (xf yf vf : Nat → Int32) (ff : Nat → Int64) (R : NRL) : Prop := R.length ≤ 150 ∧ (∀ i, i < R.length → xf i = nI ((R.getD i nr0).1 / 32768) ∧ yf i = nI ((R.getD i nr0).1 % 32768) ∧ vf i = (R.getD i nr0).2.1 ∧ ff i = (R.getD i nr0).2.2)
theorem mN_nil {xf yf vf : Nat → Int32} {ff : Nat → Int64} : mN xf yf vf ff [] := ⟨by simp, fun i hi => by simp at hi⟩
theorem mN_R {xf yf vf : Nat → Int32} {ff : Nat → Int64} {R : NRL} (h : mN xf yf vf ff R) : mR xf yf vf (rOf R) := by
  refine ⟨by simpa [rOf] using h.1, fun i hi => ?_⟩
  have hi' : i < R.length := by simpa [rOf] using hi
  have e : (rOf R).getD i (0, 0) = ((R.getD i nr0).1, (R.getD i nr0).2.1) := by simp [rOf, hi']
  rw [e]
  exact ⟨(h.2 i hi').1, (h.2 i hi').2.1, (h.2 i hi').2.2.1⟩
theorem w_min {x0 y0 x1 y1 : Int32} {L : PL} : ∀ i, i ≤ L.length → ((L.take i).foldl (wSt x0 y0 x1 y1) ([], 0)).1.length = min ((L.take i).foldl (wSt x0 y0 x1 y1) ([], 0)).2 150
  | 0, _ => rfl
  | i + 1, h => by
    have ih := w_min (x0 := x0) (y0 := y0) (x1 := x1) (y1 := y1) (L := L) i (by omega)
    by_cases hw : win (pK L i) x0 y0 x1 y1
    · rw [w_in (by omega) hw]
      exact rs_len ih
    · rw [w_out (by omega) hw]
      exact ih
