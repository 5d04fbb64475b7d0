/-! RESULTS as a list of (key, value) -/
abbrev RSL : Type := List (Nat × Int32)
def rsOk (kf vf : Nat → Int32) (R : RSL) : Prop := R.length ≤ 150 ∧ (∀ i, i < R.length → kf i = nI (R.getD i (0, 0)).1 ∧ vf i = (R.getD i (0, 0)).2) ∧ ∀ q ∈ R, q.1 < 2 ^ 30
def rsAdd (R : RSL) (key : Nat) (x : Int32) : RSL := if R.length < 150 then R ++ [(key, x)] else R
theorem rs_full {R : RSL} {key : Nat} {x : Int32} (h : 150 ≤ R.length) : rsAdd R key x = R := by
  unfold rsAdd; rw [if_neg (by omega)]
theorem rs_add {kf vf : Nat → Int32} {R : RSL} {key : Nat} {x : Int32} (h : rsOk kf vf R) (hk : key < 2 ^ 30) (hl : ¬ 150 ≤ R.length) : rsOk (upd kf R.length (nI key)) (upd vf R.length x) (rsAdd R key x) ∧ (rsAdd R key x).length = R.length + 1 := by
  have e : rsAdd R key x = R ++ [(key, x)] := by unfold rsAdd; rw [if_pos (by omega)]
  rw [e]
  refine ⟨⟨by simp; omega, fun i hi => ?_, fun q hq => ?_⟩, by simp⟩
  · simp only [List.length_append, List.length_cons, List.length_nil] at hi
    by_cases h1 : i = R.length
    · subst h1
      rw [pk_us, pk_us]
      simp [List.getD_eq_getElem?_getD]
    · rw [pk_un h1, pk_un h1, List.getD_eq_getElem?_getD, List.getElem?_append_left (by omega), ← List.getD_eq_getElem?_getD]
      exact h.2.1 i (by omega)
  · rcases List.mem_append.mp hq with z | z
    · exact h.2.2 q z
    · rw [List.mem_singleton.mp z]; exact hk
theorem rs_nil {kf vf : Nat → Int32} : rsOk kf vf [] := ⟨by simp, fun i hi => by simp at hi, fun q hq => by simp at hq⟩
theorem op_cases (o : Op) : o = none ∨ (∃ k, o = some (k, none)) ∨ ∃ k v, o = some (k, some v) := by
  rcases o with _ | ⟨k, _ | v⟩
  · exact Or.inl rfl
  · exact Or.inr (Or.inl ⟨k, rfl⟩)
  · exact Or.inr (Or.inr ⟨k, v, rfl⟩)
