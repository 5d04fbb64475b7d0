/-! the nearest points so far: (key, value, distance), in their order -/
abbrev NRL : Type := List (Nat × Int32 × Int64)
def nr0 : Nat × Int32 × Int64 := (0, 0, 0)
def nrOk (kf vf : Nat → Int32) (df : Nat → Int64) (R : NRL) : Prop := R.length ≤ 150 ∧ (∀ i, i < R.length → kf i = nI (R.getD i nr0).1 ∧ vf i = (R.getD i nr0).2.1 ∧ df i = (R.getD i nr0).2.2) ∧ ∀ q ∈ R, q.1 < 2 ^ 30
def posD : NRL → Int64 → Nat
  | [], _ => 0
  | a :: R, ds => if posD R ds = 0 ∧ ds < a.2.2 then 0 else posD R ds + 1
def insD (R : NRL) (q : Nat × Int32 × Int64) : NRL := R.take (posD R q.2.2) ++ q :: R.drop (posD R q.2.2)
theorem posD_eq : ∀ (R : NRL) (ds : Int64) (at_ : Nat), at_ ≤ R.length → (∀ j, at_ ≤ j → j < R.length → ds < (R.getD j nr0).2.2) → (at_ = 0 ∨ ¬ ds < (R.getD (at_ - 1) nr0).2.2) → posD R ds = at_
  | [], ds, at_, h, _, _ => by
    have : at_ = 0 := by simpa using h
    rw [this]; rfl
  | a :: R, ds, 0, h, h1, _ => by
    have e : posD R ds = 0 := posD_eq R ds 0 (Nat.zero_le _) (fun j _ hj => h1 (j + 1) (Nat.zero_le _) (by simpa using hj)) (Or.inl rfl)
    unfold posD
    rw [if_pos ⟨e, h1 0 (Nat.le_refl _) (by simp)⟩]
  | a :: R, ds, at_ + 1, h, h1, h2 => by
    have h3 : ¬ ds < ((a :: R).getD at_ nr0).2.2 := by
      rcases h2 with z | z
      · omega
      · simpa using z
    have e : posD R ds = at_ := posD_eq R ds at_ (by simpa using h) (fun j hj hl => h1 (j + 1) (by omega) (by simpa using hl)) (by
      cases at_ with
      | zero => exact Or.inl rfl
      | succ n => exact Or.inr h3)
    unfold posD
    rw [e, if_neg]
    rintro ⟨z, w⟩
    subst z
    exact h3 w
theorem posD_le : ∀ (R : NRL) (ds : Int64), posD R ds ≤ R.length
  | [], _ => Nat.le_refl _
  | a :: R, ds => by
    have := posD_le R ds
    unfold posD
    split <;> simp <;> omega
def im (n : Nat) : Int32 := nI n - nI 1
theorem lg_le {x y : Int64} (h : lg_cmp x y ≤ 0) : ¬ y < x := by
  intro z
  have : lg_cmp x y = 1 := by unfold lg_cmp; rw [if_pos z]
  rw [this] at h
  exact absurd h (by decide)
theorem lg_gt {x y : Int64} (h : ¬ lg_cmp x y ≤ 0) : y < x := by
  by_cases z : y < x
  · exact z
  · exfalso
    apply h
    unfold lg_cmp
    rw [if_neg z]
    split <;> decide
theorem mmin_nI {a b : Nat} (ha : a < 2 ^ 31) (hb : b < 2 ^ 31) : (if nI b < nI a then nI b else nI a) = nI (min a b) := by
  by_cases h : b < a
  · rw [if_pos (nI_lt h ha), Nat.min_eq_right (by omega)]
  · rw [if_neg (nI_nlt (by omega) hb), Nat.min_eq_left (by omega)]
theorem pk_uLs' {f : Nat → Int64} {k : Nat} {x : Int64} : vp_updL f k x k = x := pk_uLs
theorem nr_app_l {L M : NRL} {i : Nat} (h : i < L.length) : (L ++ M).getD i nr0 = L.getD i nr0 := by
  simp [List.getD_eq_getElem?_getD, List.getElem?_append_left h]
theorem nr_app_r {L M : NRL} {i : Nat} (h : L.length ≤ i) : (L ++ M).getD i nr0 = M.getD (i - L.length) nr0 := by
  simp [List.getD_eq_getElem?_getD, List.getElem?_append_right h]
theorem nr_take {L : NRL} {i n : Nat} (h : i < n) : (L.take n).getD i nr0 = L.getD i nr0 := by
  simp [List.getD_eq_getElem?_getD, List.getElem?_take, h]
theorem nr_drop {L : NRL} {i n : Nat} : (L.drop n).getD i nr0 = L.getD (n + i) nr0 := by
  simp [List.getD_eq_getElem?_getD, List.getElem?_drop]
/-- the list behind an insertion, by its places -/
theorem ins_len {R : NRL} {q : Nat × Int32 × Int64} {mo : Nat} (hm : R.length ≤ mo) : ((insD R q).take mo).length = min (R.length + 1) mo := by
  have := posD_le R q.2.2
  unfold insD
  simp
  omega
theorem ins_get {R : NRL} {q : Nat × Int32 × Int64} {mo i : Nat} (hi : i < mo) : ((insD R q).take mo).getD i nr0 = if i < posD R q.2.2 then R.getD i nr0 else if i = posD R q.2.2 then q else R.getD (i - 1) nr0 := by
  have hp := posD_le R q.2.2
  rw [nr_take hi]
  unfold insD
  have ht : (R.take (posD R q.2.2)).length = posD R q.2.2 := by simp; omega
  by_cases h1 : i < posD R q.2.2
  · rw [if_pos h1, nr_app_l (by omega), nr_take h1]
  · rw [if_neg h1, nr_app_r (by omega), ht]
    by_cases h2 : i = posD R q.2.2
    · rw [if_pos h2, h2, Nat.sub_self]; rfl
    · rw [if_neg h2]
      obtain ⟨e, rfl⟩ : ∃ e, i = posD R q.2.2 + 1 + e := ⟨i - posD R q.2.2 - 1, by omega⟩
      rw [show posD R q.2.2 + 1 + e - posD R q.2.2 = e + 1 by omega, List.getD_cons_succ, nr_drop]
      congr 1
      omega
theorem ins_mem {R : NRL} {q r : Nat × Int32 × Int64} {mo : Nat} (h : r ∈ (insD R q).take mo) : r = q ∨ r ∈ R := by
  have h1 := List.mem_of_mem_take h
  unfold insD at h1
  rcases List.mem_append.mp h1 with z | z
  · exact Or.inr (List.mem_of_mem_take z)
  · rcases List.mem_cons.mp z with z | z
    · exact Or.inl z
    · exact Or.inr (List.mem_of_mem_drop z)
theorem nr_ins {kf vf : Nat → Int32} {df : Nat → Int64} {R : NRL} {key mo : Nat} {x : Int32} {ds : Int64} (h : nrOk kf vf df R) (hk : key < 2 ^ 30) (hm : R.length ≤ mo) (hm2 : mo ≤ 150) (hp : posD R ds < mo) :
    nrOk (upd (va_cpy kf kf (posD R ds) (posD R ds + 1) (min R.length (mo - 1) - posD R ds)) (posD R ds) (nI key)) (upd (va_cpy vf vf (posD R ds) (posD R ds + 1) (min R.length (mo - 1) - posD R ds)) (posD R ds) x) (vp_updL (va_cpy df df (posD R ds) (posD R ds + 1) (min R.length (mo - 1) - posD R ds)) (posD R ds) ds) ((insD R (key, x, ds)).take mo) ∧ ((insD R (key, x, ds)).take mo).length = min R.length (mo - 1) + 1 := by
  have hl := ins_len (q := (key, x, ds)) hm
  have hpl := posD_le R ds
  refine ⟨⟨by omega, fun i hi => ?_, fun q hq => ?_⟩, by omega⟩
  · rw [hl] at hi
    rw [ins_get (show i < mo by omega)]
    show _ = nI (if i < posD R ds then R.getD i nr0 else if i = posD R ds then (key, x, ds) else R.getD (i - 1) nr0).1 ∧ _ = (if i < posD R ds then R.getD i nr0 else if i = posD R ds then (key, x, ds) else R.getD (i - 1) nr0).2.1 ∧ _ = (if i < posD R ds then R.getD i nr0 else if i = posD R ds then (key, x, ds) else R.getD (i - 1) nr0).2.2
    rcases Nat.lt_trichotomy i (posD R ds) with h1 | h1 | h1
    · rw [if_pos h1, pk_un (by omega), pk_un (by omega), pk_uLn (by omega), pk_cpy_out (by omega), pk_cpy_out (by omega), pk_cpy_out (by omega)]
      exact h.2.1 i (by omega)
    · rw [if_neg (by omega), if_pos h1, h1, pk_us, pk_us, pk_uLs]
      exact ⟨rfl, rfl, rfl⟩
    · rw [if_neg (by omega), if_neg (by omega), pk_un (by omega), pk_un (by omega), pk_uLn (by omega), pk_cpy_in (by omega) (by omega), pk_cpy_in (by omega) (by omega), pk_cpy_in (by omega) (by omega), show posD R ds + (i - (posD R ds + 1)) = i - 1 by omega]
      exact h.2.1 (i - 1) (by omega)
  · rcases ins_mem hq with z | z
    · rw [z]; exact hk
    · exact h.2.2 q z
theorem nr_same {R : NRL} {q : Nat × Int32 × Int64} {mo : Nat} (hm : R.length ≤ mo) (hp : mo ≤ posD R q.2.2) : (insD R q).take mo = R := by
  have hpl := posD_le R q.2.2
  unfold insD
  rw [List.take_append_of_le_length (by simp; omega), List.take_take, List.take_of_length_le (by omega)]
theorem nr_nil {kf vf : Nat → Int32} {df : Nat → Int64} : nrOk kf vf df [] := ⟨by simp, fun i hi => by simp at hi, fun q hq => by simp at hq⟩
