theorem mN_ins {xf yf vf : Nat → Int32} {ff : Nat → Int64} {R : NRL} {key mo tp at_ : Nat} {x : Int32} {ds : Int64} (h : mN xf yf vf ff R) (hm : R.length ≤ mo) (hm2 : mo ≤ 150) (htp : (R.length < mo ∧ tp = R.length) ∨ (R.length = mo ∧ tp + 1 = mo)) (hpos : posD R ds = at_) (hat : at_ ≤ tp) :
    mN (upd (shU xf at_ tp) at_ (nI (key / 32768))) (upd (shU yf at_ tp) at_ (nI (key % 32768))) (upd (shU vf at_ tp) at_ x) (vp_updL (shU ff at_ tp) at_ ds) ((insD R (key, x, ds)).take mo) ∧ ((insD R (key, x, ds)).take mo).length = tp + 1 := by
  have hl := ins_len (q := (key, x, ds)) hm
  refine ⟨⟨by omega, fun i hi => ?_⟩, by omega⟩
  rw [hl] at hi
  have hg := ins_get (R := R) (q := (key, x, ds)) (mo := mo) (i := i) (by omega)
  rw [hg]
  show upd (shU xf at_ tp) at_ (nI (key / 32768)) i = nI ((if i < posD R ds then R.getD i nr0 else if i = posD R ds then (key, x, ds) else R.getD (i - 1) nr0).1 / 32768) ∧ upd (shU yf at_ tp) at_ (nI (key % 32768)) i = nI ((if i < posD R ds then R.getD i nr0 else if i = posD R ds then (key, x, ds) else R.getD (i - 1) nr0).1 % 32768) ∧ upd (shU vf at_ tp) at_ x i = (if i < posD R ds then R.getD i nr0 else if i = posD R ds then (key, x, ds) else R.getD (i - 1) nr0).2.1 ∧ vp_updL (shU ff at_ tp) at_ ds i = (if i < posD R ds then R.getD i nr0 else if i = posD R ds then (key, x, ds) else R.getD (i - 1) nr0).2.2
  rw [hpos]
  rcases Nat.lt_trichotomy i at_ with h1 | h1 | h1
  · rw [if_pos h1, pk_un (by omega), pk_un (by omega), pk_un (by omega), pk_uLn (by omega)]
    unfold shU
    rw [if_neg (by omega), if_neg (by omega), if_neg (by omega), if_neg (by omega)]
    exact h.2 i (by omega)
  · rw [if_neg (by omega), if_pos h1, h1, pk_us, pk_us, pk_us, pk_uLs]
    exact ⟨rfl, rfl, rfl, rfl⟩
  · rw [if_neg (by omega), if_neg (by omega), pk_un (by omega), pk_un (by omega), pk_un (by omega), pk_uLn (by omega)]
    unfold shU
    rw [if_pos (by omega), if_pos (by omega), if_pos (by omega), if_pos (by omega)]
    exact h.2 (i - 1) (by omega)
theorem shU_lo {α : Type} (f : Nat → α) {i n j : Nat} (h : j ≤ i) : shU f i n j = f j := by
  unfold shU
  rw [if_neg (by omega)]
theorem lg_gt0 {x y : Int64} (h : 0 < lg_cmp x y) : y < x := by
  by_cases z : y < x
  · exact z
  · exfalso
    unfold lg_cmp at h
    rw [if_neg z] at h
    split at h <;> exact absurd h (by decide)
theorem lg_ngt0 {x y : Int64} (h : ¬ 0 < lg_cmp x y) : ¬ y < x := fun z => by
  apply h
  unfold lg_cmp
  rw [if_pos z]; decide
theorem posD_len {R : NRL} {ds : Int64} (h : ¬ ds < (R.getD (R.length - 1) nr0).2.2) : posD R ds = R.length := posD_eq R ds R.length (Nat.le_refl _) (fun j h1 h2 => by omega) (Or.inr h)
theorem dA_len {a : RSL × Nat} {k : Nat} {x : Int32} (h : a.1.length = min a.2 150) : (dAdd a k x).1.length = min (dAdd a k x).2 150 := rs_len h
theorem sg_neg {a c : Nat} (hc : c < 2 ^ 30) (h : a < c) : ¬ 0 ≤ nI a - nI c := fun z => by
  have := pk_sneg hc h
  exact absurd this (Int32.not_lt.mpr z)
