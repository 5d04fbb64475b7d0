/-! what the calls answer and do, over lists -/
noncomputable def cif {α : Sort _} (p : Prop) (a b : α) : α := @ite α p (Classical.propDecidable p) a b
theorem cif_pos {α : Sort _} {p : Prop} {a b : α} (h : p) : cif p a b = a := @if_pos p (Classical.propDecidable p) h α a b
theorem cif_neg {α : Sort _} {p : Prop} {a b : α} (h : ¬ p) : cif p a b = b := @if_neg p (Classical.propDecidable p) h α a b
def kOf (x y : Int32) : Nat := x.toNatClampNeg * 32768 + y.toNatClampNeg
noncomputable def insF (sp bk b bl : Nat) (P : PL) (nc : Nat) (x y v : Int32) : Int32 × PL × List Op :=
  cif (onp x y sp ∧ ¬ v < 0) (cif (60 ≤ nc) (nI 3, P, []) (cif (lkp P (kOf x y) = none) (cif (bl < (tr bk b 0 0 (pput P (kOf x y) v.toNatClampNeg)).length) (nI 4, P, []) (nI 0, pput P (kOf x y) v.toNatClampNeg, [some (kOf x y, some v.toNatClampNeg)])) (nI 1, pput P (kOf x y) v.toNatClampNeg, [some (kOf x y, some v.toNatClampNeg)]))) (nI 2, P, [])
noncomputable def delF (sp : Nat) (P : PL) (nc : Nat) (x y : Int32) : Int32 × PL × List Op :=
  cif (onp x y sp) (cif (lkp P (kOf x y) = none) (nI 5, P, []) (cif (60 ≤ nc) (nI 3, P, []) (nI 0, pdel P (kOf x y), [some (kOf x y, none)]))) (nI 2, P, [])
noncomputable def sel {α : Type} (x : Int32) (P H : α) : Option α := cif (x = 0) (some P) (cif (x = nI 1) (some H) none)
theorem sel_0 {α : Type} {x : Int32} {P H : α} (h : x = 0) : sel x P H = some P := cif_pos h
theorem sel_1 {α : Type} {x : Int32} {P H : α} (h : x = nI 1) : sel x P H = some H := by
  unfold sel
  rw [cif_neg (by rw [h]; decide), cif_pos h]
theorem sel_n {α : Type} {x : Int32} {P H : α} (h : ¬ x = 0) (h1 : ¬ x = nI 1) : sel x P H = none := by
  unfold sel
  rw [cif_neg h, cif_neg h1]
noncomputable def getV (sp : Nat) (S : Option PL) (x y : Int32) : Int32 := match S with
  | none => -1
  | some L => cif (onp x y sp) (vOf L (kOf x y)) (-1)
/-- window: RESULTS and how many -/
noncomputable def wSt (x0 y0 x1 y1 : Int32) (a : RSL × Nat) (q : Nat × Nat) : RSL × Nat := cif (win q.1 x0 y0 x1 y1) (rsAdd a.1 q.1 (nI q.2), a.2 + 1) a
noncomputable def wAll (x0 y0 x1 y1 : Int32) (L : PL) : RSL × Nat := L.foldl (wSt x0 y0 x1 y1) ([], 0)
noncomputable def sSt (x0 y0 x1 y1 : Int32) (a : Int64) (q : Nat × Nat) : Int64 := cif (win q.1 x0 y0 x1 y1) (a + lN q.2) a
noncomputable def sAll (x0 y0 x1 y1 : Int32) (L : PL) : Int64 := L.foldl (sSt x0 y0 x1 y1) (lN 0)
def nSt (x y : Int32) (k : Nat) (R : NRL) (q : Nat × Nat) : NRL := (insD R (q.1, nI q.2, dst q.1 x y)).take k
def nAll (x y : Int32) (k : Nat) (L : PL) : NRL := L.foldl (nSt x y k) []
theorem fold_take {α β : Type} (f : β → α → β) (b : β) (L : List α) (d : α) {i : Nat} (h : i < L.length) : (L.take (i + 1)).foldl f b = f ((L.take i).foldl f b) (L.getD i d) := by
  have e : L.take (i + 1) = L.take i ++ [L.getD i d] := by rw [List.take_succ]; simp [h]
  rw [e, List.foldl_append]; rfl
theorem pKV {L : PL} {i : Nat} : L.getD i (0, 0) = (pK L i, pV L i) := rfl
def rOf (R : NRL) : RSL := R.map (fun q => (q.1, q.2.1))
theorem nr_rs {kf vf : Nat → Int32} {df : Nat → Int64} {R : NRL} (h : nrOk kf vf df R) : rsOk kf vf (rOf R) := by
  refine ⟨by simpa [rOf] using h.1, fun i hi => ?_, fun q hq => ?_⟩
  · have hi' : i < R.length := by simpa [rOf] using hi
    have e : (rOf R).getD i (0, 0) = ((R.getD i nr0).1, (R.getD i nr0).2.1) := by simp [rOf, hi']
    rw [e]
    exact ⟨(h.2.1 i hi').1, (h.2.1 i hi').2.1⟩
  · unfold rOf at hq
    obtain ⟨r, hr, rfl⟩ := List.mem_map.mp hq
    exact h.2.2 r hr
theorem rOf_len (R : NRL) : (rOf R).length = R.length := by simp [rOf]
noncomputable def resV (R : RSL) (i w : Int32) : Int32 := cif (¬ i < 0 ∧ i < nI R.length) (cif (w = nI 0) (nI ((R.getD i.toNatClampNeg (0, 0)).1 / 32768)) (cif (w = nI 1) (nI ((R.getD i.toNatClampNeg (0, 0)).1 % 32768)) (cif (w = nI 2) (R.getD i.toNatClampNeg (0, 0)).2 (-1)))) (-1)
/-- differs: the points that are in one state alone, or with another value -/
def dAdd (a : RSL × Nat) (k : Nat) (x : Int32) : RSL × Nat := (rsAdd a.1 k x, a.2 + 1)
def dif : Nat → PL → PL → RSL × Nat → RSL × Nat
  | 0, _, _, a => a
  | _ + 1, [], [], a => a
  | n + 1, p :: P, [], a => dif n P [] (dAdd a p.1 (nI p.2))
  | n + 1, [], c :: C, a => dif n [] C (dAdd a c.1 (-1))
  | n + 1, p :: P, c :: C, a => if p.1 < c.1 then dif n P (c :: C) (dAdd a p.1 (nI p.2)) else if c.1 < p.1 then dif n (p :: P) C (dAdd a c.1 (-1)) else dif n P C (if p.2 = c.2 then a else dAdd a p.1 (nI p.2))
/-- the tree's cache -/
def tcOk (bk b N : Nat) (L : PL) (w : Nat) (nn dd mo : Int32) (ff : Nat → Int32) : Prop := (mo = nI w → nn = nI (gF bk b 0 0 N L []).length ∧ dd = nI (dpt b (gF bk b 0 0 N L [])) ∧ fOk ff (gF bk b 0 0 N L [])) ∧ (mo = -1 ∨ ∃ m, m ≤ w ∧ mo = nI m)
theorem tc_next {bk b N : Nat} {L L' : PL} {w w' : Nat} {nn dd mo : Int32} {ff : Nat → Int32} (h : tcOk bk b N L w nn dd mo ff) (hw : w < w') (hb : w' < 2 ^ 31) : tcOk bk b N L' w' nn dd mo ff := by
  refine ⟨fun e => ?_, ?_⟩
  · rcases h.2 with z | ⟨m, hm, z⟩
    · exact absurd (e.symm.trans z) (nI_m1 hb)
    · have := (nI_eq (by omega) hb).mp (z.symm.trans e)
      omega
  · rcases h.2 with z | ⟨m, hm, z⟩
    · exact Or.inl z
    · exact Or.inr ⟨m, by omega, z⟩
theorem tc_same {bk b N : Nat} {L : PL} {w : Nat} {ff : Nat → Int32} (h : fOk ff (gF bk b 0 0 N L [])) : tcOk bk b N L w (nI (gF bk b 0 0 N L []).length) (nI (dpt b (gF bk b 0 0 N L []))) (nI w) ff := ⟨fun _ => ⟨rfl, rfl, h⟩, Or.inr ⟨w, Nat.le_refl _, rfl⟩⟩
def insd (b : Nat) (P : PL) : Prop := ∀ q ∈ P, q.1 / 32768 < 2 ^ b ∧ q.1 % 32768 < 2 ^ b
theorem insd_rg {b : Nat} {L : PL} (h : insd b L) : ∀ i, i < L.length → inS L 0 0 (2 ^ b) i = true := by
  intro i hi
  have h1 := h _ (pK_mem hi)
  unfold inS inq
  rw [decide_eq_true_eq]
  show 0 ≤ pK L i / 32768 ∧ pK L i / 32768 < 0 + 2 ^ b ∧ 0 ≤ pK L i % 32768 ∧ pK L i % 32768 < 0 + 2 ^ b
  omega
theorem gF_fit {bk b N : Nat} {L : PL} (h : (tr bk b 0 0 L).length ≤ N) : gF bk b 0 0 N L [] = tr bk b 0 0 L := by
  unfold gF
  rw [List.nil_append, List.take_of_length_le h]
theorem gF_gt {bk b bl : Nat} {L : PL} : bl < (gF bk b 0 0 (bl + 1) L []).length ↔ bl < (tr bk b 0 0 L).length := by
  unfold gF
  rw [List.nil_append, List.length_take]
  omega
noncomputable def cntV (bk b bl sp : Nat) (P H : PL) (nc : Nat) (ct : Int32) (x : Int32) : Int32 :=
  cif (x = nI 0) (nI P.length) (cif (x = nI 1) (nI H.length) (cif (x = nI 2) (nI (tr bk b 0 0 P).length) (cif (x = nI 3) (nI (tr bk b 0 0 H).length) (cif (x = nI 4) (nI (bl - (tr bk b 0 0 P).length)) (cif (x = nI 5) (nI nc) (cif (x = nI 6) (nI (dpt b (tr bk b 0 0 P))) (cif (x = nI 7) ct (cif (x = nI 8) (nI bl) (cif (x = nI 9) (nI bk) (cif (x = nI 10) (nI sp) (-1)))))))))))
theorem sw_ne {x : Int32} {n j : Nat} (h : x.toInt < 0 ∨ (n : Int) ≤ x.toInt) (hj : j < n) (hn : n < 2 ^ 31) : ¬ x = nI j := by
  intro z
  rw [z, nI_toInt (by omega)] at h
  omega
theorem vOf_m1 {kf vf : Nat → Int32} {L : PL} {key : Nat} (h : ptOk kf vf L) : vOf L key = -1 ↔ lkp L key = none := by
  unfold vOf
  cases e : lkp L key with
  | none => simp
  | some v =>
    have := (h.2.2.2 _ (lkp_some e)).2
    constructor
    · intro z; exact absurd z (nI_m1 this)
    · intro z; cases z
theorem pdel_pput {L : PL} {key v : Nat} (hs : pSort L) (h : lkp L key = none) : pdel (pput L key v) key = L := by
  apply sort_ext (pdel_sort (pput_sort hs)) hs
  intro k
  rw [lkp_pdel (pput_sort hs), lkp_pput hs]
  by_cases z : k = key
  · rw [if_pos z, z, h]
  · rw [if_neg z, if_neg z]
theorem pput_len {L : PL} {key v : Nat} : (pput L key v).length ≤ L.length + 1 := by
  induction L with
  | nil => simp [pput]
  | cons r L ih =>
    unfold pput
    split
    · simp; omega
    · split <;> simp
theorem tv_pput {L : PL} {key v w : Nat} (hs : pSort L) : tv (pput L key v) key w = w + 1 := by
  unfold tv
  rw [lkp_pput hs, if_pos rfl]
theorem kOf_nI {a b : Nat} (ha : a < 32768) (hb : b < 32768) : kOf (nI a) (nI b) = a * 32768 + b := by
  unfold kOf
  rw [nI_clamp (by omega), nI_clamp (by omega)]
theorem sel3 (x : Int32) : x = 0 ∨ x = nI 1 ∨ (¬ x = 0 ∧ ¬ x = nI 1) := by
  by_cases h : x = 0
  · exact Or.inl h
  · by_cases h1 : x = nI 1
    · exact Or.inr (Or.inl h1)
    · exact Or.inr (Or.inr ⟨h, h1⟩)
theorem ge_nlt {x : Int32} (h : 0 ≤ x) : ¬ x < 0 := Int32.not_lt.mpr h
