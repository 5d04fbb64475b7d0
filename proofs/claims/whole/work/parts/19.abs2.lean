/-! more of what the calls answer -/
noncomputable def winF (S : Option PL) (R : RSL) (x0 y0 x1 y1 : Int32) : Int32 × RSL := match S with
  | none => (-1, R)
  | some L => (nI (wAll x0 y0 x1 y1 L).2, (wAll x0 y0 x1 y1 L).1)
noncomputable def sumV (S : Option PL) (x0 y0 x1 y1 : Int32) : Int64 := match S with
  | none => lN 0
  | some L => sAll x0 y0 x1 y1 L
noncomputable def nearF (S : Option PL) (R : RSL) (x y k : Int32) : Int32 × RSL := match S with
  | none => (-1, R)
  | some L => cif (plc x ∧ plc y ∧ ¬ k < nI 1 ∧ ¬ nI 150 < k) (nI (nAll x y k.toNatClampNeg L).length, rOf (nAll x y k.toNatClampNeg L)) (-1, R)
noncomputable def armF (x n ct : Int32) (cp : Nat) : Int32 × Int32 × Nat := cif (x = nI 3) (nI 1, -1, cp) (cif (¬ x < 0 ∧ ¬ nI 2 < x ∧ ¬ n < 0 ∧ ¬ nI 256 < n) (nI 1, x, n.toNatClampNeg) (nI 0, ct, cp))
noncomputable def nodV (S : Option (List Nd)) (k w : Int32) : Int32 := match S with
  | none => -1
  | some F => fct F k w
theorem getV_in {sp : Nat} {L : PL} {x y : Int32} (h : onp x y sp) : getV sp (some L) x y = vOf L (kOf x y) := cif_pos h
theorem getV_out {sp : Nat} {L : PL} {x y : Int32} (h : ¬ onp x y sp) : getV sp (some L) x y = -1 := cif_neg h
theorem wAll_full {x0 y0 x1 y1 : Int32} {L : PL} : (L.take L.length).foldl (wSt x0 y0 x1 y1) ([], 0) = wAll x0 y0 x1 y1 L := by rw [List.take_length]; rfl
theorem w_in {x0 y0 x1 y1 : Int32} {L : PL} {i : Nat} (hi : i < L.length) (h : win (pK L i) x0 y0 x1 y1) : (L.take (i + 1)).foldl (wSt x0 y0 x1 y1) ([], 0) = (rsAdd ((L.take i).foldl (wSt x0 y0 x1 y1) ([], 0)).1 (pK L i) (nI (pV L i)), ((L.take i).foldl (wSt x0 y0 x1 y1) ([], 0)).2 + 1) := by
  rw [fold_take _ _ _ (0, 0) hi]
  exact cif_pos h
theorem w_out {x0 y0 x1 y1 : Int32} {L : PL} {i : Nat} (hi : i < L.length) (h : ¬ win (pK L i) x0 y0 x1 y1) : (L.take (i + 1)).foldl (wSt x0 y0 x1 y1) ([], 0) = (L.take i).foldl (wSt x0 y0 x1 y1) ([], 0) := by
  rw [fold_take _ _ _ (0, 0) hi]
  exact cif_neg h
theorem s_in {x0 y0 x1 y1 : Int32} {L : PL} {i : Nat} (hi : i < L.length) (h : win (pK L i) x0 y0 x1 y1) : (L.take (i + 1)).foldl (sSt x0 y0 x1 y1) (lN 0) = (L.take i).foldl (sSt x0 y0 x1 y1) (lN 0) + lN (pV L i) := by
  rw [fold_take _ _ _ (0, 0) hi]
  exact cif_pos h
theorem s_out {x0 y0 x1 y1 : Int32} {L : PL} {i : Nat} (hi : i < L.length) (h : ¬ win (pK L i) x0 y0 x1 y1) : (L.take (i + 1)).foldl (sSt x0 y0 x1 y1) (lN 0) = (L.take i).foldl (sSt x0 y0 x1 y1) (lN 0) := by
  rw [fold_take _ _ _ (0, 0) hi]
  exact cif_neg h
theorem n_step {x y : Int32} {k : Nat} {L : PL} {i : Nat} (hi : i < L.length) : (L.take (i + 1)).foldl (nSt x y k) [] = (insD ((L.take i).foldl (nSt x y k) []) (pK L i, nI (pV L i), dst (pK L i) x y)).take k := by
  rw [fold_take _ _ _ (0, 0) hi]; rfl
theorem n_len {x y : Int32} {k : Nat} {L : PL} {i : Nat} (hi : i ≤ L.length) : ((L.take i).foldl (nSt x y k) []).length ≤ k := by
  cases i with
  | zero => simp
  | succ i =>
    rw [n_step (by omega)]
    exact List.length_take_le _ _
theorem ct_le {x : Int32} (h1 : ¬ x < nI 1) (h2 : ¬ nI 150 < x) : ∃ k, 1 ≤ k ∧ k ≤ 150 ∧ x = nI k := by
  have h0 : ¬ x < 0 := fun z => h1 (Int32.lt_trans z (by decide))
  obtain ⟨k, hk, rfl⟩ := nI_of h0
  refine ⟨k, ?_, ?_, rfl⟩
  · rcases Nat.lt_or_ge k 1 with z | z
    · exact absurd (nI_lt z (by omega)) h1
    · exact z
  · rcases Nat.lt_or_ge 150 k with z | z
    · exact absurd (nI_lt z hk) h2
    · exact z
theorem p_le {n : Int32} (h1 : ¬ n < 0) (h2 : ¬ nI 256 < n) : ∃ k, k ≤ 256 ∧ n = nI k := by
  obtain ⟨k, hk, rfl⟩ := nI_of h1
  refine ⟨k, ?_, rfl⟩
  rcases Nat.lt_or_ge 256 k with z | z
  · exact absurd (nI_lt z hk) h2
  · exact z
theorem le_nlt {x y : Int32} (h : x ≤ y) : ¬ y < x := Int32.not_lt.mpr h
theorem take_256 (C : List Op) : C.take (C.length * 256 / 256) = C := by
  rw [Nat.mul_div_cancel _ (by decide), List.take_length]
theorem nearF_in {L : PL} {R : RSL} {x y k : Int32} (h : plc x ∧ plc y ∧ ¬ k < nI 1 ∧ ¬ nI 150 < k) : nearF (some L) R x y k = (nI (nAll x y k.toNatClampNeg L).length, rOf (nAll x y k.toNatClampNeg L)) := cif_pos h
theorem dif_succ : ∀ (n : Nat) (P C : PL) (a : RSL × Nat), P.length + C.length ≤ n → dif (n + 1) P C a = dif n P C a
  | 0, [], [], a, _ => rfl
  | 0, _ :: _, _, a, h => by simp at h
  | 0, [], _ :: _, a, h => by simp at h
  | n + 1, [], [], a, _ => rfl
  | n + 1, p :: P, [], a, h => dif_succ n P [] _ (by simp at h ⊢; omega)
  | n + 1, [], c :: C, a, h => dif_succ n [] C _ (by simp at h ⊢; omega)
  | n + 1, p :: P, c :: C, a, h => by
    show (if p.1 < c.1 then dif (n + 1) P (c :: C) (dAdd a p.1 (nI p.2)) else if c.1 < p.1 then dif (n + 1) (p :: P) C (dAdd a c.1 (-1)) else dif (n + 1) P C (if p.2 = c.2 then a else dAdd a p.1 (nI p.2))) = (if p.1 < c.1 then dif n P (c :: C) (dAdd a p.1 (nI p.2)) else if c.1 < p.1 then dif n (p :: P) C (dAdd a c.1 (-1)) else dif n P C (if p.2 = c.2 then a else dAdd a p.1 (nI p.2)))
    rw [dif_succ n P (c :: C) _ (by simp at h ⊢; omega), dif_succ n (p :: P) C _ (by simp at h ⊢; omega), dif_succ n P C _ (by simp at h; omega)]
def difA (P C : PL) (a : RSL × Nat) : RSL × Nat := dif (P.length + C.length) P C a
theorem drop_cons' {L : PL} {i : Nat} (h : i < L.length) : L.drop i = (pK L i, pV L i) :: L.drop (i + 1) := by
  rw [List.drop_eq_getElem_cons h]
  congr 1
  have e : L.getD i (0, 0) = L[i] := by simp [h]
  unfold pK pV
  rw [e]
theorem difA_p {P C : PL} {i : Nat} {a : RSL × Nat} (hi : i < P.length) (hj : C = []) : difA (P.drop i) C a = difA (P.drop (i + 1)) C (dAdd a (pK P i) (nI (pV P i))) := by
  subst hj
  rw [drop_cons' hi]; rfl
theorem difA_c {P C : PL} {j : Nat} {a : RSL × Nat} (hj : j < C.length) (hi : P = []) : difA P (C.drop j) a = difA P (C.drop (j + 1)) (dAdd a (pK C j) (-1)) := by
  subst hi
  rw [drop_cons' hj]
  unfold difA
  rw [List.length_nil, Nat.zero_add, Nat.zero_add]; rfl
theorem difA_lt {P C : PL} {i j : Nat} {a : RSL × Nat} (hi : i < P.length) (hj : j < C.length) (h : pK P i < pK C j) : difA (P.drop i) (C.drop j) a = difA (P.drop (i + 1)) (C.drop j) (dAdd a (pK P i) (nI (pV P i))) := by
  rw [drop_cons' hi, drop_cons' hj]
  unfold difA
  rw [List.length_cons, show (P.drop (i + 1)).length + 1 + ((pK C j, pV C j) :: C.drop (j + 1)).length = (P.drop (i + 1)).length + ((pK C j, pV C j) :: C.drop (j + 1)).length + 1 by omega]
  show (if pK P i < pK C j then _ else _) = _
  rw [if_pos h]
theorem difA_gt {P C : PL} {i j : Nat} {a : RSL × Nat} (hi : i < P.length) (hj : j < C.length) (h : pK C j < pK P i) : difA (P.drop i) (C.drop j) a = difA (P.drop i) (C.drop (j + 1)) (dAdd a (pK C j) (-1)) := by
  rw [drop_cons' hi, drop_cons' hj]
  unfold difA
  rw [List.length_cons, List.length_cons, show (P.drop (i + 1)).length + 1 + ((C.drop (j + 1)).length + 1) = (P.drop (i + 1)).length + 1 + (C.drop (j + 1)).length + 1 by omega]
  show (if pK P i < pK C j then _ else if pK C j < pK P i then _ else _) = _
  rw [if_neg (by omega), if_pos h]
theorem difA_eq {P C : PL} {i j : Nat} {a : RSL × Nat} (hi : i < P.length) (hj : j < C.length) (h : pK P i = pK C j) : difA (P.drop i) (C.drop j) a = difA (P.drop (i + 1)) (C.drop (j + 1)) (if pV P i = pV C j then a else dAdd a (pK P i) (nI (pV P i))) := by
  rw [drop_cons' hi, drop_cons' hj]
  unfold difA
  rw [List.length_cons, List.length_cons, show (P.drop (i + 1)).length + 1 + ((C.drop (j + 1)).length + 1) = ((P.drop (i + 1)).length + (C.drop (j + 1)).length + 1) + 1 by omega]
  show (if pK P i < pK C j then _ else if pK C j < pK P i then _ else dif ((P.drop (i + 1)).length + (C.drop (j + 1)).length + 1) _ _ _) = _
  rw [if_neg (by omega), if_neg (by omega), dif_succ _ _ _ _ (Nat.le_refl _)]
theorem difA_end {P C : PL} {i j : Nat} {a : RSL × Nat} (hi : P.length ≤ i) (hj : C.length ≤ j) : difA (P.drop i) (C.drop j) a = a := by
  rw [List.drop_eq_nil_of_le hi, List.drop_eq_nil_of_le hj]; rfl
theorem d_cases {P C : PL} (i j : Nat) : (i < P.length ∧ C.length ≤ j) ∨ (P.length ≤ i ∧ j < C.length) ∨ (i < P.length ∧ j < C.length ∧ pK P i < pK C j) ∨ (i < P.length ∧ j < C.length ∧ pK C j < pK P i) ∨ (i < P.length ∧ j < C.length ∧ pK P i = pK C j) ∨ (P.length ≤ i ∧ C.length ≤ j) := by omega
