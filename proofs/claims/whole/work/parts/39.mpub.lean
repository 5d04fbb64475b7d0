theorem mSt_nil {b : Nat} {mf xf yf vf wf : Nat → Int32} {cf : Nat → Int64} {s : Nat} (h : mf s = nI 0) : mSt b mf xf yf vf wf cf s [] [] :=
  ⟨h, fun i hi => by simp at hi, fun i hi => by simp at hi, fun i hi => by simp at hi, fun i hi => by simp at hi, fun i hi => by simp at hi, ⟨by simp, List.Pairwise.nil, fun q hq => by simp at hq⟩, ⟨List.Pairwise.nil, List.Perm.refl _⟩, fun q hq => by simp at hq⟩
theorem key_eq {k a c : Nat} (hk : k < 2 ^ 30) (ha : a < 32768) (hc : c < 32768) (h1 : nI (k / 32768) = nI a) (h2 : nI (k % 32768) = nI c) : k = a * 32768 + c := by
  have e1 := (nI_eq (by omega) (by omega)).mp h1
  have e2 := (nI_eq (by omega) (by omega)).mp h2
  omega
theorem at_some {L : PL} {a c : Nat} (h : lOk L) (ha : a < 32768) (hc : c < 32768) (hp : rk L (a * 32768 + c) < L.length ∧ nI (pK L (rk L (a * 32768 + c)) / 32768) = nI a ∧ nI (pK L (rk L (a * 32768 + c)) % 32768) = nI c) : lkp L (a * 32768 + c) = some (pV L (rk L (a * 32768 + c))) := by
  have e := key_eq (h.kb hp.1) ha hc hp.2.1 hp.2.2
  rw [lkp_rk L _ h.2.1, if_pos ⟨hp.1, e⟩]
theorem at_none {L : PL} {a c : Nat} (h : lOk L) (hp : ¬ (rk L (a * 32768 + c) < L.length ∧ nI (pK L (rk L (a * 32768 + c)) / 32768) = nI a ∧ nI (pK L (rk L (a * 32768 + c)) % 32768) = nI c)) (hc : c < 32768) : lkp L (a * 32768 + c) = none := by
  rw [lkp_rk L _ h.2.1, if_neg]
  rintro ⟨z1, z2⟩
  apply hp
  rw [z2]
  exact ⟨z1, by congr 1; omega, by congr 1; omega⟩
theorem get_some {b sp : Nat} {L : PL} {x y : Int32} {k : Nat} (h : lOk L) (hi : insd b L) (hb : b ≤ 15) (hsp : sp = 2 ^ b) (hp : k < L.length ∧ nI (pK L k / 32768) = x ∧ nI (pK L k % 32768) = y) : getV sp (some L) x y = nI (pV L k) := by
  obtain ⟨h1, rfl, rfl⟩ := hp
  have hq := hi _ (pK_mem h1)
  have hkb := h.kb h1
  have hpb : 2 ^ b ≤ 32768 := Nat.pow_le_pow_right (n := 2) (by decide) hb
  have ho : onp (nI (pK L k / 32768)) (nI (pK L k % 32768)) sp := by
    refine ⟨nI_pos (by omega), ?_, nI_pos (by omega), ?_⟩
    · exact nI_ge (by rw [hsp]; exact hq.1) (by omega)
    · exact nI_ge (by rw [hsp]; exact hq.2) (by omega)
  rw [getV_in ho, kOf_nI (by omega) (by omega), show pK L k / 32768 * 32768 + pK L k % 32768 = pK L k by omega]
  unfold vOf
  rw [lkp_mem h.2.1 (pK_mem h1)]
theorem get_none {sp : Nat} {L : PL} {x y : Int32} {k : Nat} (h : lOk L) (hsp : sp ≤ 32768) (hpl : plAt L x y k) (hp : ¬ (k < L.length ∧ nI (pK L k / 32768) = x ∧ nI (pK L k % 32768) = y)) : getV sp (some L) x y = -1 := by
  by_cases ho : onp x y sp
  · rw [getV_in ho]
    obtain ⟨a, c, ha, hc, rfl, rfl⟩ := onp_of ho hsp
    have e := plAt_rk h (by omega) (by omega) hpl
    subst e
    rw [kOf_nI (by omega) (by omega)]
    unfold vOf
    rw [at_none h hp (by omega)]
  · exact getV_out ho
theorem w_cnt {x0 y0 x1 y1 : Int32} {L : PL} : ∀ i, i ≤ L.length → ((L.take i).foldl (wSt x0 y0 x1 y1) ([], 0)).2 ≤ i
  | 0, _ => by simp
  | i + 1, h => by
    have ih := w_cnt (x0 := x0) (y0 := y0) (x1 := x1) (y1 := y1) (L := L) i (by omega)
    by_cases hw : win (pK L i) x0 y0 x1 y1
    · rw [w_in (by omega) hw]; exact Nat.succ_le_succ ih
    · rw [w_out (by omega) hw]; omega
theorem rk_pput {L : PL} {key v : Nat} (hs : pSort L) : rk (pput L key v) key = rk L key := by
  induction L with
  | nil => simp [pput, rk]
  | cons q L ih =>
    unfold pput
    by_cases h1 : q.1 < key
    · rw [if_pos h1]
      show (if q.1 < key then rk (pput L key v) key + 1 else 0) = (if q.1 < key then rk L key + 1 else 0)
      rw [if_pos h1, if_pos h1, ih (List.pairwise_cons.mp hs).2]
    · rw [if_neg h1]
      have e : rk (q :: L) key = 0 := by simp [rk, h1]
      rw [e]
      split <;> simp [rk]
theorem sub4_len (x y h : Nat) (P : PL) : (sub x y h P 0).length + (sub x y h P 1).length + (sub x y h P 2).length + (sub x y h P 3).length ≤ P.length := by
  induction P with
  | nil => simp [sub]
  | cons e P ih =>
    have c : ∀ q, (sub x y h (e :: P) q).length = (sub x y h P q).length + (if inq (x + q % 2 * h) (y + q / 2 * h) h e = true then 1 else 0) := fun q => by
      unfold sub
      rw [List.filter_cons]
      split
      · simp
      · simp
    have ap := fun q q' hq hq' hne => q_apart (x := x) (y := y) (h := h) (q := q) (q' := q') (e := e) hq hq' hne
    rw [c 0, c 1, c 2, c 3, List.length_cons]
    by_cases a0 : inq (x + 0 % 2 * h) (y + 0 / 2 * h) h e = true
    · rw [if_pos a0, if_neg (by rw [ap 0 1 (by decide) (by decide) (by decide) a0]; decide), if_neg (by rw [ap 0 2 (by decide) (by decide) (by decide) a0]; decide), if_neg (by rw [ap 0 3 (by decide) (by decide) (by decide) a0]; decide)]
      omega
    · rw [if_neg a0]
      by_cases a1 : inq (x + 1 % 2 * h) (y + 1 / 2 * h) h e = true
      · rw [if_pos a1, if_neg (by rw [ap 1 2 (by decide) (by decide) (by decide) a1]; decide), if_neg (by rw [ap 1 3 (by decide) (by decide) (by decide) a1]; decide)]
        omega
      · rw [if_neg a1]
        by_cases a2 : inq (x + 2 % 2 * h) (y + 2 / 2 * h) h e = true
        · rw [if_pos a2, if_neg (by rw [ap 2 3 (by decide) (by decide) (by decide) a2]; decide)]
          omega
        · rw [if_neg a2]
          split <;> omega
theorem kids_4 (f : Nat → Nat → PL → List Nd) (x y h : Nat) (P : PL) : (kids f x y h P 4).length = (kid f x y h P 0).length + (kid f x y h P 1).length + (kid f x y h P 2).length + (kid f x y h P 3).length := by
  show (((([] ++ kid f x y h P 0) ++ kid f x y h P 1) ++ kid f x y h P 2) ++ kid f x y h P 3).length = _
  simp only [List.length_append, List.length_nil, Nat.zero_add]
theorem tr_len (bk : Nat) : ∀ (d x y : Nat) (P : PL), (tr bk d x y P).length ≤ 1 + d * P.length
  | 0, x, y, P => by simp [tr]
  | d + 1, x, y, P => by
    rw [tr_s]
    split
    · simp
    · rw [List.length_cons, kids_4]
      have k : ∀ q, (kid (fun x y P => tr bk d x y P) x y (2 ^ d) P q).length ≤ (d + 1) * (sub x y (2 ^ d) P q).length := fun q => by
        unfold kid
        split
        · simp
        · rename_i hz
          have := tr_len bk d (x + q % 2 * 2 ^ d) (y + q / 2 * 2 ^ d) (sub x y (2 ^ d) P q)
          show (tr bk d (x + q % 2 * 2 ^ d) (y + q / 2 * 2 ^ d) (sub x y (2 ^ d) P q)).length ≤ (d + 1) * (sub x y (2 ^ d) P q).length
          rw [Nat.add_mul, Nat.one_mul]
          omega
      have h4 := Nat.mul_le_mul_left (d + 1) (sub4_len x y (2 ^ d) P)
      rw [Nat.mul_add, Nat.mul_add, Nat.mul_add] at h4
      have k0 := k 0
      have k1 := k 1
      have k2 := k 2
      have k3 := k 3
      omega
theorem tr_len_lt {bk b : Nat} {L : PL} (h : lOk L) (_ : insd b L) (hb : b ≤ 15) : (tr bk b 0 0 L).length < 2 ^ 31 := by
  have h1 := tr_len bk b 0 0 L
  have h2 : b * L.length ≤ 15 * 512 := Nat.mul_le_mul hb h.1
  omega
