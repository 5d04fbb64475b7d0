/-! a bit of x and one of y tell the quarters of a node apart -/
theorem bq_pw (n i : Nat) : n &&& 2 ^ i = n / 2 ^ i % 2 * 2 ^ i := by
  have h1 : (n &&& 2 ^ i) = if n.testBit i = true then 2 ^ i else 0 := by
    apply Nat.eq_of_testBit_eq
    intro j
    rw [Nat.testBit_and, Nat.testBit_two_pow]
    by_cases h : i = j
    · subst h
      cases q : n.testBit i <;> simp [Nat.testBit_two_pow]
    · cases q : n.testBit i <;> simp [h, Nat.testBit_two_pow]
  rw [h1, Nat.testBit_eq_decide_div_mod_eq]
  rcases Nat.mod_two_eq_zero_or_one (n / 2 ^ i) with hb | hb
  · rw [hb, if_neg (by decide), Nat.zero_mul]
  · rw [hb, if_pos (by decide), Nat.one_mul]
theorem bq_div (a b : Nat) : (a &&& b) / 2 ^ 15 = a / 2 ^ 15 &&& b / 2 ^ 15 := by
  first
    | exact Nat.and_div_two_pow ..
    | rw [← Nat.shiftRight_eq_div_pow, ← Nat.shiftRight_eq_div_pow, ← Nat.shiftRight_eq_div_pow, Nat.shiftRight_and_distrib]
theorem bq_mod (a b : Nat) : (a &&& b) % 2 ^ 15 = (a % 2 ^ 15) &&& (b % 2 ^ 15) := Nat.and_mod_two_pow ..
theorem bq_one {d t k a x : Nat} (hx : x = 2 * t * 2 ^ d) (ha : a < 2) (h1 : x ≤ k) (h2 : k < x + 2 * 2 ^ d) : k &&& 2 ^ d = a * 2 ^ d ↔ x + a * 2 ^ d ≤ k ∧ k < x + a * 2 ^ d + 2 ^ d := by
  have hd : 0 < 2 ^ d := Nat.pow_pos (by decide)
  rw [bq_pw]
  generalize 2 ^ d = h at hx h2 hd ⊢
  rcases Nat.lt_or_ge k (x + h) with c | c
  · have e : k / h = 2 * t := Nat.div_eq_of_lt_le (by omega) (by rw [Nat.succ_mul]; omega)
    rw [e, show 2 * t % 2 = 0 by omega, Nat.zero_mul]
    rcases (show a = 0 ∨ a = 1 by omega) with rfl | rfl
    · rw [Nat.zero_mul]
      exact ⟨fun _ => ⟨by omega, by omega⟩, fun _ => rfl⟩
    · rw [Nat.one_mul]
      exact ⟨fun z => absurd z (by omega), fun z => absurd z.1 (by omega)⟩
  · have e : k / h = 2 * t + 1 := Nat.div_eq_of_lt_le (by rw [Nat.succ_mul]; omega) (by rw [Nat.succ_mul, Nat.succ_mul]; omega)
    rw [e, show (2 * t + 1) % 2 = 1 by omega, Nat.one_mul]
    rcases (show a = 0 ∨ a = 1 by omega) with rfl | rfl
    · rw [Nat.zero_mul]
      exact ⟨fun z => absurd z (by omega), fun z => absurd z.2 (by omega)⟩
    · rw [Nat.one_mul]
      exact ⟨fun _ => ⟨by omega, by omega⟩, fun _ => rfl⟩
theorem inS_bits {L : PL} {i x y d q : Nat} (hq : q < 4) (hxa : ∃ t, x = t * 2 ^ (d + 1)) (hya : ∃ t, y = t * 2 ^ (d + 1)) (hd : 2 ^ d < 32768) (hin : inS L x y (2 ^ (d + 1)) i = true) : inS L (x + q % 2 * 2 ^ d) (y + q / 2 * 2 ^ d) (2 ^ d) i = true ↔ pK L i &&& (2 ^ d * 32768 + 2 ^ d) = q % 2 * 2 ^ d * 32768 + q / 2 * 2 ^ d := by
  obtain ⟨t, ht⟩ := hxa
  obtain ⟨s, hs⟩ := hya
  have hp2 : 2 ^ (d + 1) = 2 * 2 ^ d := by rw [Nat.pow_succ]; omega
  unfold inS inq at hin ⊢
  rw [decide_eq_true_eq] at hin ⊢
  have hK : pK L i = (L.getD i (0, 0)).1 := rfl
  rw [hK]
  generalize (L.getD i (0, 0)).1 = K at hin ⊢
  rw [hp2] at hin
  obtain ⟨h1, h2, h3, h4⟩ := hin
  have ex := bq_one (d := d) (t := t) (k := K / 32768) (a := q % 2) (x := x) (by rw [ht, hp2, ← Nat.mul_assoc, Nat.mul_comm t 2]) (by omega) h1 h2
  have ey := bq_one (d := d) (t := s) (k := K % 32768) (a := q / 2) (x := y) (by rw [hs, hp2, ← Nat.mul_assoc, Nat.mul_comm s 2]) (by omega) h3 h4
  have ed := bq_div K (2 ^ d * 32768 + 2 ^ d)
  have em := bq_mod K (2 ^ d * 32768 + 2 ^ d)
  rw [show (2 : Nat) ^ 15 = 32768 from rfl] at ed em
  rw [show (2 ^ d * 32768 + 2 ^ d) / 32768 = 2 ^ d by omega] at ed
  rw [show (2 ^ d * 32768 + 2 ^ d) % 32768 = 2 ^ d by omega] at em
  have hqy : q / 2 * 2 ^ d ≤ 2 ^ d := by
    rcases (show q / 2 = 0 ∨ q / 2 = 1 by omega) with z | z <;> rw [z] <;> omega
  constructor
  · intro z
    have e1 := ex.mpr ⟨z.1, z.2.1⟩
    have e2 := ey.mpr ⟨z.2.2.1, z.2.2.2⟩
    rw [e1] at ed
    rw [e2] at em
    omega
  · intro z
    rw [z] at ed em
    have e1 := ex.mp (by rw [← ed]; omega)
    have e2 := ey.mp (by rw [← em]; omega)
    exact ⟨e1.1, e1.2, e2.1, e2.2⟩
theorem al_kid {d x : Nat} (a : Nat) (h : ∃ t, x = t * 2 ^ (d + 1)) : ∃ t, x + a * 2 ^ d = t * 2 ^ d := by
  obtain ⟨t, ht⟩ := h
  refine ⟨2 * t + a, ?_⟩
  rw [ht, Nat.pow_succ, Nat.add_mul, Nat.mul_comm (2 ^ d) 2, ← Nat.mul_assoc, Nat.mul_comm t 2]
