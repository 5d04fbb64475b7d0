/-! THE REFERENCE's words: points by place, codes of places -/
def lexl (x y : Int32) (key : Nat) : Prop := nI (key / 32768) < x ∨ (nI (key / 32768) = x ∧ nI (key % 32768) < y)
theorem lex_mono {x y : Int32} {a b : Nat} (hb : b < 2 ^ 30) (hab : a < b) (h : lexl x y b) : lexl x y a := by
  have ha : a / 32768 < 2 ^ 31 := by omega
  have ha' : a % 32768 < 2 ^ 31 := by omega
  have hb1 : b / 32768 < 2 ^ 31 := by omega
  have hb2 : b % 32768 < 2 ^ 31 := by omega
  rcases (show a / 32768 < b / 32768 ∨ (a / 32768 = b / 32768 ∧ a % 32768 < b % 32768) by omega) with z | ⟨z1, z2⟩
  · have := nI_lt z hb1
    rcases h with w | ⟨w, -⟩
    · exact Or.inl (Int32.lt_trans this w)
    · rw [w] at this; exact Or.inl this
  · unfold lexl
    rw [z1]
    rcases h with w | ⟨w, w2⟩
    · exact Or.inl w
    · exact Or.inr ⟨w, Int32.lt_trans (nI_lt z2 hb2) w2⟩
theorem lex_nat {a b k : Nat} (ha : a < 32768) (hb : b < 32768) (hk : k < 2 ^ 30) : lexl (nI a) (nI b) k ↔ k < a * 32768 + b := by
  unfold lexl
  rw [nI_ltI (by omega) (by omega), nI_eq (by omega) (by omega), nI_ltI (by omega) (by omega)]
  omega
def lOk (L : PL) : Prop := L.length ≤ 512 ∧ pSort L ∧ ∀ q ∈ L, q.1 < 2 ^ 30 ∧ q.2 < 2 ^ 31
theorem lOk.kb {L : PL} (h : lOk L) {i : Nat} (hi : i < L.length) : pK L i < 2 ^ 30 := (h.2.2 _ (pK_mem hi)).1
theorem lOk.vb {L : PL} (h : lOk L) {i : Nat} (hi : i < L.length) : pV L i < 2 ^ 31 := (h.2.2 _ (pK_mem hi)).2
def plAt (L : PL) (x y : Int32) (k : Nat) : Prop := k ≤ L.length ∧ (∀ i, i < k → lexl x y (pK L i)) ∧ ∀ i, k ≤ i → i < L.length → ¬ lexl x y (pK L i)
theorem pl_lo {L : PL} {x y : Int32} (h : lOk L) {j : Nat} (hj : j < L.length) (hl : lexl x y (pK L j)) : ∀ i, i < j + 1 → lexl x y (pK L i) := by
  intro i hi
  rcases Nat.lt_or_ge i j with z | z
  · exact lex_mono (h.kb hj) (sort_ij h.2.1 z hj) hl
  · rw [show i = j by omega]; exact hl
theorem pl_hi {L : PL} {x y : Int32} (h : lOk L) {j : Nat} (hl : ¬ lexl x y (pK L j)) : ∀ i, j ≤ i → i < L.length → ¬ lexl x y (pK L i) := by
  intro i hi hil z
  rcases Nat.lt_or_ge j i with w | w
  · exact hl (lex_mono (h.kb hil) (sort_ij h.2.1 w hil) z)
  · rw [show i = j by omega] at z; exact hl z
theorem plAt_rk {L : PL} {a b k : Nat} (h : lOk L) (ha : a < 32768) (hb : b < 32768) (hp : plAt L (nI a) (nI b) k) : k = rk L (a * 32768 + b) := by
  have hr := rk_le L (a * 32768 + b)
  rcases Nat.lt_trichotomy k (rk L (a * 32768 + b)) with z | z | z
  · exfalso
    have h1 := rk_lt L _ _ z
    exact hp.2.2 k (Nat.le_refl _) (by omega) ((lex_nat ha hb (h.kb (by omega))).mpr h1)
  · exact z
  · exfalso
    have h1 := hp.2.1 _ z
    have hk := hp.1
    have h2 := (lex_nat ha hb (h.kb (by omega))).mp h1
    have h3 := rk_ge L (a * 32768 + b) _ h.2.1 (Nat.le_refl _) (by omega)
    omega
def mX (xf yf : Nat → Int32) (s : Nat) (L : PL) : Prop := ∀ i, i < L.length → xf (3300 * s + i) = nI (pK L i / 32768) ∧ yf (3300 * s + i) = nI (pK L i % 32768)
def mV (vf : Nat → Int32) (s : Nat) (L : PL) : Prop := ∀ i, i < L.length → vf (3300 * s + i) = nI (pV L i)
def mC (cf : Nat → Int64) (s : Nat) (Z : PL) : Prop := ∀ i, i < Z.length → cf (3300 * s + i) = lN (pK Z i)
theorem lg_ge {a c : Nat} (ha : a < 2 ^ 62) (hc : c < 2 ^ 62) (h : 0 ≤ lg_cmp (lN a) (lN c)) : c ≤ a := by
  rcases Nat.lt_or_ge a c with z | z
  · exfalso
    have h1 : lN a < lN c := (pk_lLT (by omega) (by omega)).mpr z
    have : lg_cmp (lN a) (lN c) = -1 := by
      unfold lg_cmp
      rw [if_neg (fun w : lN c < lN a => by have := (pk_lLT (by omega) (by omega)).mp w; omega), if_neg (fun w => by have := (pk_lEQ (by omega) (by omega)).mp w; omega)]
    rw [this] at h
    exact absurd h (by decide)
  · exact z
theorem lg_nge {a c : Nat} (ha : a < 2 ^ 62) (hc : c < 2 ^ 62) (h : ¬ 0 ≤ lg_cmp (lN a) (lN c)) : a < c := by
  rcases Nat.lt_or_ge a c with z | z
  · exact z
  · exfalso
    apply h
    unfold lg_cmp
    by_cases w : lN c < lN a
    · rw [if_pos w]; decide
    · have : a = c := by
        rcases Nat.lt_or_ge c a with q | q
        · exact absurd ((pk_lLT (by omega) (by omega)).mpr q) w
        · omega
      rw [if_neg w, if_pos (by rw [this])]; decide
/-- the code of a place: its bits, interleaved -/
def zc : Nat → Nat → Nat → Nat
  | 0, _, _ => 0
  | b + 1, x, y => 4 * zc b (x / 2) (y / 2) + 2 * (y % 2) + x % 2
theorem zc_s (b x y : Nat) : zc (b + 1) x y = 4 * zc b (x / 2) (y / 2) + 2 * (y % 2) + x % 2 := rfl
theorem zc_lt : ∀ (b x y : Nat), zc b x y < 4 ^ b
  | 0, _, _ => by simp [zc]
  | b + 1, x, y => by
    have := zc_lt b (x / 2) (y / 2)
    unfold zc
    rw [Nat.pow_succ]
    omega
theorem zc_inj : ∀ (b x y x' y' : Nat), x < 2 ^ b → y < 2 ^ b → x' < 2 ^ b → y' < 2 ^ b → zc b x y = zc b x' y' → x = x' ∧ y = y'
  | 0, x, y, x', y', h1, h2, h3, h4, _ => by simp at h1 h2 h3 h4; omega
  | b + 1, x, y, x', y', h1, h2, h3, h4, h => by
    unfold zc at h
    rw [Nat.pow_succ] at h1 h2 h3 h4
    have := zc_inj b (x / 2) (y / 2) (x' / 2) (y' / 2) (by omega) (by omega) (by omega) (by omega) (by omega)
    omega
theorem zc_div : ∀ (d e x y : Nat), zc (e + d) x y / 4 ^ d = zc e (x / 2 ^ d) (y / 2 ^ d)
  | 0, e, x, y => by simp
  | d + 1, e, x, y => by
    rw [show 4 ^ (d + 1) = 4 * 4 ^ d by rw [Nat.pow_succ]; omega, ← Nat.div_div_eq_div_mul]
    have e1 : zc (e + (d + 1)) x y / 4 = zc (e + d) (x / 2) (y / 2) := by
      show zc (e + d + 1) x y / 4 = _
      rw [zc_s]
      omega
    rw [e1, zc_div d e, Nat.div_div_eq_div_mul, Nat.div_div_eq_div_mul, show 2 * 2 ^ d = 2 ^ (d + 1) by rw [Nat.pow_succ]; omega]
theorem zc_mul : ∀ (d e X Y : Nat), zc (e + d) (X * 2 ^ d) (Y * 2 ^ d) = 4 ^ d * zc e X Y
  | 0, e, X, Y => by simp
  | d + 1, e, X, Y => by
    show zc (e + d + 1) (X * 2 ^ (d + 1)) (Y * 2 ^ (d + 1)) = _
    have h1 : X * 2 ^ (d + 1) = 2 * (X * 2 ^ d) := by rw [Nat.pow_succ, ← Nat.mul_assoc, Nat.mul_comm]
    have h2 : Y * 2 ^ (d + 1) = 2 * (Y * 2 ^ d) := by rw [Nat.pow_succ, ← Nat.mul_assoc, Nat.mul_comm]
    rw [zc_s, h1, h2, Nat.mul_div_cancel_left _ (by decide), Nat.mul_div_cancel_left _ (by decide), Nat.mul_mod_right, Nat.mul_mod_right, zc_mul d e, show 4 ^ (d + 1) = 4 * 4 ^ d by rw [Nat.pow_succ]; omega, Nat.mul_assoc]
    omega
def zk (b key : Nat) : Nat := zc b (key / 32768) (key % 32768)
theorem zk_lt (b key : Nat) : zk b key < 4 ^ b := zc_lt _ _ _
theorem pw_div {a X d : Nat} : (X * 2 ^ d ≤ a ∧ a < X * 2 ^ d + 2 ^ d) ↔ a / 2 ^ d = X := by
  have hp : 0 < 2 ^ d := Nat.pow_pos (by decide)
  constructor
  · rintro ⟨h1, h2⟩
    have e1 : X ≤ a / 2 ^ d := (Nat.le_div_iff_mul_le hp).mpr h1
    have e2 : a / 2 ^ d < X + 1 := (Nat.div_lt_iff_lt_mul hp).mpr (by rw [Nat.add_mul, Nat.one_mul]; exact h2)
    omega
  · intro h
    subst h
    have e1 := Nat.div_mul_le_self a (2 ^ d)
    have e2 := Nat.lt_mul_of_div_lt (show a / 2 ^ d < a / 2 ^ d + 1 by omega) hp
    rw [Nat.add_mul, Nat.one_mul] at e2
    exact ⟨e1, e2⟩
theorem c4_div {z K d : Nat} : (4 ^ d * K ≤ z ∧ z < 4 ^ d * K + 4 ^ d) ↔ z / 4 ^ d = K := by
  have h := pw_div (a := z) (X := K) (d := 2 * d)
  rw [Nat.pow_mul] at h
  rw [Nat.mul_comm (4 ^ d) K]
  exact h
/-- a region holds just the places whose codes are in its row -/
theorem reg_code {d e X Y key : Nat} {v : Nat} (hX : X < 2 ^ e) (hY : Y < 2 ^ e) (hx : key / 32768 < 2 ^ (e + d)) (hy : key % 32768 < 2 ^ (e + d)) : inq (X * 2 ^ d) (Y * 2 ^ d) (2 ^ d) (key, v) = true ↔ 4 ^ d * zc e X Y ≤ zk (e + d) key ∧ zk (e + d) key < 4 ^ d * zc e X Y + 4 ^ d := by
  rw [c4_div]
  unfold zk inq
  rw [zc_div, decide_eq_true_eq]
  show (X * 2 ^ d ≤ key / 32768 ∧ key / 32768 < X * 2 ^ d + 2 ^ d ∧ Y * 2 ^ d ≤ key % 32768 ∧ key % 32768 < Y * 2 ^ d + 2 ^ d) ↔ _
  have hp : 0 < 2 ^ d := Nat.pow_pos (by decide)
  have a1 : key / 32768 / 2 ^ d < 2 ^ e := (Nat.div_lt_iff_lt_mul hp).mpr (by rw [← Nat.pow_add]; exact hx)
  have a2 : key % 32768 / 2 ^ d < 2 ^ e := (Nat.div_lt_iff_lt_mul hp).mpr (by rw [← Nat.pow_add]; exact hy)
  constructor
  · rintro ⟨h1, h2, h3, h4⟩
    rw [pw_div.mp ⟨h1, h2⟩, pw_div.mp ⟨h3, h4⟩]
  · intro h
    obtain ⟨h1, h2⟩ := zc_inj e _ _ _ _ a1 a2 hX hY h
    obtain ⟨b1, b2⟩ := pw_div.mpr h1
    obtain ⟨b3, b4⟩ := pw_div.mpr h2
    exact ⟨b1, b2, b3, b4⟩
theorem rk_count : ∀ (Z : PL) (c : Nat), pSort Z → rk Z c = Z.countP (fun q => decide (q.1 < c))
  | [], c, _ => by simp [rk]
  | q :: Z, c, hs => by
    have h2 := List.pairwise_cons.mp hs
    unfold rk
    by_cases h : q.1 < c
    · rw [if_pos h, List.countP_cons_of_pos (by simpa using h), rk_count Z c h2.2]
    · rw [if_neg h, List.countP_cons_of_neg (by simpa using h)]
      symm
      rw [List.countP_eq_zero]
      intro r hr
      have := h2.1 r hr
      simp
      omega
/-- the codes of a list of points -/
def zOk (b : Nat) (L Z : PL) : Prop := pSort Z ∧ Z.Perm (L.map (fun q => (zk b q.1, q.2)))
theorem zOk.len {b : Nat} {L Z : PL} (h : zOk b L Z) : Z.length = L.length := by rw [h.2.length_eq, List.length_map]
theorem count_split (L : PL) (f : Nat × Nat → Nat) (c w : Nat) : L.countP (fun q => decide (f q < c + w)) = L.countP (fun q => decide (f q < c)) + L.countP (fun q => decide (c ≤ f q ∧ f q < c + w)) := by
  induction L with
  | nil => rfl
  | cons q L ih =>
    simp only [List.countP_cons, ih]
    by_cases h1 : f q < c
    · have a1 : decide (f q < c + w) = true := decide_eq_true (by omega)
      have a2 : decide (f q < c) = true := decide_eq_true h1
      have a3 : decide (c ≤ f q ∧ f q < c + w) = false := decide_eq_false (by omega)
      simp only [a1, a2, a3]
      simp; omega
    · by_cases h2 : f q < c + w
      · have a1 : decide (f q < c + w) = true := decide_eq_true h2
        have a2 : decide (f q < c) = false := decide_eq_false h1
        have a3 : decide (c ≤ f q ∧ f q < c + w) = true := decide_eq_true (by omega)
        simp only [a1, a2, a3]
        simp; omega
      · have a1 : decide (f q < c + w) = false := decide_eq_false h2
        have a2 : decide (f q < c) = false := decide_eq_false h1
        have a3 : decide (c ≤ f q ∧ f q < c + w) = false := decide_eq_false (by omega)
        simp only [a1, a2, a3]
        simp
theorem reg_count {d e X Y : Nat} {L Z : PL} (hz : zOk (e + d) L Z) (hi : insd (e + d) L) (hX : X < 2 ^ e) (hY : Y < 2 ^ e) : rk Z (4 ^ d * zc e X Y + 4 ^ d) = rk Z (4 ^ d * zc e X Y) + (L.filter (inq (X * 2 ^ d) (Y * 2 ^ d) (2 ^ d))).length := by
  rw [rk_count Z _ hz.1, rk_count Z _ hz.1, hz.2.countP_eq, hz.2.countP_eq, List.countP_map, List.countP_map, ← List.countP_eq_length_filter]
  have h := count_split L (fun q => zk (e + d) q.1) (4 ^ d * zc e X Y) (4 ^ d)
  refine h.trans ?_
  congr 1
  apply List.countP_congr
  intro q hq
  have := hi q hq
  rw [decide_eq_true_eq]
  exact (reg_code (v := q.2) hX hY this.1 this.2).symm
theorem zc_bit1 {z u v : Nat} : (z * 2 ^ 2 + u % 2 * 2) ||| (v % 2) = z * 2 ^ 2 + u % 2 * 2 + v % 2 := by
  have h := or_add (a := z * 2 + u % 2) (b := v % 2) (i := 1) (by omega)
  rw [show z * 2 ^ 2 + u % 2 * 2 = (z * 2 + u % 2) * 2 ^ 1 by omega]
  exact h
theorem zc_step {b e x y : Nat} (h : e < b) : zc (b - (e + 1)) (x / 2 ^ (e + 1)) (y / 2 ^ (e + 1)) * 2 ^ 2 + y / 2 ^ e % 2 * 2 + x / 2 ^ e % 2 = zc (b - e) (x / 2 ^ e) (y / 2 ^ e) := by
  obtain ⟨f, hf⟩ : ∃ f, b - e = f + 1 := ⟨b - e - 1, by omega⟩
  rw [show b - (e + 1) = f by omega, hf, Nat.pow_succ, ← Nat.div_div_eq_div_mul, ← Nat.div_div_eq_div_mul]
  show _ = 4 * zc f (x / 2 ^ e / 2) (y / 2 ^ e / 2) + 2 * (y / 2 ^ e % 2) + x / 2 ^ e % 2
  omega
