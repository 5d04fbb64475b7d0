/-! the regions that wait, and the nodes that are still to come -/
abbrev Rg : Type := Nat × Nat × Nat
def rg0 : Rg := (0, 0, 0)
def rgOk (b : Nat) (r : Rg) : Prop := r.1 ≤ b ∧ r.2.1 < 2 ^ (b - r.1) ∧ r.2.2 < 2 ^ (b - r.1)
def cdR (b : Nat) (r : Rg) : Nat := 4 ^ r.1 * zc (b - r.1) r.2.1 r.2.2
def wOk (b : Nat) (lf : Nat → Int32) (kf : Nat → Int64) (W : List Rg) : Prop := ∀ i, i < W.length → lf i = nI (b - (W.getD i rg0).1) ∧ kf i = lN (cdR b (W.getD i rg0)) ∧ rgOk b (W.getD i rg0) ∧ i ≤ 3 * (b - (W.getD i rg0).1)
def flt (L : PL) (d X Y : Nat) : PL := L.filter (inq (X * 2 ^ d) (Y * 2 ^ d) (2 ^ d))
def trR (bk : Nat) (L : PL) (r : Rg) : List Nd := tr bk r.1 (r.2.1 * 2 ^ r.1) (r.2.2 * 2 ^ r.1) (flt L r.1 r.2.1 r.2.2)
def rem (bk : Nat) (L : PL) (W : List Rg) : List Nd := W.reverse.flatMap (trR bk L)
theorem rem_push (bk : Nat) (L : PL) (W : List Rg) (r : Rg) : rem bk L (W ++ [r]) = trR bk L r ++ rem bk L W := by
  unfold rem
  rw [List.reverse_append]
  rfl
theorem wOk_len {b : Nat} {lf : Nat → Int32} {kf : Nat → Int64} {W : List Rg} (h : wOk b lf kf W) (hb : b ≤ 15) : W.length ≤ 46 := by
  rcases Nat.eq_zero_or_pos W.length with z | z
  · omega
  · have := (h (W.length - 1) (by omega)).2.2.2
    omega
theorem wOk_init {b : Nat} {lf : Nat → Int32} {kf : Nat → Int64} (h1 : lf 0 = nI 0) (h2 : kf 0 = lN 0) : wOk b lf kf [(b, 0, 0)] := by
  intro i hi
  have e : i = 0 := by simpa using hi
  subst e
  show lf 0 = nI (b - b) ∧ kf 0 = lN (cdR b (b, 0, 0)) ∧ rgOk b (b, 0, 0) ∧ 0 ≤ 3 * (b - b)
  refine ⟨by rw [Nat.sub_self]; exact h1, ?_, ⟨Nat.le_refl _, ?_, ?_⟩, Nat.zero_le _⟩
  · unfold cdR
    show kf 0 = lN (4 ^ b * zc (b - b) 0 0)
    rw [Nat.sub_self]
    exact h2
  · show 0 < 2 ^ (b - b)
    exact Nat.pow_pos (by decide)
  · show 0 < 2 ^ (b - b)
    exact Nat.pow_pos (by decide)
theorem rg_get {W : List Rg} {r : Rg} : (W ++ [r]).getD W.length rg0 = r := by simp [List.getD_eq_getElem?_getD]
theorem rg_getl {W V : List Rg} {i : Nat} (h : i < W.length) : (W ++ V).getD i rg0 = W.getD i rg0 := by
  simp [List.getD_eq_getElem?_getD, List.getElem?_append_left h]
theorem wOk_pop {b : Nat} {lf : Nat → Int32} {kf : Nat → Int64} {W : List Rg} {r : Rg} (h : wOk b lf kf (W ++ [r])) : wOk b lf kf W := fun i hi => by
  have := h i (by simp; omega)
  rw [rg_getl hi] at this
  exact this
theorem wOk_push {b : Nat} {lf : Nat → Int32} {kf : Nat → Int64} {W : List Rg} {r : Rg} (h : wOk b lf kf W) (hr : rgOk b r) (hl : W.length ≤ 3 * (b - r.1)) : wOk b (upd lf W.length (nI (b - r.1))) (vp_updL kf W.length (lN (cdR b r))) (W ++ [r]) := by
  intro i hi
  simp only [List.length_append, List.length_cons, List.length_nil] at hi
  by_cases h1 : i = W.length
  · subst h1
    rw [rg_get, pk_us, pk_uLs]
    exact ⟨rfl, rfl, hr, hl⟩
  · rw [rg_getl (by omega), pk_un h1, pk_uLn h1]
    exact h i (by omega)
theorem flt_all {L : PL} {b : Nat} (h : insd b L) : flt L b 0 0 = L := by
  unfold flt
  apply List.filter_eq_self.mpr
  intro q hq
  have := h q hq
  unfold inq
  rw [decide_eq_true_eq]
  omega
theorem rem_init {bk : Nat} {L : PL} {b : Nat} (h : insd b L) : rem bk L [(b, 0, 0)] = tr bk b 0 0 L := by
  show trR bk L (b, 0, 0) ++ [] = _
  rw [List.append_nil]
  show tr bk b (0 * 2 ^ b) (0 * 2 ^ b) (flt L b 0 0) = _
  rw [flt_all h, Nat.zero_mul]
/-- a region's child -/
def chR (d X Y q : Nat) : Rg := (d, 2 * X + q % 2, 2 * Y + q / 2)
theorem ch_x {d X q : Nat} : X * 2 ^ (d + 1) + q % 2 * 2 ^ d = (2 * X + q % 2) * 2 ^ d := by
  rw [Nat.add_mul, Nat.pow_succ, Nat.mul_comm (2 ^ d) 2, ← Nat.mul_assoc, Nat.mul_comm X 2]
theorem ch_y {d Y q : Nat} : Y * 2 ^ (d + 1) + q / 2 * 2 ^ d = (2 * Y + q / 2) * 2 ^ d := by
  rw [Nat.add_mul, Nat.pow_succ, Nat.mul_comm (2 ^ d) 2, ← Nat.mul_assoc, Nat.mul_comm Y 2]
theorem ch_sub {L : PL} {d X Y q : Nat} (hq : q < 4) : sub (X * 2 ^ (d + 1)) (Y * 2 ^ (d + 1)) (2 ^ d) (flt L (d + 1) X Y) q = flt L d (2 * X + q % 2) (2 * Y + q / 2) := by
  unfold sub flt
  rw [List.filter_filter, ch_x, ch_y]
  apply List.filter_congr
  intro r _
  cases hz : inq ((2 * X + q % 2) * 2 ^ d) ((2 * Y + q / 2) * 2 ^ d) (2 ^ d) r with
  | false => rfl
  | true =>
    have e1 := ch_x (d := d) (X := X) (q := q)
    have e2 := ch_y (d := d) (Y := Y) (q := q)
    unfold inq at hz ⊢
    rw [decide_eq_true_eq] at hz
    rw [Bool.true_and, decide_eq_true_eq]
    have hp : 2 ^ (d + 1) = 2 * 2 ^ d := by rw [Nat.pow_succ]; omega
    have a1 : q % 2 * 2 ^ d ≤ 2 ^ d := by rcases (show q % 2 = 0 ∨ q % 2 = 1 by omega) with z | z <;> rw [z] <;> omega
    have a2 : q / 2 * 2 ^ d ≤ 2 ^ d := by rcases (show q / 2 = 0 ∨ q / 2 = 1 by omega) with z | z <;> rw [z] <;> omega
    omega
theorem ch_ok {b d X Y q : Nat} (h : rgOk b (d + 1, X, Y)) (hq : q < 4) : rgOk b (chR d X Y q) := by
  obtain ⟨h1, h2, h3⟩ := h
  have h1 : d + 1 ≤ b := h1
  have e : 2 ^ (b - d) = 2 * 2 ^ (b - (d + 1)) := by
    rw [show b - d = b - (d + 1) + 1 by omega, Nat.pow_succ]; omega
  have h2 : X < 2 ^ (b - (d + 1)) := h2
  have h3 : Y < 2 ^ (b - (d + 1)) := h3
  refine ⟨by show d ≤ b; omega, ?_, ?_⟩
  · show 2 * X + q % 2 < 2 ^ (b - d); omega
  · show 2 * Y + q / 2 < 2 ^ (b - d); omega
theorem ch_cd {b d X Y q : Nat} (h : d + 1 ≤ b) (hq : q < 4) : cdR b (chR d X Y q) = cdR b (d + 1, X, Y) + q * 4 ^ d := by
  unfold cdR chR
  show 4 ^ d * zc (b - d) (2 * X + q % 2) (2 * Y + q / 2) = 4 ^ (d + 1) * zc (b - (d + 1)) X Y + q * 4 ^ d
  rw [show b - d = b - (d + 1) + 1 by omega, zc_s, show (2 * X + q % 2) / 2 = X by omega, show (2 * Y + q / 2) / 2 = Y by omega, Nat.pow_succ, Nat.mul_assoc, Nat.mul_comm q, ← Nat.mul_add]
  congr 1
  omega
/-- the children that wait, once n of them were looked at (from the last on) -/
def kst (L : PL) (d X Y : Nat) : Nat → List Rg
  | 0 => []
  | n + 1 => kst L d X Y n ++ if (flt L d (2 * X + (3 - n) % 2) (2 * Y + (3 - n) / 2)).length = 0 then [] else [chR d X Y (3 - n)]
theorem kst_len (L : PL) (d X Y : Nat) : ∀ n, (kst L d X Y n).length ≤ n
  | 0 => Nat.le_refl _
  | n + 1 => by
    have := kst_len L d X Y n
    unfold kst
    split <;> simp <;> omega
theorem kid_rg {bk : Nat} {L : PL} {d X Y q : Nat} (hq : q < 4) : (if (flt L d (2 * X + q % 2) (2 * Y + q / 2)).length = 0 then [] else [chR d X Y q]).flatMap (trR bk L) = kid (fun x y P => tr bk d x y P) (X * 2 ^ (d + 1)) (Y * 2 ^ (d + 1)) (2 ^ d) (flt L (d + 1) X Y) q := by
  unfold kid
  rw [ch_sub hq]
  split
  · rfl
  · show trR bk L (chR d X Y q) ++ [] = _
    rw [List.append_nil, ch_x, ch_y]; rfl
theorem rem_kids {bk : Nat} {L : PL} {d X Y : Nat} (W : List Rg) : rem bk L (W ++ kst L d X Y 4) = kids (fun x y P => tr bk d x y P) (X * 2 ^ (d + 1)) (Y * 2 ^ (d + 1)) (2 ^ d) (flt L (d + 1) X Y) 4 ++ rem bk L W := by
  unfold rem
  rw [List.reverse_append, List.flatMap_append]
  congr 1
  have r1 : ∀ (c : Prop) [Decidable c] (r : Rg), (if c then [] else [r]).reverse = if c then [] else [r] := fun c _ r => by split <;> rfl
  show (((([] ++ _) ++ _) ++ _) ++ _ : List Rg).reverse.flatMap (trR bk L) = ((([] ++ _) ++ _) ++ _) ++ _
  simp only [List.reverse_append, List.flatMap_append, r1, List.nil_append, List.reverse_nil, List.append_assoc, List.flatMap_nil, List.append_nil]
  rw [kid_rg (by decide), kid_rg (by decide), kid_rg (by decide), kid_rg (by decide)]
/-- the first node of a region -/
def hdR (bk : Nat) (L : PL) (r : Rg) : Nd := (r.1, r.2.1 * 2 ^ r.1, r.2.2 * 2 ^ r.1, (flt L r.1 r.2.1 r.2.2).length, (if (flt L r.1 r.2.1 r.2.2).length ≤ bk then 0 else msk (r.2.1 * 2 ^ r.1) (r.2.2 * 2 ^ r.1) (2 ^ (r.1 - 1)) (flt L r.1 r.2.1 r.2.2) 4), low (flt L r.1 r.2.1 r.2.2))
theorem flt_1 {b : Nat} {L : PL} (hs : pSort L) (X Y : Nat) : (flt L 0 X Y).length ≤ 1 := by
  have hp : (flt L 0 X Y).Pairwise (fun a b => a.1 < b.1) := List.Pairwise.filter _ hs
  have hm : ∀ q ∈ flt L 0 X Y, q.1 / 32768 = X ∧ q.1 % 32768 = Y := fun q hq => by
    have := (List.mem_filter.mp hq).2
    unfold inq at this
    rw [decide_eq_true_eq] at this
    simp at this
    omega
  rcases h : flt L 0 X Y with _ | ⟨a, _ | ⟨c, S⟩⟩
  · simp
  · simp
  · exfalso
    rw [h] at hp hm
    have h1 := (List.pairwise_cons.mp hp).1 c (by simp)
    have h2 := hm a (by simp)
    have h3 := hm c (by simp)
    omega
theorem tr_leaf {bk : Nat} {L : PL} {r : Rg} (h : (flt L r.1 r.2.1 r.2.2).length ≤ bk) : trR bk L r = [hdR bk L r] := by
  obtain ⟨d, X, Y⟩ := r
  unfold trR hdR
  rw [if_pos h]
  cases d with
  | zero => rfl
  | succ d =>
    show tr bk (d + 1) _ _ _ = _
    unfold tr
    rw [if_pos h]
theorem tr_s (bk d x y : Nat) (P : PL) : tr bk (d + 1) x y P = if P.length ≤ bk then [(d + 1, x, y, P.length, 0, low P)] else (d + 1, x, y, P.length, msk x y (2 ^ d) P 4, low P) :: kids (fun x y P => tr bk d x y P) x y (2 ^ d) P 4 := rfl
theorem tr_inner {bk : Nat} {L : PL} {d X Y : Nat} (h : ¬ (flt L (d + 1) X Y).length ≤ bk) : trR bk L (d + 1, X, Y) = hdR bk L (d + 1, X, Y) :: kids (fun x y P => tr bk d x y P) (X * 2 ^ (d + 1)) (Y * 2 ^ (d + 1)) (2 ^ d) (flt L (d + 1) X Y) 4 := by
  show tr bk (d + 1) (X * 2 ^ (d + 1)) (Y * 2 ^ (d + 1)) (flt L (d + 1) X Y) = _
  rw [tr_s, if_neg h]
  congr 1
  show _ = (d + 1, X * 2 ^ (d + 1), Y * 2 ^ (d + 1), (flt L (d + 1) X Y).length, (if (flt L (d + 1) X Y).length ≤ bk then 0 else msk (X * 2 ^ (d + 1)) (Y * 2 ^ (d + 1)) (2 ^ (d + 1 - 1)) (flt L (d + 1) X Y) 4), low (flt L (d + 1) X Y))
  rw [if_neg h, Nat.add_sub_cancel]
theorem reg_rk {b d X Y : Nat} {L Z : PL} (hz : zOk b L Z) (hi : insd b L) (hr : rgOk b (d, X, Y)) : rk Z (cdR b (d, X, Y) + 4 ^ d) = rk Z (cdR b (d, X, Y)) + (flt L d X Y).length := by
  obtain ⟨h1, h2, h3⟩ := hr
  have h1 : d ≤ b := h1
  obtain ⟨e, rfl⟩ : ∃ e, b = e + d := ⟨b - d, by omega⟩
  have h2 : X < 2 ^ (e + d - d) := h2
  have h3 : Y < 2 ^ (e + d - d) := h3
  rw [Nat.add_sub_cancel] at h2 h3
  have := reg_count hz hi h2 h3
  unfold cdR flt
  show rk Z (4 ^ d * zc (e + d - d) X Y + 4 ^ d) = rk Z (4 ^ d * zc (e + d - d) X Y) + _
  rw [Nat.add_sub_cancel]
  exact this
theorem cdR_lt {b : Nat} {r : Rg} (h : rgOk b r) : cdR b r + 4 ^ r.1 ≤ 4 ^ b := by
  obtain ⟨d, X, Y⟩ := r
  obtain ⟨h1, h2, h3⟩ := h
  have h1 : d ≤ b := h1
  have := zc_lt (b - d) X Y
  unfold cdR
  show 4 ^ d * zc (b - d) X Y + 4 ^ d ≤ 4 ^ b
  have e : 4 ^ b = 4 ^ d * 4 ^ (b - d) := by rw [← Nat.pow_add]; congr 1; omega
  rw [e]
  have : 4 ^ d * (zc (b - d) X Y + 1) ≤ 4 ^ d * 4 ^ (b - d) := Nat.mul_le_mul_left _ (by omega)
  rw [Nat.mul_add, Nat.mul_one] at this
  exact this
theorem p4 (d : Nat) : 2 ^ (2 * d) = 4 ^ d := by rw [Nat.pow_mul]
