/-! what node reads off a region -/
theorem cdz {b d X Y : Nat} (h : d ≤ b) : cdR b (d, X, Y) = zc b (X * 2 ^ d) (Y * 2 ^ d) := by
  have := zc_mul d (b - d) X Y
  rw [Nat.sub_add_cancel h] at this
  exact this.symm
theorem zbx {b j x y : Nat} (h : j < b) : zc b x y / 4 ^ j % 2 = x / 2 ^ j % 2 := by
  have := zc_div j (b - j) x y
  rw [Nat.sub_add_cancel (by omega)] at this
  rw [this, show b - j = b - j - 1 + 1 by omega, zc_s]
  omega
theorem zby {b j x y : Nat} (h : j < b) : zc b x y / 4 ^ j / 2 % 2 = y / 2 ^ j % 2 := by
  have := zc_div j (b - j) x y
  rw [Nat.sub_add_cancel (by omega)] at this
  rw [this, show b - j = b - j - 1 + 1 by omega, zc_s]
  omega
theorem shr_l {c k : Nat} (hk : k < 64) (hc : c < 2 ^ 62) : lN c >>> ((nI k).toInt64 &&& 63) = lN (c / 2 ^ k) := by
  refine pf_shr ?_ hc
  rw [wb_c k hk, wb_tb, wb_sm k hk, BitVec.toNat_ofNat, Nat.mod_eq_of_lt (by omega)]
theorem or_bit {x j : Nat} : nI (x % 2 ^ j) ||| nI (x / 2 ^ j % 2 * 2 ^ j) = nI (x % 2 ^ (j + 1)) := by
  rw [bI_or, Nat.or_comm, or_add (Nat.mod_lt _ (Nat.pow_pos (by decide))), Nat.mod_pow_succ, Nat.mul_comm, Nat.add_comm]
theorem take_rk : ∀ (Z : PL) (c : Nat), pSort Z → Z.take (rk Z c) = Z.filter (fun q => decide (q.1 < c))
  | [], c, _ => by simp
  | q :: Z, c, hs => by
    have h2 := List.pairwise_cons.mp hs
    by_cases h : q.1 < c
    · have e : rk (q :: Z) c = rk Z c + 1 := by simp [rk, h]
      rw [e, List.take_succ_cons, take_rk Z c h2.2, List.filter_cons_of_pos (by simpa using h)]
    · have e : rk (q :: Z) c = 0 := by simp [rk, h]
      rw [e, List.filter_cons_of_neg (by simpa using h)]
      symm
      rw [List.take_zero, List.filter_eq_nil_iff]
      intro r hr
      have := h2.1 r hr
      simp
      omega
theorem low_cons (q : Nat × Nat) (P : PL) : low (q :: P) = q.2 % 65536 + low P := by unfold low; simp
theorem low_split (L : PL) (f : Nat × Nat → Nat) (c w : Nat) : low (L.filter (fun q => decide (f q < c + w))) = low (L.filter (fun q => decide (f q < c))) + low (L.filter (fun q => decide (c ≤ f q ∧ f q < c + w))) := by
  induction L with
  | nil => rfl
  | cons q L ih =>
    by_cases h1 : f q < c
    · rw [List.filter_cons_of_pos (by simp; omega), List.filter_cons_of_pos (by simpa using h1), List.filter_cons_of_neg (by simp; omega), low_cons, low_cons, ih]
      omega
    · by_cases h2 : f q < c + w
      · rw [List.filter_cons_of_pos (by simpa using h2), List.filter_cons_of_neg (by simpa using h1), List.filter_cons_of_pos (by simp; omega), low_cons, low_cons, ih]
        omega
      · rw [List.filter_cons_of_neg (by simpa using h2), List.filter_cons_of_neg (by simpa using h1), List.filter_cons_of_neg (by simp; omega), ih]
theorem low_map (L : PL) (g : Nat → Nat) (p : Nat → Bool) : low ((L.map (fun q => (g q.1, q.2))).filter (fun q => p q.1)) = low (L.filter (fun q => p (g q.1))) := by
  induction L with
  | nil => rfl
  | cons q L ih =>
    rw [List.map_cons]
    by_cases h : p (g q.1) = true
    · rw [List.filter_cons_of_pos (by exact h), List.filter_cons_of_pos (by exact h), low_cons, low_cons, ih]
    · rw [List.filter_cons_of_neg (by exact h), List.filter_cons_of_neg (by exact h), ih]
theorem reg_low {b d X Y : Nat} {L Z : PL} (hz : zOk b L Z) (hi : insd b L) (hr : rgOk b (d, X, Y)) : low (Z.take (rk Z (cdR b (d, X, Y) + 4 ^ d))) = low (Z.take (rk Z (cdR b (d, X, Y)))) + low (flt L d X Y) := by
  obtain ⟨h1, h2, h3⟩ := hr
  have h1 : d ≤ b := h1
  obtain ⟨e, rfl⟩ : ∃ e, b = e + d := ⟨b - d, by omega⟩
  have h2 : X < 2 ^ (e + d - d) := h2
  have h3 : Y < 2 ^ (e + d - d) := h3
  rw [Nat.add_sub_cancel] at h2 h3
  have ec : cdR (e + d) (d, X, Y) = 4 ^ d * zc e X Y := by
    unfold cdR
    show 4 ^ d * zc (e + d - d) X Y = _
    rw [Nat.add_sub_cancel]
  rw [take_rk Z _ hz.1, take_rk Z _ hz.1, low_perm (hz.2.filter _), low_perm (hz.2.filter _), low_map L (zk (e + d)) (fun z => decide (z < cdR (e + d) (d, X, Y) + 4 ^ d)), low_map L (zk (e + d)) (fun z => decide (z < cdR (e + d) (d, X, Y)))]
  refine (low_split L (fun q => zk (e + d) q.1) _ _).trans ?_
  congr 2
  unfold flt
  apply List.filter_congr
  intro q hq
  have hq2 := hi q hq
  have hc := reg_code (v := q.2) h2 h3 hq2.1 hq2.2
  rw [ec]
  by_cases z : inq (X * 2 ^ d) (Y * 2 ^ d) (2 ^ d) (q.1, q.2) = true
  · rw [show inq (X * 2 ^ d) (Y * 2 ^ d) (2 ^ d) q = true from z]
    exact decide_eq_true (hc.mp z)
  · have z' : inq (X * 2 ^ d) (Y * 2 ^ d) (2 ^ d) q = false := by
      cases w : inq (X * 2 ^ d) (Y * 2 ^ d) (2 ^ d) q with
      | false => rfl
      | true => exact absurd w z
    rw [z']
    exact decide_eq_false (fun w => z (hc.mpr w))
theorem zvb {b : Nat} {L Z : PL} (hz : zOk b L Z) (hL : lOk L) {i : Nat} (hi : i < Z.length) : pV Z i < 2 ^ 31 := by
  obtain ⟨r, hr, e⟩ := List.mem_map.mp (hz.2.mem_iff.mp (pK_mem hi))
  have := (hL.2.2 r hr).2
  have e2 : r.2 = pV Z i := (Prod.mk.inj e).2
  omega
theorem low_tk {Z : PL} {i : Nat} (h : i < Z.length) : low (Z.take (i + 1)) = low (Z.take i) + pV Z i % 65536 := by
  have e : Z.take (i + 1) = Z.take i ++ [Z.getD i (0, 0)] := by rw [List.take_succ]; simp [h]
  unfold low
  rw [e]
  simp [pV]
def curOk (b bk : Nat) (L Z : PL) (T : List Nd) (i : Nat) (rr : Rg) (lv fi en : Int32) (cd : Int64) : Prop := i = 0 ∨ (T[i - 1]? = some (hdR bk L rr) ∧ rgOk b rr ∧ lv = nI (b - rr.1) ∧ fi = nI (rk Z (cdR b rr)) ∧ en = nI (rk Z (cdR b rr + 4 ^ rr.1)) ∧ cd = lN (cdR b rr))
theorem fct_at {T : List Nd} {k w : Nat} {n : Nd} (h : T[k]? = some n) (hw : w < 6) (hT : T.length < 2 ^ 31) : fct T (nI k) (nI w) = ndv n w := by
  have hk := (List.getElem?_eq_some_iff.mp h).1
  unfold fct
  rw [if_pos ⟨nI_pos (by omega), nI_ge hk (by omega), nI_pos (by omega), nI_lt hw (by omega)⟩, nI_clamp (by omega), nI_clamp (by omega), List.getD_eq_getElem?_getD, h]; rfl
theorem drop_hd {T R : List Nd} {i : Nat} {n : Nd} (h : n :: R = T.drop i) : T[i]? = some n ∧ R = T.drop (i + 1) ∧ i < T.length := by
  have hl : i < T.length := by
    rcases Nat.lt_or_ge i T.length with z | z
    · exact z
    · rw [List.drop_eq_nil_of_le z] at h
      cases h
  rw [List.drop_eq_getElem_cons hl] at h
  have e := List.cons.inj h
  exact ⟨by rw [List.getElem?_eq_getElem hl, e.1], e.2, hl⟩
theorem w5 {y : Int32} (h1 : ¬ y < 0) (h2 : y ≤ nI 5) (h3 : y.toInt < 0 ∨ (5 : Nat) ≤ y.toInt) : y = nI 5 := by
  obtain ⟨j, hj, rfl⟩ := nI_of h1
  have := (nI_leI hj (by decide)).mp h2
  rw [nI_toInt hj] at h3
  congr 1
  omega
theorem rx_lt {b d X Y : Nat} (h : rgOk b (d, X, Y)) : X * 2 ^ d < 2 ^ b ∧ Y * 2 ^ d < 2 ^ b := by
  obtain ⟨h1, h2, h3⟩ := h
  have h1 : d ≤ b := h1
  have hp : 0 < 2 ^ d := Nat.pow_pos (by decide)
  have e : 2 ^ b = 2 ^ (b - d) * 2 ^ d := by rw [← Nat.pow_add]; congr 1; omega
  rw [e]
  exact ⟨Nat.mul_lt_mul_of_pos_right h2 hp, Nat.mul_lt_mul_of_pos_right h3 hp⟩
theorem bit_lt {z j : Nat} (h : j < 15) : z % 2 * 2 ^ j < 2 ^ 32 := by
  have h1 : 2 ^ j ≤ 2 ^ 15 := Nat.pow_le_pow_right (by decide) (by omega)
  have h2 : z % 2 * 2 ^ j ≤ 1 * 2 ^ j := Nat.mul_le_mul_right _ (by omega)
  omega
theorem lt6 (y : Int32) : y < nI 6 ↔ y ≤ nI 5 := by
  rw [Int32.lt_iff_toInt_lt, Int32.le_iff_toInt_le, nI_toInt (by decide), nI_toInt (by decide)]
  omega
theorem sw_lt5 {j : Nat} (h : j < 5) : j = 0 ∨ j = 1 ∨ j = 2 ∨ j = 3 ∨ j = 4 := by omega
