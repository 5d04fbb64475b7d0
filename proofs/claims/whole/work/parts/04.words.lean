/-! rows pasted from kit/laws/BITS.to-paste (starting text), and bits of mine -/
theorem s_l : ∀ n, n < 32 → ((nI n &&& 31).toBitVec.smod 32).toNat = n := by decide +kernel
theorem nx_and (a b : Nat) : nI a &&& nI b = nI (a &&& b) := by
  apply Int32.toBitVec_inj.1
  show BitVec.ofNat 32 a &&& BitVec.ofNat 32 b = BitVec.ofNat 32 (a &&& b)
  apply BitVec.eq_of_getLsbD_eq
  intro i hi
  simp [hi]
theorem nx_mod (k : Nat) : nI k &&& 65535 = nI (k % 65536) := by
  show nI k &&& nI 65535 = _
  rw [nx_and, show (65535 : Nat) = 2 ^ 16 - 1 from rfl, Nat.and_two_pow_sub_one_eq_mod]
theorem wb_tb (n : Nat) : (lN n).toBitVec = BitVec.ofNat 64 n := rfl
theorem wb_inj {a b : Int64} (h : a.toBitVec = b.toBitVec) : a = b := Int64.toBitVec_inj.mp h
theorem wb_tn {n : Nat} (h : n < 2 ^ 64) : (lN n).toBitVec.toNat = n := by rw [wb_tb, BitVec.toNat_ofNat, Nat.mod_eq_of_lt h]
theorem wb_c : ∀ k, k < 64 → ((nI k).toInt64 &&& 63) = lN k := by decide +kernel
theorem wb_sm : ∀ k, k < 64 → (BitVec.ofNat 64 k).smod 64 = BitVec.ofNat 64 k := by decide +kernel
theorem wb_lt2 {a b : Nat} (h : a < b) : 2 ^ a < 2 ^ b := Nat.pow_lt_pow_right (by decide) h
theorem wb_shl (n : Nat) {k : Nat} (hk : k < 64) : lN n <<< ((nI k).toInt64 &&& 63) = lN (n * 2 ^ k) := by
  rw [wb_c k hk]
  apply wb_inj
  rw [Int64.toBitVec_shiftLeft, wb_tb, wb_tb, wb_tb, wb_sm k hk]
  apply BitVec.eq_of_toNat_eq
  rw [BitVec.shiftLeft_eq', BitVec.toNat_shiftLeft, BitVec.toNat_ofNat, BitVec.toNat_ofNat, BitVec.toNat_ofNat, Nat.mod_eq_of_lt (show k < 2 ^ 64 by omega), Nat.shiftLeft_eq, Nat.mul_mod, Nat.mod_mod, ← Nat.mul_mod]
theorem wb_and {a b : Nat} (ha : a < 2 ^ 64) (hb : b < 2 ^ 64) : lN a &&& lN b = lN (a &&& b) := by
  apply wb_inj
  rw [Int64.toBitVec_and, wb_tb, wb_tb, wb_tb]
  apply BitVec.eq_of_toNat_eq
  rw [BitVec.toNat_and, BitVec.toNat_ofNat, BitVec.toNat_ofNat, BitVec.toNat_ofNat, Nat.mod_eq_of_lt ha, Nat.mod_eq_of_lt hb, Nat.mod_eq_of_lt (Nat.and_lt_two_pow _ hb)]
theorem wb_or {a b : Nat} (ha : a < 2 ^ 64) (hb : b < 2 ^ 64) : lN a ||| lN b = lN (a ||| b) := by
  apply wb_inj
  rw [Int64.toBitVec_or, wb_tb, wb_tb, wb_tb]
  apply BitVec.eq_of_toNat_eq
  rw [BitVec.toNat_or, BitVec.toNat_ofNat, BitVec.toNat_ofNat, BitVec.toNat_ofNat, Nat.mod_eq_of_lt ha, Nat.mod_eq_of_lt hb, Nat.mod_eq_of_lt (Nat.or_lt_two_pow ha hb)]
theorem wb_mask {n k : Nat} (hn : n < 2 ^ 64) (hk : k < 64) : lN n &&& lN (2 ^ k - 1) = lN (n % 2 ^ k) := by
  rw [wb_and hn (by have := wb_lt2 hk; omega), Nat.and_two_pow_sub_one_eq_mod]
theorem wb_a1 {n : Nat} (hn : n < 2 ^ 64) : lN n &&& 1 = lN (n % 2) := wb_mask (k := 1) hn (by decide)
theorem pf_lI {a : Nat} (h : a < 2 ^ 63) : (lN a).toInt = (a : Int) := lg_ofNat_toInt h
theorem pf_shr {a d : Nat} {D : Int64} (hD : (D.toBitVec.smod 64).toNat = d) (h : a < 2 ^ 62) : lN a >>> D = lN (a / 2 ^ d) := by
  have hd : a / 2 ^ d ≤ a := Nat.div_le_self _ _
  apply Int64.toInt_inj.mp
  have e : (lN a >>> D).toInt = (lN a).toInt >>> d := by
    rw [← hD]
    exact BitVec.toInt_sshiftRight ..
  rw [e, Int.shiftRight_eq_div_pow, pf_lI (by omega), pf_lI (by omega)]
  rfl
theorem bI_or (a b : Nat) : nI a ||| nI b = nI (a ||| b) := by
  apply Int32.toBitVec_inj.1
  show BitVec.ofNat 32 a ||| BitVec.ofNat 32 b = BitVec.ofNat 32 (a ||| b)
  apply BitVec.eq_of_getLsbD_eq
  intro i hi
  simp [hi]
theorem or_add {a b i : Nat} (h : b < 2 ^ i) : a * 2 ^ i ||| b = a * 2 ^ i + b := by
  rw [Nat.mul_comm]
  exact (Nat.two_pow_add_eq_or_of_lt h a).symm
theorem bI_key {x y : Nat} (hx : x < 32768) (hy : y < 32768) : (nI x <<< (nI 15 &&& 31)) ||| nI y = nI (x * 32768 + y) := by
  rw [pk_shlN (nI 15 &&& 31) 15 (by decide) (by omega), bI_or, or_add (i := 15) (by omega)]
theorem bI_1shl {d : Nat} (h : d < 31) : nI 1 <<< (nI d &&& 31) = nI (2 ^ d) := by
  rw [pk_shlN (nI d &&& 31) d (s_l d (by omega)) (by have := Nat.pow_lt_pow_right (a := 2) (by decide) (show d < 32 by omega); omega), Nat.one_mul]
/-- a point on the plane, a point in a window, the tests of the constructor, a distance -/
def onp (x y : Int32) (sp : Nat) : Prop := ¬ x < 0 ∧ ¬ nI sp ≤ x ∧ ¬ y < 0 ∧ ¬ nI sp ≤ y
def win (key : Nat) (x0 y0 x1 y1 : Int32) : Prop := ¬ nI (key / 32768) < x0 ∧ ¬ x1 < nI (key / 32768) ∧ ¬ nI (key % 32768) < y0 ∧ ¬ y1 < nI (key % 32768)
def fot (mo : Nat) (a : Int32) (ow : Nat) : Int32 := if ¬ a < nI 1 ∧ ¬ nI mo < a then a else nI ow
def plc (a : Int32) : Prop := ¬ a < 0 ∧ ¬ nI 65535 < a
def dst (key : Nat) (x y : Int32) : Int64 := (nI (key / 32768) - x).toInt64 * (nI (key / 32768) - x).toInt64 + (nI (key % 32768) - y).toInt64 * (nI (key % 32768) - y).toInt64
theorem onp_of {x y : Int32} {sp : Nat} (h : onp x y sp) (hs : sp ≤ 32768) : ∃ a b : Nat, a < sp ∧ b < sp ∧ x = nI a ∧ y = nI b := by
  obtain ⟨h1, h2, h3, h4⟩ := h
  obtain ⟨a, ha, rfl⟩ := nI_of h1
  obtain ⟨b, hb, rfl⟩ := nI_of h3
  refine ⟨a, b, ?_, ?_, rfl, rfl⟩
  · rcases Nat.lt_or_ge a sp with z | z
    · exact z
    · exact absurd (nI_le z ha) h2
  · rcases Nat.lt_or_ge b sp with z | z
    · exact z
    · exact absurd (nI_le z hb) h4
/-- CHANGES: every point leaves, one leaves, one comes or gets a new value -/
abbrev Op : Type := Option (Nat × Option Nat)
def opK : Op → Int32
  | none => -1
  | some q => nI q.1
def opV : Op → Int32
  | some (_, some v) => nI v
  | _ => -1
def opOk : Op → Prop
  | none => True
  | some (k, none) => k < 2 ^ 30
  | some (k, some v) => k < 2 ^ 30 ∧ v < 2 ^ 31
def ap (L : PL) : Op → PL
  | none => []
  | some (k, none) => pdel L k
  | some (k, some v) => pput L k v
def apL (L : PL) (C : List Op) : PL := C.foldl ap L
def avn (L : PL) (w : Nat) : Op → Nat
  | some (k, none) => tv L k w
  | _ => w + 1
def avL : PL → Nat → List Op → Nat
  | _, w, [] => w
  | L, w, o :: C => avL (ap L o) (avn L w o) C
def chOk (kf vf : Nat → Int32) (C : List Op) : Prop := C.length ≤ 60 ∧ (∀ i, i < C.length → kf i = opK (C.getD i none) ∧ vf i = opV (C.getD i none)) ∧ ∀ o ∈ C, opOk o
theorem ch_add {kf vf : Nat → Int32} {C : List Op} {o : Op} (h : chOk kf vf C) (hl : C.length < 60) (ho : opOk o) : chOk (upd kf C.length (opK o)) (upd vf C.length (opV o)) (C ++ [o]) := by
  refine ⟨by simp; omega, fun i hi => ?_, fun q hq => ?_⟩
  · simp only [List.length_append, List.length_cons, List.length_nil] at hi
    by_cases h1 : i = C.length
    · subst h1
      rw [pk_us, pk_us]
      simp [List.getD_eq_getElem?_getD]
    · rw [pk_un h1, pk_un h1, List.getD_eq_getElem?_getD, List.getElem?_append_left (by omega), ← List.getD_eq_getElem?_getD]
      exact h.2.1 i (by omega)
  · rcases List.mem_append.mp hq with z | z
    · exact h.2.2 q z
    · rw [List.mem_singleton.mp z]; exact ho
theorem ch_nil {kf vf : Nat → Int32} : chOk kf vf [] := ⟨by simp, fun i hi => by simp at hi, fun q hq => by simp at hq⟩
theorem ch_copy {kf vf kg vg : Nat → Int32} {C : List Op} (h : chOk kf vf C) : chOk (va_cpy kf kg 0 0 C.length) (va_cpy vf vg 0 0 C.length) C :=
  ⟨h.1, fun i hi => by
    rw [pk_cpy_in (by omega) (by omega), pk_cpy_in (by omega) (by omega), Nat.zero_add, Nat.sub_zero]
    exact h.2.1 i hi, h.2.2⟩
theorem ch_op {kf vf : Nat → Int32} {C : List Op} (h : chOk kf vf C) {i : Nat} (hi : i < C.length) : opOk (C.getD i none) := by
  have e : C.getD i none = C[i] := by simp [hi]
  rw [e]; exact h.2.2 _ (List.getElem_mem hi)
theorem ap_take {L : PL} {C : List Op} {i : Nat} (hi : i < C.length) : apL L (C.take (i + 1)) = ap (apL L (C.take i)) (C.getD i none) := by
  have e : C.take (i + 1) = C.take i ++ [C.getD i none] := by
    rw [List.take_succ]
    simp [hi]
  unfold apL
  rw [e, List.foldl_append]; rfl
theorem av_app : ∀ (C D : List Op) (L : PL) (w : Nat), avL L w (C ++ D) = avL (apL L C) (avL L w C) D
  | [], _, _, _ => rfl
  | o :: C, D, L, w => av_app C D (ap L o) (avn L w o)
theorem av_take {L : PL} {C : List Op} {w i : Nat} (hi : i < C.length) : avL L w (C.take (i + 1)) = avn (apL L (C.take i)) (avL L w (C.take i)) (C.getD i none) := by
  have e : C.take (i + 1) = C.take i ++ [C.getD i none] := by
    rw [List.take_succ]
    simp [hi]
  rw [e, av_app]; rfl
theorem nI_m1 {a : Nat} (h : a < 2 ^ 31) : ¬ nI a = -1 := fun z => by
  have h1 := nI_pos h
  rw [z] at h1
  exact h1 (by decide)
