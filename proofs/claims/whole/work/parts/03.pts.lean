/-! PURE: a STATE's points as a list of (key, value), sorted by the key -/
abbrev PL : Type := List (Nat × Nat)
def pK (L : PL) (i : Nat) : Nat := (L.getD i (0, 0)).1
def pV (L : PL) (i : Nat) : Nat := (L.getD i (0, 0)).2
def pSort (L : PL) : Prop := L.Pairwise (fun a b => a.1 < b.1)
def rk : PL → Nat → Nat
  | [], _ => 0
  | q :: L, key => if q.1 < key then rk L key + 1 else 0
def lkp : PL → Nat → Option Nat
  | [], _ => none
  | q :: L, key => if q.1 = key then some q.2 else lkp L key
def pput : PL → Nat → Nat → PL
  | [], key, v => [(key, v)]
  | q :: L, key, v => if q.1 < key then q :: pput L key v else if q.1 = key then (key, v) :: L else (key, v) :: q :: L
def pdel : PL → Nat → PL
  | [], _ => []
  | q :: L, key => if q.1 = key then L else q :: pdel L key
theorem pK_0 (q : Nat × Nat) (L : PL) : pK (q :: L) 0 = q.1 := rfl
theorem pK_s (q : Nat × Nat) (L : PL) (i : Nat) : pK (q :: L) (i + 1) = pK L i := rfl
theorem pV_0 (q : Nat × Nat) (L : PL) : pV (q :: L) 0 = q.2 := rfl
theorem pV_s (q : Nat × Nat) (L : PL) (i : Nat) : pV (q :: L) (i + 1) = pV L i := rfl
theorem pK_mem {L : PL} {i : Nat} (h : i < L.length) : (pK L i, pV L i) ∈ L := by
  have : L.getD i (0, 0) = L[i] := by simp [h]
  unfold pK pV
  rw [this]
  exact List.getElem_mem h
theorem rk_le : ∀ (L : PL) (key : Nat), rk L key ≤ L.length
  | [], _ => Nat.le_refl _
  | q :: L, key => by
    unfold rk
    split
    · exact Nat.succ_le_succ (rk_le L key)
    · exact Nat.zero_le _
theorem rk_lt : ∀ (L : PL) (key i : Nat), i < rk L key → pK L i < key
  | [], _, i, h => by simp [rk] at h
  | q :: L, key, i, h => by
    unfold rk at h
    split at h
    · cases i with
      | zero => assumption
      | succ i => exact rk_lt L key i (by omega)
    · omega
theorem sort_mem {q : Nat × Nat} {L : PL} (h : pSort (q :: L)) {i : Nat} (hi : i < L.length) : q.1 < pK L i := (List.pairwise_cons.mp h).1 _ (pK_mem hi)
theorem rk_ge : ∀ (L : PL) (key i : Nat), pSort L → rk L key ≤ i → i < L.length → key ≤ pK L i
  | [], _, i, _, _, h => by simp at h
  | q :: L, key, i, hs, h, hl => by
    unfold rk at h
    split at h
    · cases i with
      | zero => omega
      | succ i => exact rk_ge L key i (List.pairwise_cons.mp hs).2 (by omega) (by simpa using hl)
    · rename_i hq
      cases i with
      | zero => rw [pK_0]; omega
      | succ i =>
        have h1 := sort_mem hs (i := i) (by simpa using hl)
        rw [pK_s]; omega
/-- sorted by index -/
theorem sort_ij : ∀ {L : PL} {i j : Nat}, pSort L → i < j → j < L.length → pK L i < pK L j
  | [], i, j, _, _, h => by simp at h
  | q :: L, 0, 0, _, h, _ => by omega
  | q :: L, 0, j + 1, hs, _, hj => sort_mem hs (by simpa using hj)
  | q :: L, i + 1, 0, _, h, _ => by omega
  | q :: L, i + 1, j + 1, hs, h, hj => sort_ij (L := L) (List.pairwise_cons.mp hs).2 (by omega) (by simpa using hj)
/-- at its rank a key stands, or nowhere -/
theorem lkp_rk : ∀ (L : PL) (key : Nat), pSort L → lkp L key = if rk L key < L.length ∧ pK L (rk L key) = key then some (pV L (rk L key)) else none
  | [], key, _ => by simp [lkp, rk]
  | q :: L, key, hs => by
    have hs2 := (List.pairwise_cons.mp hs).2
    unfold lkp rk
    by_cases h1 : q.1 < key
    · have h2 : ¬ q.1 = key := by omega
      rw [if_neg h2, if_pos h1, lkp_rk L key hs2, pK_s, pV_s]
      simp
    · rw [if_neg h1, pK_0, pV_0]
      by_cases h2 : q.1 = key
      · rw [if_pos h2, if_pos ⟨by simp, h2⟩]
      · rw [if_neg h2, if_neg (fun z => h2 z.2), lkp_rk L key hs2, if_neg]
        rintro ⟨h3, h4⟩
        have h5 := sort_mem hs h3
        omega
theorem pput_new : ∀ (L : PL) (key v : Nat), pSort L → ¬ (rk L key < L.length ∧ pK L (rk L key) = key) → pput L key v = L.take (rk L key) ++ (key, v) :: L.drop (rk L key)
  | [], key, v, _, _ => by simp [pput]
  | q :: L, key, v, hs, h => by
    unfold pput
    by_cases h1 : q.1 < key
    · have e : rk (q :: L) key = rk L key + 1 := by simp [rk, h1]
      rw [if_pos h1, e, List.take_succ_cons, List.drop_succ_cons, List.cons_append, pput_new L key v (List.pairwise_cons.mp hs).2 (fun z => h (by rw [e, pK_s]; exact ⟨by simpa using z.1, z.2⟩))]
    · have e : rk (q :: L) key = 0 := by simp [rk, h1]
      have h2 : ¬ q.1 = key := fun z => h (by rw [e, pK_0]; exact ⟨by simp, z⟩)
      rw [if_neg h1, if_neg h2, e]; rfl
theorem pput_old : ∀ (L : PL) (key v : Nat), pSort L → rk L key < L.length → pK L (rk L key) = key → pput L key v = L.set (rk L key) (key, v)
  | [], key, v, _, h, _ => by simp [rk] at h
  | q :: L, key, v, hs, h, hk => by
    unfold pput
    by_cases h1 : q.1 < key
    · have e : rk (q :: L) key = rk L key + 1 := by simp [rk, h1]
      rw [e] at h hk ⊢
      rw [if_pos h1, List.set_cons_succ, pput_old L key v (List.pairwise_cons.mp hs).2 (by simpa using h) hk]
    · have e : rk (q :: L) key = 0 := by simp [rk, h1]
      rw [e] at hk ⊢
      rw [pK_0] at hk
      rw [if_neg h1, if_pos hk]; rfl
theorem pdel_old : ∀ (L : PL) (key : Nat), pSort L → rk L key < L.length → pK L (rk L key) = key → pdel L key = L.take (rk L key) ++ L.drop (rk L key + 1)
  | [], key, _, h, _ => by simp [rk] at h
  | q :: L, key, hs, h, hk => by
    unfold pdel
    by_cases h1 : q.1 < key
    · have e : rk (q :: L) key = rk L key + 1 := by simp [rk, h1]
      rw [e] at h hk ⊢
      rw [if_neg (by omega), List.take_succ_cons, List.drop_succ_cons, List.cons_append, pdel_old L key (List.pairwise_cons.mp hs).2 (by simpa using h) hk]
    · have e : rk (q :: L) key = 0 := by simp [rk, h1]
      rw [e] at hk ⊢
      rw [pK_0] at hk
      rw [if_pos hk]; rfl
theorem pdel_new : ∀ (L : PL) (key : Nat), pSort L → ¬ (rk L key < L.length ∧ pK L (rk L key) = key) → pdel L key = L
  | [], key, _, _ => rfl
  | q :: L, key, hs, h => by
    unfold pdel
    by_cases h1 : q.1 < key
    · have e : rk (q :: L) key = rk L key + 1 := by simp [rk, h1]
      rw [if_neg (by omega), pdel_new L key (List.pairwise_cons.mp hs).2 (fun z => h (by rw [e, pK_s]; exact ⟨by simpa using z.1, z.2⟩))]
    · have e : rk (q :: L) key = 0 := by simp [rk, h1]
      have h2 : ¬ q.1 = key := fun z => h (by rw [e, pK_0]; exact ⟨by simp, z⟩)
      rw [if_neg h2]
      by_cases h3 : ∃ i, i < L.length ∧ pK L i = key
      · obtain ⟨i, h4, h5⟩ := h3
        have := sort_mem hs h4
        omega
      · rw [pdel_new L key (List.pairwise_cons.mp hs).2 (fun z => h3 ⟨_, z⟩)]
theorem lkp_none {L : PL} {key : Nat} (h : ∀ q ∈ L, q.1 ≠ key) : lkp L key = none := by
  induction L with
  | nil => rfl
  | cons q L ih =>
    unfold lkp
    rw [if_neg (h q List.mem_cons_self)]
    exact ih (fun z hz => h z (List.mem_cons_of_mem _ hz))
theorem lkp_some {L : PL} {key v : Nat} (h : lkp L key = some v) : (key, v) ∈ L := by
  induction L with
  | nil => simp [lkp] at h
  | cons q L ih =>
    unfold lkp at h
    split at h
    · rename_i h1
      cases h
      have : q = (key, q.2) := by rw [← h1]
      rw [← this]; exact List.mem_cons_self
    · exact List.mem_cons_of_mem _ (ih h)
theorem lkp_mem {L : PL} {key v : Nat} (hs : pSort L) (h : (key, v) ∈ L) : lkp L key = some v := by
  induction L with
  | nil => simp at h
  | cons q L ih =>
    unfold lkp
    rcases List.mem_cons.mp h with h | h
    · rw [← h]; simp
    · have := (List.pairwise_cons.mp hs).1 _ h
      rw [if_neg (by have : q.1 < key := this; omega)]
      exact ih (List.pairwise_cons.mp hs).2 h
theorem pput_mem {L : PL} {key v : Nat} {q : Nat × Nat} (h : q ∈ pput L key v) : q = (key, v) ∨ q ∈ L := by
  induction L with
  | nil => left; simpa [pput] using h
  | cons r L ih =>
    unfold pput at h
    split at h
    · rcases List.mem_cons.mp h with h | h
      · right; rw [h]; exact List.mem_cons_self
      · rcases ih h with h | h
        · exact Or.inl h
        · exact Or.inr (List.mem_cons_of_mem _ h)
    · split at h
      · rcases List.mem_cons.mp h with h | h
        · exact Or.inl h
        · exact Or.inr (List.mem_cons_of_mem _ h)
      · rcases List.mem_cons.mp h with h | h
        · exact Or.inl h
        · exact Or.inr h
theorem pdel_mem {L : PL} {key : Nat} {q : Nat × Nat} (h : q ∈ pdel L key) : q ∈ L := by
  induction L with
  | nil => simp [pdel] at h
  | cons r L ih =>
    unfold pdel at h
    split at h
    · exact List.mem_cons_of_mem _ h
    · rcases List.mem_cons.mp h with h | h
      · rw [h]; exact List.mem_cons_self
      · exact List.mem_cons_of_mem _ (ih h)
theorem pput_sort {L : PL} {key v : Nat} (hs : pSort L) : pSort (pput L key v) := by
  induction L with
  | nil => simp [pput, pSort]
  | cons r L ih =>
    have h2 := List.pairwise_cons.mp hs
    unfold pput
    split
    · rename_i h1
      refine List.pairwise_cons.mpr ⟨fun q hq => ?_, ih h2.2⟩
      rcases pput_mem hq with h | h
      · rw [h]; exact h1
      · exact h2.1 q h
    · split
      · rename_i h1 h3
        exact List.pairwise_cons.mpr ⟨fun q hq => by have := h2.1 q hq; show key < q.1; omega, h2.2⟩
      · rename_i h1 h3
        refine List.pairwise_cons.mpr ⟨fun q hq => ?_, hs⟩
        show key < q.1
        rcases List.mem_cons.mp hq with h | h
        · rw [h]; omega
        · have := h2.1 q h; omega
theorem pdel_sort {L : PL} {key : Nat} (hs : pSort L) : pSort (pdel L key) := by
  induction L with
  | nil => simp [pdel, pSort]
  | cons r L ih =>
    have h2 := List.pairwise_cons.mp hs
    unfold pdel
    split
    · exact h2.2
    · exact List.pairwise_cons.mpr ⟨fun q hq => h2.1 q (pdel_mem hq), ih h2.2⟩
theorem lkp_pput {L : PL} {key v k2 : Nat} (hs : pSort L) : lkp (pput L key v) k2 = if k2 = key then some v else lkp L k2 := by
  induction L with
  | nil =>
    by_cases h : k2 = key
    · subst h; simp [pput, lkp]
    · have h' : ¬ key = k2 := fun z => h z.symm
      simp [pput, lkp, h, h']
  | cons r L ih =>
    have h2 := List.pairwise_cons.mp hs
    unfold pput
    split
    · rename_i h1
      unfold lkp
      by_cases h3 : r.1 = k2
      · rw [if_pos h3, if_pos h3, if_neg (by omega)]
      · rw [if_neg h3, if_neg h3, ih h2.2]
    · split
      · rename_i h1 h3
        unfold lkp
        by_cases h4 : key = k2
        · rw [if_pos h4, if_pos h4.symm]
        · rw [if_neg h4, if_neg (fun z => h4 z.symm), if_neg (by omega)]
      · rename_i h1 h3
        by_cases h4 : key = k2
        · rw [if_pos h4.symm]; unfold lkp; rw [if_pos h4]
        · rw [if_neg (fun z => h4 z.symm)]
          show (if key = k2 then some v else lkp (r :: L) k2) = _
          rw [if_neg h4]
theorem lkp_pdel {L : PL} {key k2 : Nat} (hs : pSort L) : lkp (pdel L key) k2 = if k2 = key then none else lkp L k2 := by
  induction L with
  | nil => simp [pdel, lkp]
  | cons r L ih =>
    have h2 := List.pairwise_cons.mp hs
    unfold pdel
    split
    · rename_i h1
      by_cases h3 : k2 = key
      · rw [if_pos h3, h3]
        exact lkp_none (fun q hq => by have := h2.1 q hq; omega)
      · rw [if_neg h3]
        show lkp L k2 = (if r.1 = k2 then some r.2 else lkp L k2)
        rw [if_neg (by omega)]
    · rename_i h1
      unfold lkp
      by_cases h3 : r.1 = k2
      · rw [if_pos h3, if_pos h3, if_neg (by omega)]
      · rw [if_neg h3, if_neg h3, ih h2.2]
/-- two sorted lists that answer alike are one -/
theorem sort_ext : ∀ {L M : PL}, pSort L → pSort M → (∀ k, lkp L k = lkp M k) → L = M
  | [], [], _, _, _ => rfl
  | [], r :: M, _, _, h => by have := h r.1; simp [lkp] at this
  | q :: L, [], _, _, h => by have := h q.1; simp [lkp] at this
  | q :: L, r :: M, hL, hM, h => by
    have h1 := List.pairwise_cons.mp hL
    have h2 := List.pairwise_cons.mp hM
    have hq : lkp (r :: M) q.1 = some q.2 := by rw [← h q.1]; simp [lkp]
    have hr : lkp (q :: L) r.1 = some r.2 := by rw [h r.1]; simp [lkp]
    have e1 : q.1 = r.1 := by
      rcases List.mem_cons.mp (lkp_some hq) with z | z
      · rw [← z]
      · have a := h2.1 _ z
        rcases List.mem_cons.mp (lkp_some hr) with w | w
        · rw [← w]
        · have b := h1.1 _ w
          have a : r.1 < q.1 := a
          have b : q.1 < r.1 := b
          omega
    have e2 : q = r := by
      have h3 := h q.1
      rw [show lkp (q :: L) q.1 = some q.2 by simp [lkp], show lkp (r :: M) q.1 = some r.2 by simp [lkp, e1]] at h3
      exact Prod.ext e1 (Option.some.inj h3)
    subst e2
    rw [sort_ext h1.2 h2.2 (fun k => ?_)]
    by_cases hk : q.1 = k
    · rw [lkp_none (fun z hz => by have := h1.1 z hz; omega), lkp_none (fun z hz => by have := h2.1 z hz; omega)]
    · have h3 := h k
      simpa [lkp, hk] using h3
/-- an array pair holds the list -/
def ptOk (kf vf : Nat → Int32) (L : PL) : Prop := L.length ≤ 512 ∧ (∀ i, i < L.length → kf i = nI (pK L i) ∧ vf i = nI (pV L i)) ∧ pSort L ∧ ∀ q ∈ L, q.1 < 2 ^ 30 ∧ q.2 < 2 ^ 31
def vOf (L : PL) (key : Nat) : Int32 := match lkp L key with
  | some v => nI v
  | none => -1
theorem ptOk.k {kf vf : Nat → Int32} {L : PL} (h : ptOk kf vf L) {i : Nat} (hi : i < L.length) : kf i = nI (pK L i) := (h.2.1 i hi).1
theorem ptOk.v {kf vf : Nat → Int32} {L : PL} (h : ptOk kf vf L) {i : Nat} (hi : i < L.length) : vf i = nI (pV L i) := (h.2.1 i hi).2
theorem ptOk.kb {kf vf : Nat → Int32} {L : PL} (h : ptOk kf vf L) {i : Nat} (hi : i < L.length) : pK L i < 2 ^ 30 := (h.2.2.2 _ (pK_mem hi)).1
theorem ptOk.vb {kf vf : Nat → Int32} {L : PL} (h : ptOk kf vf L) {i : Nat} (hi : i < L.length) : pV L i < 2 ^ 31 := (h.2.2.2 _ (pK_mem hi)).2
theorem pK_ge {L : PL} {i : Nat} (h : L.length ≤ i) : pK L i = 0 := by simp [pK, h]
theorem pX_app_l {L M : PL} {i : Nat} (h : i < L.length) : (L ++ M).getD i (0, 0) = L.getD i (0, 0) := by
  simp [List.getD_eq_getElem?_getD, List.getElem?_append_left h]
theorem pX_app_r {L M : PL} {i : Nat} (h : L.length ≤ i) : (L ++ M).getD i (0, 0) = M.getD (i - L.length) (0, 0) := by
  simp [List.getD_eq_getElem?_getD, List.getElem?_append_right h]
theorem pX_take {L : PL} {i n : Nat} (h : i < n) : (L.take n).getD i (0, 0) = L.getD i (0, 0) := by
  simp [List.getD_eq_getElem?_getD, List.getElem?_take, h]
theorem pX_drop {L : PL} {i n : Nat} : (L.drop n).getD i (0, 0) = L.getD (n + i) (0, 0) := by
  simp [List.getD_eq_getElem?_getD, List.getElem?_drop]
/-- a new key's arrays: the tail moved up by one, the key at its rank -/
theorem pt_put_new {kf vf : Nat → Int32} {L : PL} {key v : Nat} (h : ptOk kf vf L) (hn : ¬ (rk L key < L.length ∧ pK L (rk L key) = key)) (hl : L.length < 512) (hk : key < 2 ^ 30) (hv : v < 2 ^ 31) :
    ptOk (upd (va_cpy kf kf (rk L key) (rk L key + 1) (L.length - rk L key)) (rk L key) (nI key)) (upd (va_cpy vf vf (rk L key) (rk L key + 1) (L.length - rk L key)) (rk L key) (nI v)) (pput L key v) ∧ (pput L key v).length = L.length + 1 := by
  have hr := rk_le L key
  have e := pput_new L key v h.2.2.1 hn
  have hlen : (pput L key v).length = L.length + 1 := by rw [e]; simp; omega
  have ht : (L.take (rk L key)).length = rk L key := by simp; omega
  refine ⟨⟨by omega, fun i hi => ?_, pput_sort h.2.2.1, fun q hq => ?_⟩, hlen⟩
  · rw [hlen] at hi
    unfold pK pV
    rw [e]
    rcases Nat.lt_trichotomy i (rk L key) with h1 | h1 | h1
    · rw [pk_un (by omega), pk_un (by omega), pk_cpy_out (by omega), pk_cpy_out (by omega), pX_app_l (by omega), pX_take h1]
      exact h.2.1 i (by omega)
    · subst h1
      rw [pk_us, pk_us, pX_app_r (by omega), ht, Nat.sub_self]
      exact ⟨rfl, rfl⟩
    · rw [pk_un (by omega), pk_un (by omega), pk_cpy_in (by omega) (by omega), pk_cpy_in (by omega) (by omega), pX_app_r (by omega), ht]
      obtain ⟨d, rfl⟩ : ∃ d, i = rk L key + 1 + d := ⟨i - (rk L key + 1), by omega⟩
      rw [show rk L key + 1 + d - rk L key = d + 1 by omega, show rk L key + (rk L key + 1 + d - (rk L key + 1)) = rk L key + d by omega, List.getD_cons_succ, pX_drop]
      exact h.2.1 (rk L key + d) (by omega)
  · rcases pput_mem hq with z | z
    · rw [z]; exact ⟨hk, hv⟩
    · exact h.2.2.2 q z
theorem pt_put_old {kf vf : Nat → Int32} {L : PL} {key v : Nat} (h : ptOk kf vf L) (hn : rk L key < L.length) (hkk : pK L (rk L key) = key) (hv : v < 2 ^ 31) :
    ptOk kf (upd vf (rk L key) (nI v)) (pput L key v) ∧ (pput L key v).length = L.length := by
  have e := pput_old L key v h.2.2.1 hn hkk
  have hlen : (pput L key v).length = L.length := by rw [e]; simp
  refine ⟨⟨by rw [hlen]; exact h.1, fun i hi => ?_, pput_sort h.2.2.1, fun q hq => ?_⟩, hlen⟩
  · rw [hlen] at hi
    unfold pK pV
    rw [e]
    by_cases h1 : i = rk L key
    · subst h1
      rw [pk_us, h.k hi, hkk]
      simp [hi]
    · have h2 : (L.set (rk L key) (key, v)).getD i (0, 0) = L.getD i (0, 0) := by
        simp [List.getD_eq_getElem?_getD, List.getElem?_set_ne (fun z => h1 z.symm)]
      rw [pk_un h1, h2]
      exact h.2.1 i hi
  · rcases pput_mem hq with z | z
    · rw [z]; exact ⟨by have := h.kb hn; rw [hkk] at this; exact this, hv⟩
    · exact h.2.2.2 q z
theorem pt_del {kf vf : Nat → Int32} {L : PL} {key : Nat} (h : ptOk kf vf L) (hn : rk L key < L.length) (hkk : pK L (rk L key) = key) :
    ptOk (va_cpy kf kf (rk L key + 1) (rk L key) (L.length - rk L key - 1)) (va_cpy vf vf (rk L key + 1) (rk L key) (L.length - rk L key - 1)) (pdel L key) ∧ (pdel L key).length = L.length - 1 := by
  have e := pdel_old L key h.2.2.1 hn hkk
  have ht : (L.take (rk L key)).length = rk L key := by simp; omega
  have hlen : (pdel L key).length = L.length - 1 := by rw [e]; simp; omega
  have h1 := h.1
  refine ⟨⟨by omega, fun i hi => ?_, pdel_sort h.2.2.1, fun q hq => h.2.2.2 q (pdel_mem hq)⟩, hlen⟩
  rw [hlen] at hi
  unfold pK pV
  rw [e]
  by_cases h1 : i < rk L key
  · rw [pk_cpy_out (by omega), pk_cpy_out (by omega), pX_app_l (by omega), pX_take h1]
    exact h.2.1 i (by omega)
  · rw [pk_cpy_in (by omega) (by omega), pk_cpy_in (by omega) (by omega), pX_app_r (by omega), ht, pX_drop]
    rw [show rk L key + 1 + (i - rk L key) = i + 1 by omega]
    exact h.2.1 (i + 1) (by omega)
theorem pt_copy {kf vf kg vg : Nat → Int32} {L : PL} (h : ptOk kf vf L) : ptOk (va_cpy kf kg 0 0 L.length) (va_cpy vf vg 0 0 L.length) L :=
  ⟨h.1, fun i hi => by
    rw [pk_cpy_in (by omega) (by omega), pk_cpy_in (by omega) (by omega), Nat.zero_add, Nat.sub_zero]
    exact h.2.1 i hi, h.2.2.1, h.2.2.2⟩
theorem pt_nil {kf vf : Nat → Int32} : ptOk kf vf [] := ⟨by simp, fun i hi => by simp at hi, List.Pairwise.nil, fun q hq => by simp at hq⟩
/-- the version behind takeOut -/
def tv (L : PL) (key w : Nat) : Nat := match lkp L key with
  | some _ => w + 1
  | none => w
