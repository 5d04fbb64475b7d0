/-! the reference's lists in its rows -/
def shU {α : Type} (f : Nat → α) (i n : Nat) : Nat → α := fun j => if i < j ∧ j ≤ n then f (j - 1) else f j
def shD {α : Type} (f : Nat → α) (k i : Nat) : Nat → α := fun j => if k ≤ j ∧ j < i then f (j + 1) else f j
theorem shU_0 {α : Type} (f : Nat → α) (n : Nat) : shU f n n = f := by
  funext j
  unfold shU
  rw [if_neg (by omega)]
theorem shD_0 {α : Type} (f : Nat → α) (n : Nat) : shD f n n = f := by
  funext j
  unfold shD
  rw [if_neg (by omega)]
theorem shU_st {f : Nat → Int32} {i n : Nat} (h : 1 ≤ i) (hn : i ≤ n) : upd (shU f i n) i (shU f i n (i - 1)) = shU f (i - 1) n := by
  funext j
  unfold upd shU
  by_cases h1 : j = i
  · rw [if_pos h1, if_neg (by omega), if_pos (by omega), h1]
  · rw [if_neg h1]
    by_cases h2 : i < j ∧ j ≤ n
    · rw [if_pos h2, if_pos (by omega)]
    · rw [if_neg h2, if_neg (by omega)]
theorem shU_stL {f : Nat → Int64} {i n : Nat} (h : 1 ≤ i) (hn : i ≤ n) : vp_updL (shU f i n) i (shU f i n (i - 1)) = shU f (i - 1) n := by
  funext j
  unfold vp_updL shU
  by_cases h1 : j = i
  · rw [if_pos h1, if_neg (by omega), if_pos (by omega), h1]
  · rw [if_neg h1]
    by_cases h2 : i < j ∧ j ≤ n
    · rw [if_pos h2, if_pos (by omega)]
    · rw [if_neg h2, if_neg (by omega)]
theorem shD_st {f : Nat → Int32} {k i : Nat} (h : k ≤ i) : upd (shD f k i) i (shD f k i (i + 1)) = shD f k (i + 1) := by
  funext j
  unfold upd shD
  by_cases h1 : j = i
  · rw [if_pos h1, if_neg (by omega), if_pos (by omega), h1]
  · rw [if_neg h1]
    by_cases h2 : k ≤ j ∧ j < i
    · rw [if_pos h2, if_pos (by omega)]
    · rw [if_neg h2, if_neg (by omega)]
theorem shD_stL {f : Nat → Int64} {k i : Nat} (h : k ≤ i) : vp_updL (shD f k i) i (shD f k i (i + 1)) = shD f k (i + 1) := by
  funext j
  unfold vp_updL shD
  by_cases h1 : j = i
  · rw [if_pos h1, if_neg (by omega), if_pos (by omega), h1]
  · rw [if_neg h1]
    by_cases h2 : k ≤ j ∧ j < i
    · rw [if_pos h2, if_pos (by omega)]
    · rw [if_neg h2, if_neg (by omega)]
theorem cp_st {f : Nat → Int32} {A B k : Nat} (h : A + k < B ∨ B + k ≤ A + k) : upd (va_cpy f f A B k) (B + k) (va_cpy f f A B k (A + k)) = va_cpy f f A B (k + 1) := by
  funext j
  unfold upd va_cpy
  by_cases h1 : j = B + k
  · rw [if_pos h1, if_neg (by omega), if_pos (by omega), h1]
    congr 1; omega
  · rw [if_neg h1]
    by_cases h2 : B ≤ j ∧ j < B + k
    · rw [if_pos h2, if_pos (by omega)]
    · rw [if_neg h2, if_neg (by omega)]
theorem cp_stL {f : Nat → Int64} {A B k : Nat} (h : A + k < B ∨ B + k ≤ A + k) : vp_updL (va_cpy f f A B k) (B + k) (va_cpy f f A B k (A + k)) = va_cpy f f A B (k + 1) := by
  funext j
  unfold vp_updL va_cpy
  by_cases h1 : j = B + k
  · rw [if_pos h1, if_neg (by omega), if_pos (by omega), h1]
    congr 1; omega
  · rw [if_neg h1]
    by_cases h2 : B ≤ j ∧ j < B + k
    · rw [if_pos h2, if_pos (by omega)]
    · rw [if_neg h2, if_neg (by omega)]
theorem cp_0 {α : Type} (f : Nat → α) (A B : Nat) : va_cpy f f A B 0 = f := by
  funext j
  unfold va_cpy
  rw [if_neg (by omega)]
/-- a row that holds a list's numbers, at 3300 s -/
def aOk {α : Type} (φ : Nat × Nat → α) (f : Nat → α) (s : Nat) (L : PL) : Prop := ∀ i, i < L.length → f (3300 * s + i) = φ (L.getD i (0, 0))
theorem a_ins {α : Type} (φ : Nat × Nat → α) {f : Nat → α} {L : PL} {key v : Nat} (h : aOk φ f 0 L) (hs : pSort L) (hn : ¬ (rk L key < L.length ∧ pK L (rk L key) = key)) : aOk φ (va_up (shU f (rk L key) L.length) (rk L key) (φ (key, v))) 0 (pput L key v) := by
  intro i hi
  have hr := rk_le L key
  have e := pput_new L key v hs hn
  have hlen : (pput L key v).length = L.length + 1 := by rw [e]; simp; omega
  have ht : (L.take (rk L key)).length = rk L key := by simp; omega
  rw [hlen] at hi
  rw [e, Nat.mul_zero, Nat.zero_add]
  have h0 : ∀ i, i < L.length → f i = φ (L.getD i (0, 0)) := fun i hi => by
    have := h i hi
    rwa [Nat.mul_zero, Nat.zero_add] at this
  unfold va_up
  rcases Nat.lt_trichotomy i (rk L key) with h1 | h1 | h1
  · rw [if_neg (by omega), pX_app_l (by omega), pX_take h1]
    unfold shU
    rw [if_neg (by omega)]
    exact h0 i (by omega)
  · rw [if_pos h1, pX_app_r (by omega), ht, h1, Nat.sub_self]; rfl
  · rw [if_neg (by omega), pX_app_r (by omega), ht]
    unfold shU
    rw [if_pos (by omega)]
    obtain ⟨d, rfl⟩ : ∃ d, i = rk L key + 1 + d := ⟨i - (rk L key + 1), by omega⟩
    rw [show rk L key + 1 + d - rk L key = d + 1 by omega, List.getD_cons_succ, pX_drop, show rk L key + 1 + d - 1 = rk L key + d by omega]
    exact h0 _ (by omega)
theorem a_del {α : Type} (φ : Nat × Nat → α) {f : Nat → α} {L : PL} {key : Nat} (h : aOk φ f 0 L) (hs : pSort L) (hn : rk L key < L.length) (hk : pK L (rk L key) = key) : aOk φ (shD f (rk L key) (L.length - 1)) 0 (pdel L key) := by
  intro i hi
  have e := pdel_old L key hs hn hk
  have ht : (L.take (rk L key)).length = rk L key := by simp; omega
  have hlen : (pdel L key).length = L.length - 1 := by rw [e]; simp; omega
  rw [hlen] at hi
  rw [e, Nat.mul_zero, Nat.zero_add]
  have h0 : ∀ i, i < L.length → f i = φ (L.getD i (0, 0)) := fun i hi => by
    have := h i hi
    rwa [Nat.mul_zero, Nat.zero_add] at this
  unfold shD
  by_cases h1 : i < rk L key
  · rw [if_neg (by omega), pX_app_l (by omega), pX_take h1]
    exact h0 i (by omega)
  · rw [if_pos (by omega), pX_app_r (by omega), ht, pX_drop, show rk L key + 1 + (i - rk L key) = i + 1 by omega]
    exact h0 _ (by omega)
theorem a_set {α : Type} (φ : Nat × Nat → α) {f : Nat → α} {L : PL} {key v : Nat} (h : aOk φ f 0 L) (hs : pSort L) (hn : rk L key < L.length) (hk : pK L (rk L key) = key) : aOk φ (va_up f (rk L key) (φ (key, v))) 0 (pput L key v) := by
  intro i hi
  have e := pput_old L key v hs hn hk
  have hlen : (pput L key v).length = L.length := by rw [e]; simp
  rw [hlen] at hi
  rw [e, Nat.mul_zero, Nat.zero_add]
  have h0 : ∀ i, i < L.length → f i = φ (L.getD i (0, 0)) := fun i hi => by
    have := h i hi
    rwa [Nat.mul_zero, Nat.zero_add] at this
  unfold va_up
  by_cases h1 : i = rk L key
  · rw [if_pos h1, h1, List.getD_eq_getElem?_getD, List.getElem?_set_self hn]; rfl
  · rw [if_neg h1, List.getD_eq_getElem?_getD, List.getElem?_set_ne (fun z => h1 z.symm), ← List.getD_eq_getElem?_getD]
    exact h0 i hi
theorem a_keep {α : Type} {φ : Nat × Nat → α} {f g : Nat → α} {L : PL} {s : Nat} (h : aOk φ f s L) (hk : ∀ j, 3300 * s ≤ j → j < 3300 * s + L.length → g j = f j) : aOk φ g s L := fun i hi => by
  rw [hk _ (by omega) (by omega)]; exact h i hi
theorem a_copy {α : Type} {φ : Nat × Nat → α} {f : Nat → α} {L : PL} {s t : Nat} (h : aOk φ f s L) : aOk φ (va_cpy f f (3300 * s) (3300 * t) L.length) t L := fun i hi => by
  rw [pk_cpy_in (by omega) (by omega), show 3300 * s + (3300 * t + i - 3300 * t) = 3300 * s + i by omega]; exact h i hi
def fx (q : Nat × Nat) : Int32 := nI (q.1 / 32768)
def fy (q : Nat × Nat) : Int32 := nI (q.1 % 32768)
def fv (q : Nat × Nat) : Int32 := nI q.2
def fc (q : Nat × Nat) : Int64 := lN q.1
/-- a state of the reference: its row of lengths, places, values, codes, the codes' values -/
def mSt (b : Nat) (mf xf yf vf wf : Nat → Int32) (cf : Nat → Int64) (s : Nat) (L Z : PL) : Prop := mf s = nI L.length ∧ aOk fx xf s L ∧ aOk fy yf s L ∧ aOk fv vf s L ∧ aOk fc cf s Z ∧ aOk fv wf s Z ∧ lOk L ∧ zOk b L Z ∧ insd b L
theorem mSt.X {b : Nat} {mf xf yf vf wf : Nat → Int32} {cf : Nat → Int64} {s : Nat} {L Z : PL} (h : mSt b mf xf yf vf wf cf s L Z) : mX xf yf s L := fun i hi => ⟨h.2.1 i hi, h.2.2.1 i hi⟩
theorem mSt.V {b : Nat} {mf xf yf vf wf : Nat → Int32} {cf : Nat → Int64} {s : Nat} {L Z : PL} (h : mSt b mf xf yf vf wf cf s L Z) : mV vf s L := fun i hi => h.2.2.2.1 i hi
theorem mSt.C {b : Nat} {mf xf yf vf wf : Nat → Int32} {cf : Nat → Int64} {s : Nat} {L Z : PL} (h : mSt b mf xf yf vf wf cf s L Z) : mC cf s Z := fun i hi => h.2.2.2.2.1 i hi
theorem mSt.W {b : Nat} {mf xf yf vf wf : Nat → Int32} {cf : Nat → Int64} {s : Nat} {L Z : PL} (h : mSt b mf xf yf vf wf cf s L Z) : mV wf s Z := fun i hi => h.2.2.2.2.2.1 i hi
theorem mSt.L {b : Nat} {mf xf yf vf wf : Nat → Int32} {cf : Nat → Int64} {s : Nat} {L Z : PL} (h : mSt b mf xf yf vf wf cf s L Z) : lOk L := h.2.2.2.2.2.2.1
theorem mSt.Z {b : Nat} {mf xf yf vf wf : Nat → Int32} {cf : Nat → Int64} {s : Nat} {L Z : PL} (h : mSt b mf xf yf vf wf cf s L Z) : zOk b L Z := h.2.2.2.2.2.2.2.1
theorem mSt.I {b : Nat} {mf xf yf vf wf : Nat → Int32} {cf : Nat → Int64} {s : Nat} {L Z : PL} (h : mSt b mf xf yf vf wf cf s L Z) : insd b L := h.2.2.2.2.2.2.2.2
theorem mSt.m {b : Nat} {mf xf yf vf wf : Nat → Int32} {cf : Nat → Int64} {s : Nat} {L Z : PL} (h : mSt b mf xf yf vf wf cf s L Z) : mf s = nI L.length := h.1
theorem mSt.mz {b : Nat} {mf xf yf vf wf : Nat → Int32} {cf : Nat → Int64} {s : Nat} {L Z : PL} (h : mSt b mf xf yf vf wf cf s L Z) : mf s = nI Z.length := by rw [h.Z.len]; exact h.1
theorem zOk.b {b : Nat} {L Z : PL} (h : zOk b L Z) (hb : b ≤ 15) : ∀ q ∈ Z, q.1 < 2 ^ 62 := by
  intro q hq
  obtain ⟨r, -, rfl⟩ := List.mem_map.mp (h.2.mem_iff.mp hq)
  have h1 := zk_lt b r.1
  have h2 : 4 ^ b ≤ 4 ^ 15 := Nat.pow_le_pow_right (by decide) hb
  show zk b r.1 < 2 ^ 62
  omega
theorem zk_inj {b k k' : Nat} (h1 : k / 32768 < 2 ^ b ∧ k % 32768 < 2 ^ b) (h2 : k' / 32768 < 2 ^ b ∧ k' % 32768 < 2 ^ b) (h : zk b k = zk b k') : k = k' := by
  have := zc_inj b _ _ _ _ h1.1 h1.2 h2.1 h2.2 h
  omega
theorem pput_permN {L : PL} {key v : Nat} (hs : pSort L) (h : lkp L key = none) : (pput L key v).Perm ((key, v) :: L) := by
  have hn : ¬ (rk L key < L.length ∧ pK L (rk L key) = key) := by
    intro z
    rw [lkp_rk L key hs, if_pos z] at h
    cases h
  rw [pput_new L key v hs hn]
  have := List.perm_middle (a := (key, v)) (l₁ := L.take (rk L key)) (l₂ := L.drop (rk L key))
  rwa [List.take_append_drop] at this
theorem pdel_perm : ∀ {L : PL} {key v : Nat}, pSort L → lkp L key = some v → L.Perm ((key, v) :: pdel L key)
  | [], _, _, _, h => by simp [lkp] at h
  | q :: L, key, v, hs, h => by
    unfold lkp at h
    unfold pdel
    by_cases h1 : q.1 = key
    · rw [if_pos h1] at h ⊢
      cases h
      have : q = (key, q.2) := by rw [← h1]
      rw [← this]
    · rw [if_neg h1] at h ⊢
      exact (List.Perm.cons q (pdel_perm (List.pairwise_cons.mp hs).2 h)).trans (List.Perm.swap _ _ _)
theorem pput_permO {L : PL} {key v w : Nat} (hs : pSort L) (h : lkp L key = some w) : (pput L key v).Perm ((key, v) :: pdel L key) := by
  have h1 := pdel_perm (pput_sort hs) (show lkp (pput L key v) key = some v by rw [lkp_pput hs, if_pos rfl])
  have e : pdel (pput L key v) key = pdel L key := by
    apply sort_ext (pdel_sort (pput_sort hs)) (pdel_sort hs)
    intro k
    rw [lkp_pdel (pput_sort hs), lkp_pdel hs, lkp_pput hs]
    by_cases z : k = key
    · rw [if_pos z, if_pos z]
    · rw [if_neg z, if_neg z, if_neg z]
  rw [e] at h1
  exact h1
theorem z_lkp {b : Nat} {L Z : PL} {key : Nat} (hz : zOk b L Z) (hs : pSort L) (hi : insd b L) (hk : key / 32768 < 2 ^ b ∧ key % 32768 < 2 ^ b) : lkp Z (zk b key) = lkp L key := by
  cases h : lkp L key with
  | some v =>
    have := List.mem_map_of_mem (f := fun q : Nat × Nat => (zk b q.1, q.2)) (lkp_some h)
    exact lkp_mem hz.1 (hz.2.mem_iff.mpr this)
  | none =>
    apply lkp_none
    intro q hq z
    obtain ⟨r, hr, rfl⟩ := List.mem_map.mp (hz.2.mem_iff.mp hq)
    have e : r.1 = key := zk_inj (hi r hr) hk z
    have := lkp_mem hs (show (key, r.2) ∈ L by rw [← e]; exact hr)
    rw [h] at this
    cases this
theorem z_put {b : Nat} {L Z : PL} {key v : Nat} (hz : zOk b L Z) (hs : pSort L) (hi : insd b L) (hk : key / 32768 < 2 ^ b ∧ key % 32768 < 2 ^ b) : zOk b (pput L key v) (pput Z (zk b key) v) := by
  refine ⟨pput_sort hz.1, ?_⟩
  have e := z_lkp hz hs hi hk
  cases h : lkp L key with
  | none =>
    rw [h] at e
    exact (pput_permN hz.1 e).trans ((List.Perm.cons _ hz.2).trans (((pput_permN (v := v) hs h).map (fun q : Nat × Nat => (zk b q.1, q.2))).symm))
  | some w =>
    rw [h] at e
    have a1 := pdel_perm hz.1 e
    have a2 := (pdel_perm hs h).map (fun q : Nat × Nat => (zk b q.1, q.2))
    have a3 : (pdel Z (zk b key)).Perm ((pdel L key).map (fun q : Nat × Nat => (zk b q.1, q.2))) := List.Perm.cons_inv ((a1.symm.trans hz.2).trans a2)
    exact (pput_permO hz.1 e).trans ((List.Perm.cons _ a3).trans (((pput_permO (v := v) hs h).map (fun q : Nat × Nat => (zk b q.1, q.2))).symm))
theorem z_del {b : Nat} {L Z : PL} {key w : Nat} (hz : zOk b L Z) (hs : pSort L) (hi : insd b L) (hk : key / 32768 < 2 ^ b ∧ key % 32768 < 2 ^ b) (h : lkp L key = some w) : zOk b (pdel L key) (pdel Z (zk b key)) := by
  have e := z_lkp hz hs hi hk
  rw [h] at e
  have a1 := pdel_perm hz.1 e
  have a2 := (pdel_perm hs h).map (fun q : Nat × Nat => (zk b q.1, q.2))
  exact ⟨pdel_sort hz.1, List.Perm.cons_inv ((a1.symm.trans hz.2).trans a2)⟩
theorem lkp_at {L : PL} {key w : Nat} (hs : pSort L) (h : lkp L key = some w) : rk L key < L.length ∧ pK L (rk L key) = key ∧ pV L (rk L key) = w := by
  rw [lkp_rk L key hs] at h
  split at h
  · rename_i z
    exact ⟨z.1, z.2, by cases h; rfl⟩
  · cases h
theorem lkp_nat {L : PL} {key : Nat} (hs : pSort L) (h : lkp L key = none) : ¬ (rk L key < L.length ∧ pK L (rk L key) = key) := fun z => by
  rw [lkp_rk L key hs, if_pos z] at h
  cases h
theorem pput_lenN {L : PL} {key v : Nat} (hs : pSort L) (h : lkp L key = none) : (pput L key v).length = L.length + 1 := (pput_permN hs h).length_eq
theorem pput_lenO {L : PL} {key v w : Nat} (hs : pSort L) (h : lkp L key = some w) : (pput L key v).length = L.length := (pput_permO hs h).length_eq.trans (pdel_perm hs h).length_eq.symm
theorem pdel_lenO {L : PL} {key w : Nat} (hs : pSort L) (h : lkp L key = some w) : (pdel L key).length = L.length - 1 := by
  have := (pdel_perm hs h).length_eq
  simp at this
  omega
theorem l_put {L : PL} {key v : Nat} (h : lOk L) (hl : (pput L key v).length ≤ 512) (hk : key < 2 ^ 30) (hv : v < 2 ^ 31) : lOk (pput L key v) := ⟨hl, pput_sort h.2.1, fun q hq => by
  rcases pput_mem hq with z | z
  · rw [z]; exact ⟨hk, hv⟩
  · exact h.2.2 q z⟩
theorem pdel_len {L : PL} {key : Nat} : (pdel L key).length ≤ L.length := by
  induction L with
  | nil => simp [pdel]
  | cons q L ih =>
    unfold pdel
    split
    · simp
    · simp; omega
theorem l_del {L : PL} {key : Nat} (h : lOk L) : lOk (pdel L key) := ⟨Nat.le_trans pdel_len h.1, pdel_sort h.2.1, fun q hq => h.2.2 q (pdel_mem hq)⟩
theorem in_put {b : Nat} {L : PL} {key v : Nat} (h : insd b L) (hk : key / 32768 < 2 ^ b ∧ key % 32768 < 2 ^ b) : insd b (pput L key v) := fun q hq => by
  rcases pput_mem hq with z | z
  · rw [z]; exact hk
  · exact h q z
theorem in_del {b : Nat} {L : PL} {key : Nat} (h : insd b L) : insd b (pdel L key) := fun q hq => h q (pdel_mem hq)
theorem a_1 {α : Type} {φ : Nat × Nat → α} {f g : Nat → α} {L : PL} (h : aOk φ f 1 L) (hl : L.length ≤ 512) (hk : ∀ j, 3300 ≤ j → g j = f j) : aOk φ g 1 L := a_keep h (fun j h1 _ => hk j (by omega))
theorem st_put {b : Nat} {mf xf yf vf wf : Nat → Int32} {cf : Nat → Int64} {P Z : PL} {key v : Nat} (h : mSt b mf xf yf vf wf cf 0 P Z) (hn : lkp P key = none) (hl : P.length < 512) (hk : key / 32768 < 2 ^ b ∧ key % 32768 < 2 ^ b) (hk2 : key < 2 ^ 30) (hv : v < 2 ^ 31) : mSt b (upd mf 0 (nI (P.length + 1))) (upd (shU xf (rk P key) P.length) (rk P key) (nI (key / 32768))) (upd (shU yf (rk P key) P.length) (rk P key) (nI (key % 32768))) (upd (shU vf (rk P key) P.length) (rk P key) (nI v)) (upd (shU wf (rk Z (zk b key)) Z.length) (rk Z (zk b key)) (nI v)) (vp_updL (shU cf (rk Z (zk b key)) Z.length) (rk Z (zk b key)) (lN (zk b key))) 0 (pput P key v) (pput Z (zk b key) v) := by
  have hs := h.L.2.1
  have e := z_lkp h.Z hs h.I hk
  rw [hn] at e
  have n1 := lkp_nat hs hn
  have n2 := lkp_nat h.Z.1 e
  have hpl := pput_lenN (v := v) hs hn
  exact ⟨by rw [pk_us, hpl], a_ins fx h.2.1 hs n1, a_ins fy h.2.2.1 hs n1, a_ins fv h.2.2.2.1 hs n1, a_ins fc h.2.2.2.2.1 h.Z.1 n2, a_ins fv h.2.2.2.2.2.1 h.Z.1 n2, l_put h.L (by omega) hk2 hv, z_put h.Z hs h.I hk, in_put h.I hk⟩
theorem st_del {b : Nat} {mf xf yf vf wf : Nat → Int32} {cf : Nat → Int64} {P Z : PL} {key w : Nat} (h : mSt b mf xf yf vf wf cf 0 P Z) (hn : lkp P key = some w) (hk : key / 32768 < 2 ^ b ∧ key % 32768 < 2 ^ b) : mSt b (upd mf 0 (nI (P.length - 1))) (shD xf (rk P key) (P.length - 1)) (shD yf (rk P key) (P.length - 1)) (shD vf (rk P key) (P.length - 1)) (shD wf (rk Z (zk b key)) (Z.length - 1)) (shD cf (rk Z (zk b key)) (Z.length - 1)) 0 (pdel P key) (pdel Z (zk b key)) := by
  have hs := h.L.2.1
  have e := z_lkp h.Z hs h.I hk
  rw [hn] at e
  obtain ⟨a1, a2, -⟩ := lkp_at hs hn
  obtain ⟨b1, b2, -⟩ := lkp_at h.Z.1 e
  exact ⟨by rw [pk_us, pdel_lenO hs hn], a_del fx h.2.1 hs a1 a2, a_del fy h.2.2.1 hs a1 a2, a_del fv h.2.2.2.1 hs a1 a2, a_del fc h.2.2.2.2.1 h.Z.1 b1 b2, a_del fv h.2.2.2.2.2.1 h.Z.1 b1 b2, l_del h.L, z_del h.Z hs h.I hk hn, in_del h.I⟩
theorem st_set {b : Nat} {mf xf yf vf wf : Nat → Int32} {cf : Nat → Int64} {P Z : PL} {key v w : Nat} (h : mSt b mf xf yf vf wf cf 0 P Z) (hn : lkp P key = some w) (hk : key / 32768 < 2 ^ b ∧ key % 32768 < 2 ^ b) (hk2 : key < 2 ^ 30) (hv : v < 2 ^ 31) : mSt b mf xf yf (upd vf (rk P key) (nI v)) (upd wf (rk Z (zk b key)) (nI v)) cf 0 (pput P key v) (pput Z (zk b key) v) := by
  have hs := h.L.2.1
  have e := z_lkp h.Z hs h.I hk
  rw [hn] at e
  obtain ⟨a1, a2, -⟩ := lkp_at hs hn
  obtain ⟨b1, b2, -⟩ := lkp_at h.Z.1 e
  have same : ∀ {α : Type} (φ : Nat × Nat → α) (f : Nat → α) (k : Nat) (d : α), f k = d → va_up f k d = f := fun φ f k d e => by
    funext j
    unfold va_up
    by_cases z : j = k
    · rw [if_pos z, z, e]
    · rw [if_neg z]
  have hx1 := a_set fx (v := v) h.2.1 hs a1 a2
  have hy1 := a_set fy (v := v) h.2.2.1 hs a1 a2
  have hc1 := a_set fc (v := v) h.2.2.2.2.1 h.Z.1 b1 b2
  have q1 := h.2.1 _ a1
  have q2 := h.2.2.1 _ a1
  have q3 := h.2.2.2.2.1 _ b1
  rw [Nat.mul_zero, Nat.zero_add] at q1 q2 q3
  rw [same fx xf (rk P key) (fx (key, v)) (by rw [q1]; show nI (pK P (rk P key) / 32768) = nI (key / 32768); rw [a2])] at hx1
  rw [same fy yf (rk P key) (fy (key, v)) (by rw [q2]; show nI (pK P (rk P key) % 32768) = nI (key % 32768); rw [a2])] at hy1
  rw [same fc cf (rk Z (zk b key)) (fc (zk b key, v)) (by rw [q3]; show lN (pK Z (rk Z (zk b key))) = lN (zk b key); rw [b2])] at hc1
  have hpl := pput_lenO (v := v) hs hn
  exact ⟨by rw [hpl]; exact h.1, hx1, hy1, a_set fv h.2.2.2.1 hs a1 a2, hc1, a_set fv h.2.2.2.2.2.1 h.Z.1 b1 b2, l_put h.L (by rw [hpl]; exact h.L.1) hk2 hv, z_put h.Z hs h.I hk, in_put h.I hk⟩
theorem st_keep {b : Nat} {mf xf yf vf wf mf2 xf2 yf2 vf2 wf2 : Nat → Int32} {cf cf2 : Nat → Int64} {s : Nat} {L Z : PL} (h : mSt b mf xf yf vf wf cf s L Z) (h0 : mf2 s = mf s) (h1 : ∀ j, 3300 * s ≤ j → j < 3300 * s + 512 → xf2 j = xf j ∧ yf2 j = yf j ∧ vf2 j = vf j ∧ wf2 j = wf j ∧ cf2 j = cf j) : mSt b mf2 xf2 yf2 vf2 wf2 cf2 s L Z := by
  have hl := h.L.1
  have hz := h.Z.len
  refine ⟨h0.trans h.1, a_keep h.2.1 (fun j a c => (h1 j a (by omega)).1), a_keep h.2.2.1 (fun j a c => (h1 j a (by omega)).2.1), a_keep h.2.2.2.1 (fun j a c => (h1 j a (by omega)).2.2.1), a_keep h.2.2.2.2.1 (fun j a c => (h1 j a (by omega)).2.2.2.2), a_keep h.2.2.2.2.2.1 (fun j a c => (h1 j a (by omega)).2.2.2.1), h.2.2.2.2.2.2⟩
theorem st_copy {b : Nat} {mf xf yf vf wf : Nat → Int32} {cf : Nat → Int64} {s t : Nat} {L Z : PL} (h : mSt b mf xf yf vf wf cf s L Z) : mSt b (upd mf t (nI L.length)) (va_cpy xf xf (3300 * s) (3300 * t) L.length) (va_cpy yf yf (3300 * s) (3300 * t) L.length) (va_cpy vf vf (3300 * s) (3300 * t) L.length) (va_cpy wf wf (3300 * s) (3300 * t) L.length) (va_cpy cf cf (3300 * s) (3300 * t) L.length) t L Z := by
  have hz := h.Z.len
  have c5 := a_copy (t := t) h.2.2.2.2.1
  have c6 := a_copy (t := t) h.2.2.2.2.2.1
  rw [hz] at c5 c6
  exact ⟨pk_us, a_copy h.2.1, a_copy h.2.2.1, a_copy h.2.2.2.1, c5, c6, h.2.2.2.2.2.2⟩
