/-! what the law's loop needs of the lists: replays, keys, the tree's size -/
def ev : Op → Nat → Option (Option Nat)
  | none, _ => some none
  | some (k, none), j => if j = k then some none else none
  | some (k, some v), j => if j = k then some (some v) else none
def eff : List Op → Nat → Option (Option Nat)
  | [], _ => none
  | o :: C, k => match eff C k with
    | some r => some r
    | none => ev o k
theorem ap_sort {L : PL} (hs : pSort L) (o : Op) : pSort (ap L o) := by
  rcases op_cases o with rfl | ⟨k, rfl⟩ | ⟨k, v, rfl⟩
  · exact List.Pairwise.nil
  · exact pdel_sort hs
  · exact pput_sort hs
theorem apL_sort : ∀ (C : List Op) {L : PL}, pSort L → pSort (apL L C)
  | [], _, h => h
  | o :: C, _, h => apL_sort C (ap_sort h o)
theorem lkp_ap {L : PL} (hs : pSort L) (o : Op) (j : Nat) : lkp (ap L o) j = (ev o j).getD (lkp L j) := by
  rcases op_cases o with rfl | ⟨k, rfl⟩ | ⟨k, v, rfl⟩
  · rfl
  · show lkp (pdel L k) j = (if j = k then some none else none).getD (lkp L j)
    rw [lkp_pdel hs]
    split <;> rfl
  · show lkp (pput L k v) j = (if j = k then some (some v) else none).getD (lkp L j)
    rw [lkp_pput hs]
    split <;> rfl
theorem lkp_apL : ∀ (C : List Op) {L : PL}, pSort L → ∀ j, lkp (apL L C) j = (eff C j).getD (lkp L j)
  | [], _, _, _ => rfl
  | o :: C, L, h, j => by
    show lkp (apL (ap L o) C) j = _
    rw [lkp_apL C (ap_sort h o) j, lkp_ap h o j]
    show _ = (match eff C j with
      | some r => some r
      | none => ev o j).getD (lkp L j)
    cases eff C j with
    | none => rfl
    | some r => rfl
theorem eff_none : ∀ (C : List Op) (j : Nat), eff C j = none ↔ ∀ o ∈ C, ev o j = none
  | [], j => ⟨fun _ o h => absurd h List.not_mem_nil, fun _ => rfl⟩
  | o :: C, j => by
    have ih := eff_none C j
    show (match eff C j with
      | some r => some r
      | none => ev o j) = none ↔ _
    cases he : eff C j with
    | none =>
      have h1 := ih.mp he
      exact ⟨fun h q hq => (List.mem_cons.mp hq).elim (fun z => by rw [z]; exact h) (fun z => h1 q z), fun h => h o List.mem_cons_self⟩
    | some r =>
      refine ⟨fun h => (by cases h), fun h => ?_⟩
      have := ih.mpr (fun q hq => h q (List.mem_cons_of_mem _ hq))
      rw [he] at this
      cases this
/-- a log that is done again, from its start, after a part of it was done -/
theorem ap_again {L : PL} (hs : pSort L) (C : List Op) (i : Nat) : apL (apL L (C.take i)) C = apL L C := by
  apply sort_ext (apL_sort C (apL_sort _ hs)) (apL_sort C hs)
  intro j
  rw [lkp_apL C (apL_sort _ hs) j, lkp_apL C hs j, lkp_apL _ hs j]
  cases he : eff C j with
  | some r => rfl
  | none =>
    have h1 : eff (C.take i) j = none := (eff_none _ _).mpr (fun o ho => (eff_none _ _).mp he o (List.mem_of_mem_take ho))
    rw [h1]
    rfl
theorem pdel_no {L : PL} (hs : pSort L) {k : Nat} (h : lkp L k = none) : pdel L k = L := by
  apply sort_ext (pdel_sort hs) hs
  intro j
  rw [lkp_pdel hs]
  by_cases z : j = k
  · rw [if_pos z, z, h]
  · rw [if_neg z]
theorem avn_or {L : PL} (hs : pSort L) (w : Nat) (o : Op) : (avn L w o = w ∧ ap L o = L) ∨ avn L w o = w + 1 := by
  rcases op_cases o with rfl | ⟨k, rfl⟩ | ⟨k, v, rfl⟩
  · exact Or.inr rfl
  · show (tv L k w = w ∧ pdel L k = L) ∨ tv L k w = w + 1
    unfold tv
    cases he : lkp L k with
    | none => exact Or.inl ⟨rfl, pdel_no hs he⟩
    | some v => exact Or.inr rfl
  · exact Or.inr rfl
theorem avL_or : ∀ (C : List Op) {L : PL} (w : Nat), pSort L → (avL L w C = w ∧ apL L C = L) ∨ (w < avL L w C ∧ avL L w C ≤ w + C.length)
  | [], _, _, _ => Or.inl ⟨rfl, rfl⟩
  | o :: C, L, w, hs => by
    show (avL (ap L o) (avn L w o) C = w ∧ apL (ap L o) C = L) ∨ (w < avL (ap L o) (avn L w o) C ∧ avL (ap L o) (avn L w o) C ≤ w + (C.length + 1))
    rcases avn_or hs w o with ⟨h1, h2⟩ | h1
    · rw [h1, h2]
      rcases avL_or C w hs with h | h
      · exact Or.inl h
      · exact Or.inr (by omega)
    · rw [h1]
      rcases avL_or C (w + 1) (ap_sort hs o) with h | h
      · exact Or.inr (by omega)
      · exact Or.inr (by omega)
theorem tc_av {bk b N : Nat} {L : PL} {w : Nat} {nn dd mo : Int32} {ff : Nat → Int32} (h : tcOk bk b N L w nn dd mo ff) (hs : pSort L) (C : List Op) (hb : w + C.length < 2 ^ 31) : tcOk bk b N (apL L C) (avL L w C) nn dd mo ff := by
  rcases avL_or C w hs with ⟨h1, h2⟩ | ⟨h1, h2⟩
  · rw [h1, h2]; exact h
  · exact tc_next h h1 (by omega)
theorem av_le {L : PL} {w : Nat} (hs : pSort L) (C : List Op) : avL L w C ≤ w + C.length := by
  rcases avL_or C w hs with ⟨h1, _⟩ | ⟨_, h2⟩
  · omega
  · exact h2
def keysIn (K : List Nat) (L : PL) : Prop := ∀ q ∈ L, q.1 ∈ K
def opsIn (K : List Nat) (C : List Op) : Prop := ∀ k v, some (k, some v) ∈ C → k ∈ K
theorem ki_ap {K : List Nat} {L : PL} {o : Op} (h : keysIn K L) (ho : ∀ k v, o = some (k, some v) → k ∈ K) : keysIn K (ap L o) := by
  rcases op_cases o with rfl | ⟨k, rfl⟩ | ⟨k, v, rfl⟩
  · exact fun q hq => absurd hq List.not_mem_nil
  · exact fun q hq => h q (pdel_mem hq)
  · intro q hq
    rcases pput_mem hq with rfl | z
    · exact ho k v rfl
    · exact h q z
theorem ki_apL {K : List Nat} : ∀ (C : List Op) {L : PL}, keysIn K L → opsIn K C → keysIn K (apL L C)
  | [], _, h, _ => h
  | o :: C, L, h, ho => ki_apL C (ki_ap h (fun k v e => ho k v (by rw [e]; exact List.mem_cons_self))) (fun k v z => ho k v (List.mem_cons_of_mem _ z))
theorem oi_take {K : List Nat} {C : List Op} (h : opsIn K C) (j : Nat) : opsIn K (C.take j) := fun k v z => h k v (List.mem_of_mem_take z)
theorem oi_nil {K : List Nat} : opsIn K [] := fun k v z => absurd z List.not_mem_nil
theorem ki_nil {K : List Nat} : keysIn K [] := fun q z => absurd z List.not_mem_nil
theorem ki_more {K : List Nat} {L : PL} (h : keysIn K L) (k : Nat) : keysIn (k :: K) L := fun q z => List.mem_cons_of_mem _ (h q z)
theorem oi_more {K : List Nat} {C : List Op} (h : opsIn K C) (k : Nat) : opsIn (k :: K) C := fun a v z => List.mem_cons_of_mem _ (h a v z)
theorem oi_app {K : List Nat} {C D : List Op} (h : opsIn K C) (g : opsIn K D) : opsIn K (C ++ D) := fun a v z => (List.mem_append.mp z).elim (h a v) (g a v)
theorem oi_one {K : List Nat} {k v : Nat} : opsIn (k :: K) [some (k, some v)] := fun a u z => by
  have := List.mem_singleton.mp z
  cases this
  exact List.mem_cons_self
theorem oi_del {K : List Nat} {k : Nat} : opsIn K [some (k, none)] := fun a u z => by
  have := List.mem_singleton.mp z
  cases this
theorem oi_all {K : List Nat} : opsIn K [none] := fun a u z => by
  have := List.mem_singleton.mp z
  cases this
theorem nd_len : ∀ (M K : List Nat), M.Nodup → (∀ x ∈ M, x ∈ K) → M.length ≤ K.length
  | [], K, _, _ => Nat.zero_le _
  | x :: M, K, hn, hs => by
    have hx : x ∈ K := hs x List.mem_cons_self
    have h1 := List.nodup_cons.mp hn
    have h2 := nd_len M (K.erase x) h1.2 (fun y hy => (List.mem_erase_of_ne (fun z => h1.1 (by rw [← z]; exact hy))).mpr (hs y (List.mem_cons_of_mem _ hy)))
    rw [List.length_erase_of_mem hx] at h2
    have h3 : 0 < K.length := List.length_pos_of_mem hx
    simp only [List.length_cons]
    omega
theorem ki_len {K : List Nat} {L : PL} (hs : pSort L) (h : keysIn K L) : L.length ≤ K.length := by
  have h1 := nd_len (L.map Prod.fst) K (List.pairwise_map.mpr (hs.imp (fun z => Nat.ne_of_lt z))) (fun x hx => by
    obtain ⟨q, hq, rfl⟩ := List.mem_map.mp hx
    exact h q hq)
  simpa using h1
theorem ki_cap {K : List Nat} {L : PL} {C : List Op} (hs : pSort L) (h : keysIn K L) (ho : opsIn K C) (hK : K.length ≤ 512) : ∀ j, j ≤ C.length → (apL L (C.take j)).length ≤ 512 :=
  fun j _ => Nat.le_trans (ki_len (apL_sort _ hs) (ki_apL _ h (oi_take ho j))) hK
theorem apL_app (L : PL) (C D : List Op) : apL L (C ++ D) = apL (apL L C) D := List.foldl_append ..
theorem tr_pos (bk d x y : Nat) (P : PL) : 1 ≤ (tr bk d x y P).length := by
  cases d with
  | zero => simp [tr]
  | succ d =>
    unfold tr
    split <;> simp
theorem sub_keys {P' P : PL} (h : (P'.map Prod.fst).Sublist (P.map Prod.fst)) (x y hh q : Nat) : ((sub x y hh P' q).map Prod.fst).Sublist ((sub x y hh P q).map Prod.fst) := by
  have e : ∀ M : PL, (sub x y hh M q).map Prod.fst = (M.map Prod.fst).filter (fun k => inq (x + q % 2 * hh) (y + q / 2 * hh) hh (k, 0)) := fun M => by
    rw [List.filter_map]
    rfl
  rw [e, e]
  exact h.filter _
theorem tr_mono (bk : Nat) : ∀ (d x y : Nat) (P' P : PL), (P'.map Prod.fst).Sublist (P.map Prod.fst) → (tr bk d x y P').length ≤ (tr bk d x y P).length
  | 0, x, y, P', P, _ => by simp [tr]
  | d + 1, x, y, P', P, h => by
    by_cases h1 : P'.length ≤ bk
    · have e : (tr bk (d + 1) x y P').length = 1 := by
        unfold tr
        rw [if_pos h1]; rfl
      rw [e]
      exact tr_pos _ _ _ _ _
    · have hl : P'.length ≤ P.length := by simpa using h.length_le
      have h2 : ¬ P.length ≤ bk := by omega
      have hk : ∀ q, (kid (fun x y P => tr bk d x y P) x y (2 ^ d) P' q).length ≤ (kid (fun x y P => tr bk d x y P) x y (2 ^ d) P q).length := by
        intro q
        have hs := sub_keys h x y (2 ^ d) q
        have hsl : (sub x y (2 ^ d) P' q).length ≤ (sub x y (2 ^ d) P q).length := by simpa using hs.length_le
        unfold kid
        by_cases z : (sub x y (2 ^ d) P' q).length = 0
        · rw [if_pos z]; exact Nat.zero_le _
        · rw [if_neg z, if_neg (by omega)]
          exact tr_mono bk d _ _ _ _ hs
      have e1 : (tr bk (d + 1) x y P').length = (kids (fun x y P => tr bk d x y P) x y (2 ^ d) P' 4).length + 1 := by
        conv => lhs; unfold tr
        rw [if_neg h1]; rfl
      have e2 : (tr bk (d + 1) x y P).length = (kids (fun x y P => tr bk d x y P) x y (2 ^ d) P 4).length + 1 := by
        conv => lhs; unfold tr
        rw [if_neg h2]; rfl
      rw [e1, e2, kids_4, kids_4]
      have q0 := hk 0
      have q1 := hk 1
      have q2 := hk 2
      have q3 := hk 3
      omega
theorem tr_del {bk b : Nat} {L : PL} {k w : Nat} (hs : pSort L) (h : lkp L k = some w) : (tr bk b 0 0 (pdel L k)).length ≤ (tr bk b 0 0 L).length := by
  rw [tr_perm bk b 0 0 L _ (pdel_perm hs h)]
  exact tr_mono _ _ _ _ _ _ (by simp)
theorem tr_rep {bk b : Nat} {L : PL} {k v w : Nat} (hs : pSort L) (h : lkp L k = some w) : (tr bk b 0 0 (pput L k v)).length ≤ (tr bk b 0 0 L).length := by
  rw [tr_perm bk b 0 0 L _ (pdel_perm hs h), tr_perm bk b 0 0 _ _ (pput_permO (v := v) hs h)]
  exact tr_mono _ _ _ _ _ _ (by simp)
theorem tr_nil {bk b bl : Nat} (h : 1 ≤ bl) : (tr bk b 0 0 []).length ≤ bl := by
  have e : (tr bk b 0 0 []).length = 1 := by
    cases b with
    | zero => rfl
    | succ b =>
      unfold tr
      rw [if_pos (by simp)]; rfl
  omega
theorem ins_of {sp bk b bl nc : Nat} {P P2 : PL} {D : List Op} {x y v r : Int32} (hs : pSort P) (h : (r, P2, D) = insF sp bk b bl P nc x y v) (hf : (tr bk b 0 0 P).length ≤ bl) : apL P D = P2 ∧ (tr bk b 0 0 P2).length ≤ bl ∧ (D = [] ∨ ∃ k u, D = [some (k, some u)]) ∧ ∃ k, ∀ K, opsIn (k :: K) D := by
  unfold insF at h
  by_cases h1 : onp x y sp ∧ ¬ v < 0
  · rw [cif_pos h1] at h
    by_cases h2 : 60 ≤ nc
    · rw [cif_pos h2] at h
      cases h
      exact ⟨rfl, hf, Or.inl rfl, 0, fun K => oi_nil⟩
    · rw [cif_neg h2] at h
      by_cases h3 : lkp P (kOf x y) = none
      · rw [cif_pos h3] at h
        by_cases h4 : bl < (tr bk b 0 0 (pput P (kOf x y) v.toNatClampNeg)).length
        · rw [cif_pos h4] at h
          cases h
          exact ⟨rfl, hf, Or.inl rfl, 0, fun K => oi_nil⟩
        · rw [cif_neg h4] at h
          cases h
          exact ⟨rfl, by omega, Or.inr ⟨_, _, rfl⟩, _, fun K => oi_one⟩
      · rw [cif_neg h3] at h
        cases h
        obtain ⟨u, hu⟩ := Option.ne_none_iff_exists'.mp h3
        exact ⟨rfl, Nat.le_trans (tr_rep hs hu) hf, Or.inr ⟨_, _, rfl⟩, _, fun K => oi_one⟩
  · rw [cif_neg h1] at h
    cases h
    exact ⟨rfl, hf, Or.inl rfl, 0, fun K => oi_nil⟩
theorem del_of {sp nc bk b bl : Nat} {P P2 : PL} {D : List Op} {x y r : Int32} (hs : pSort P) (h : (r, P2, D) = delF sp P nc x y) (hf : (tr bk b 0 0 P).length ≤ bl) : apL P D = P2 ∧ (tr bk b 0 0 P2).length ≤ bl ∧ ∀ K, opsIn K D := by
  unfold delF at h
  by_cases h1 : onp x y sp
  · rw [cif_pos h1] at h
    by_cases h3 : lkp P (kOf x y) = none
    · rw [cif_pos h3] at h
      cases h
      exact ⟨rfl, hf, fun K => oi_nil⟩
    · rw [cif_neg h3] at h
      by_cases h2 : 60 ≤ nc
      · rw [cif_pos h2] at h
        cases h
        exact ⟨rfl, hf, fun K => oi_nil⟩
      · rw [cif_neg h2] at h
        cases h
        obtain ⟨u, hu⟩ := Option.ne_none_iff_exists'.mp h3
        exact ⟨rfl, Nat.le_trans (tr_del hs hu) hf, fun K => oi_del⟩
  · rw [cif_neg h1] at h
    cases h
    exact ⟨rfl, hf, fun K => oi_nil⟩
theorem arm_of {x n ct r c2 : Int32} {cp cp2 : Nat} (h : (r, c2, cp2) = armF x n ct cp) (hc : cp ≤ 256) : cp2 ≤ 256 := by
  unfold armF at h
  by_cases h1 : x = nI 3
  · rw [cif_pos h1] at h
    cases h; exact hc
  · rw [cif_neg h1] at h
    by_cases h2 : ¬ x < 0 ∧ ¬ nI 2 < x ∧ ¬ n < 0 ∧ ¬ nI 256 < n
    · rw [cif_pos h2] at h
      obtain ⟨k, hk, e⟩ := p_le h2.2.2.1 h2.2.2.2
      cases h
      rw [e, nI_clamp (by omega)]
      exact hk
    · rw [cif_neg h2] at h
      cases h; exact hc
theorem fot_of (mo ow : Nat) (a : Int32) (h1 : 1 ≤ ow) (h2 : ow ≤ mo) (h3 : mo < 2 ^ 31) : ∃ k, fot mo a ow = nI k ∧ 1 ≤ k ∧ k ≤ mo := by
  unfold fot
  by_cases h : ¬ a < nI 1 ∧ ¬ nI mo < a
  · rw [if_pos h]
    have h0 : ¬ a < 0 := fun z => h.1 (Int32.lt_trans z (by decide))
    obtain ⟨k, hk, rfl⟩ := nI_of h0
    refine ⟨k, rfl, ?_, ?_⟩
    · rcases Nat.lt_or_ge k 1 with z | z
      · exact absurd (nI_lt z (by omega)) h.1
      · exact z
    · rcases Nat.lt_or_ge mo k with z | z
      · exact absurd (nI_lt z hk) h.2
      · exact z
  · rw [if_neg h]
    exact ⟨ow, rfl, h1, h2⟩
