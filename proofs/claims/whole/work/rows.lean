section
-- ===== PART A: goes FIRST, ahead of the names: the tables' words, and 'selects' of the private methods out of them =====
/-- a private method of a class that the tables say can be made, by its rows of tables_1 -/
def lw_okq (q : MethodName × Nat) : Prop := (q.1.cls ≠ "java/lang/invoke/MethodHandle" ∧ q.1.cls ≠ "java/lang/invoke/VarHandle") ∧ Cond.instantiable q.1.cls q.2 ∈ tables_1 ∧ Cond.privateMethod q.1 ∈ tables_1 ∧ Cond.instanceMethod q.1 ∈ tables_1
theorem lw_p0 : lw_okq (⟨"PointStore", "isOnPlane", "(II)Z"⟩, 12) := ⟨⟨by decide +kernel, by decide +kernel⟩, List.mem_of_getElem? (i := 11) (by decide +kernel), List.mem_of_getElem? (i := 189) (by decide +kernel), List.mem_of_getElem? (i := 190) (by decide +kernel)⟩
theorem lw_p1 : lw_okq (⟨"PointStore$Points", "placeOf", "(I)I"⟩, 4) := ⟨⟨by decide +kernel, by decide +kernel⟩, List.mem_of_getElem? (i := 22) (by decide +kernel), List.mem_of_getElem? (i := 204) (by decide +kernel), List.mem_of_getElem? (i := 205) (by decide +kernel)⟩
theorem lw_p2 : lw_okq (⟨"PointStore", "comesIn", "(II)Z"⟩, 12) := ⟨⟨by decide +kernel, by decide +kernel⟩, List.mem_of_getElem? (i := 11) (by decide +kernel), List.mem_of_getElem? (i := 224) (by decide +kernel), List.mem_of_getElem? (i := 225) (by decide +kernel)⟩
theorem lw_p3 : lw_okq (⟨"PointStore$Tree", "lowBitsOf", "(II)I"⟩, 9) := ⟨⟨by decide +kernel, by decide +kernel⟩, List.mem_of_getElem? (i := 69) (by decide +kernel), List.mem_of_getElem? (i := 239) (by decide +kernel), List.mem_of_getElem? (i := 240) (by decide +kernel)⟩
theorem lw_p4 : lw_okq (⟨"PointStore$Tree", "gather", "(IIIII)I"⟩, 9) := ⟨⟨by decide +kernel, by decide +kernel⟩, List.mem_of_getElem? (i := 69) (by decide +kernel), List.mem_of_getElem? (i := 244) (by decide +kernel), List.mem_of_getElem? (i := 245) (by decide +kernel)⟩
theorem lw_p5 : lw_okq (⟨"PointStore", "pointsOf", "(I)LPointStore$Points;"⟩, 12) := ⟨⟨by decide +kernel, by decide +kernel⟩, List.mem_of_getElem? (i := 11) (by decide +kernel), List.mem_of_getElem? (i := 274) (by decide +kernel), List.mem_of_getElem? (i := 275) (by decide +kernel)⟩
theorem lw_p6 : lw_okq (⟨"PointStore", "writeChanges", "()Z"⟩, 12) := ⟨⟨by decide +kernel, by decide +kernel⟩, List.mem_of_getElem? (i := 11) (by decide +kernel), List.mem_of_getElem? (i := 334) (by decide +kernel), List.mem_of_getElem? (i := 335) (by decide +kernel)⟩
theorem lw_p7 : lw_okq (⟨"PointStore", "losePower", "()V"⟩, 12) := ⟨⟨by decide +kernel, by decide +kernel⟩, List.mem_of_getElem? (i := 11) (by decide +kernel), List.mem_of_getElem? (i := 343) (by decide +kernel), List.mem_of_getElem? (i := 344) (by decide +kernel)⟩
theorem lw_p8 : lw_okq (⟨"PointStore$Disk", "writeAtHome", "(II)V"⟩, 4) := ⟨⟨by decide +kernel, by decide +kernel⟩, List.mem_of_getElem? (i := 49) (by decide +kernel), List.mem_of_getElem? (i := 363) (by decide +kernel), List.mem_of_getElem? (i := 364) (by decide +kernel)⟩
theorem lw_p9 : lw_okq (⟨"PointStore", "treeOf", "(I)LPointStore$Tree;"⟩, 12) := ⟨⟨by decide +kernel, by decide +kernel⟩, List.mem_of_getElem? (i := 11) (by decide +kernel), List.mem_of_getElem? (i := 398) (by decide +kernel), List.mem_of_getElem? (i := 399) (by decide +kernel)⟩
theorem lw_p10 : lw_okq (⟨"PointStoreModel", "begins", "()V"⟩, 25) := ⟨⟨by decide +kernel, by decide +kernel⟩, List.mem_of_getElem? (i := 413) (by decide +kernel), List.mem_of_getElem? (i := 502) (by decide +kernel), List.mem_of_getElem? (i := 503) (by decide +kernel)⟩
theorem lw_p11 : lw_okq (⟨"PointStoreModel", "comes", "(I)Z"⟩, 25) := ⟨⟨by decide +kernel, by decide +kernel⟩, List.mem_of_getElem? (i := 413) (by decide +kernel), List.mem_of_getElem? (i := 506) (by decide +kernel), List.mem_of_getElem? (i := 507) (by decide +kernel)⟩
theorem lw_p12 : lw_okq (⟨"PointStoreModel", "below", "(IJ)I"⟩, 25) := ⟨⟨by decide +kernel, by decide +kernel⟩, List.mem_of_getElem? (i := 413) (by decide +kernel), List.mem_of_getElem? (i := 510) (by decide +kernel), List.mem_of_getElem? (i := 511) (by decide +kernel)⟩
theorem lw_p13 : lw_okq (⟨"PointStoreModel", "next", "()J"⟩, 25) := ⟨⟨by decide +kernel, by decide +kernel⟩, List.mem_of_getElem? (i := 413) (by decide +kernel), List.mem_of_getElem? (i := 514) (by decide +kernel), List.mem_of_getElem? (i := 515) (by decide +kernel)⟩
theorem lw_p14 : lw_okq (⟨"PointStoreModel", "part", "(II)I"⟩, 25) := ⟨⟨by decide +kernel, by decide +kernel⟩, List.mem_of_getElem? (i := 413) (by decide +kernel), List.mem_of_getElem? (i := 518) (by decide +kernel), List.mem_of_getElem? (i := 519) (by decide +kernel)⟩
theorem lw_p15 : lw_okq (⟨"PointStoreModel", "isInside", "(II)Z"⟩, 25) := ⟨⟨by decide +kernel, by decide +kernel⟩, List.mem_of_getElem? (i := 413) (by decide +kernel), List.mem_of_getElem? (i := 527) (by decide +kernel), List.mem_of_getElem? (i := 528) (by decide +kernel)⟩
def lw_privs_1 : List (MethodName × Nat) := [(⟨"PointStore", "isOnPlane", "(II)Z"⟩, 12), (⟨"PointStore$Points", "placeOf", "(I)I"⟩, 4), (⟨"PointStore", "comesIn", "(II)Z"⟩, 12), (⟨"PointStore$Tree", "lowBitsOf", "(II)I"⟩, 9), (⟨"PointStore$Tree", "gather", "(IIIII)I"⟩, 9), (⟨"PointStore", "pointsOf", "(I)LPointStore$Points;"⟩, 12), (⟨"PointStore", "writeChanges", "()Z"⟩, 12), (⟨"PointStore", "losePower", "()V"⟩, 12), (⟨"PointStore$Disk", "writeAtHome", "(II)V"⟩, 4), (⟨"PointStore", "treeOf", "(I)LPointStore$Tree;"⟩, 12), (⟨"PointStoreModel", "begins", "()V"⟩, 25), (⟨"PointStoreModel", "comes", "(I)Z"⟩, 25), (⟨"PointStoreModel", "below", "(IJ)I"⟩, 25), (⟨"PointStoreModel", "next", "()J"⟩, 25), (⟨"PointStoreModel", "part", "(II)I"⟩, 25), (⟨"PointStoreModel", "isInside", "(II)Z"⟩, 25)]
theorem lw_r1 : ∀ q ∈ lw_privs_1, lw_okq q := List.forall_mem_cons.mpr ⟨lw_p0, List.forall_mem_cons.mpr ⟨lw_p1, List.forall_mem_cons.mpr ⟨lw_p2, List.forall_mem_cons.mpr ⟨lw_p3, List.forall_mem_cons.mpr ⟨lw_p4, List.forall_mem_cons.mpr ⟨lw_p5, List.forall_mem_cons.mpr ⟨lw_p6, List.forall_mem_cons.mpr ⟨lw_p7, List.forall_mem_cons.mpr ⟨lw_p8, List.forall_mem_cons.mpr ⟨lw_p9, List.forall_mem_cons.mpr ⟨lw_p10, List.forall_mem_cons.mpr ⟨lw_p11, List.forall_mem_cons.mpr ⟨lw_p12, List.forall_mem_cons.mpr ⟨lw_p13, List.forall_mem_cons.mpr ⟨lw_p14, List.forall_mem_cons.mpr ⟨lw_p15, fun _ h => absurd h List.not_mem_nil⟩⟩⟩⟩⟩⟩⟩⟩⟩⟩⟩⟩⟩⟩⟩⟩
theorem lw_p16 : lw_okq (⟨"PointStoreModel", "placeOf", "(III)I"⟩, 25) := ⟨⟨by decide +kernel, by decide +kernel⟩, List.mem_of_getElem? (i := 413) (by decide +kernel), List.mem_of_getElem? (i := 531) (by decide +kernel), List.mem_of_getElem? (i := 532) (by decide +kernel)⟩
theorem lw_p17 : lw_okq (⟨"PointStoreModel", "isAt", "(IIII)Z"⟩, 25) := ⟨⟨by decide +kernel, by decide +kernel⟩, List.mem_of_getElem? (i := 413) (by decide +kernel), List.mem_of_getElem? (i := 535) (by decide +kernel), List.mem_of_getElem? (i := 536) (by decide +kernel)⟩
theorem lw_p18 : lw_okq (⟨"PointStoreModel", "codeOf", "(II)J"⟩, 25) := ⟨⟨by decide +kernel, by decide +kernel⟩, List.mem_of_getElem? (i := 413) (by decide +kernel), List.mem_of_getElem? (i := 539) (by decide +kernel), List.mem_of_getElem? (i := 540) (by decide +kernel)⟩
theorem lw_p19 : lw_okq (⟨"PointStoreModel", "puts", "(IIII)V"⟩, 25) := ⟨⟨by decide +kernel, by decide +kernel⟩, List.mem_of_getElem? (i := 413) (by decide +kernel), List.mem_of_getElem? (i := 543) (by decide +kernel), List.mem_of_getElem? (i := 544) (by decide +kernel)⟩
theorem lw_p20 : lw_okq (⟨"PointStoreModel", "nodes", "(I)I"⟩, 25) := ⟨⟨by decide +kernel, by decide +kernel⟩, List.mem_of_getElem? (i := 413) (by decide +kernel), List.mem_of_getElem? (i := 547) (by decide +kernel), List.mem_of_getElem? (i := 548) (by decide +kernel)⟩
theorem lw_p21 : lw_okq (⟨"PointStoreModel", "takes", "(I)V"⟩, 25) := ⟨⟨by decide +kernel, by decide +kernel⟩, List.mem_of_getElem? (i := 413) (by decide +kernel), List.mem_of_getElem? (i := 551) (by decide +kernel), List.mem_of_getElem? (i := 552) (by decide +kernel)⟩
theorem lw_p22 : lw_okq (⟨"PointStoreModel", "tells", "(IIII)V"⟩, 25) := ⟨⟨by decide +kernel, by decide +kernel⟩, List.mem_of_getElem? (i := 413) (by decide +kernel), List.mem_of_getElem? (i := 567) (by decide +kernel), List.mem_of_getElem? (i := 568) (by decide +kernel)⟩
theorem lw_p23 : lw_okq (⟨"PointStoreModel", "becomes", "(II)V"⟩, 25) := ⟨⟨by decide +kernel, by decide +kernel⟩, List.mem_of_getElem? (i := 413) (by decide +kernel), List.mem_of_getElem? (i := 596) (by decide +kernel), List.mem_of_getElem? (i := 597) (by decide +kernel)⟩
theorem lw_p24 : lw_okq (⟨"PointStoreModel", "goes", "()I"⟩, 25) := ⟨⟨by decide +kernel, by decide +kernel⟩, List.mem_of_getElem? (i := 413) (by decide +kernel), List.mem_of_getElem? (i := 600) (by decide +kernel), List.mem_of_getElem? (i := 601) (by decide +kernel)⟩
theorem lw_p25 : lw_okq (⟨"PointStoreModel", "depth", "()I"⟩, 25) := ⟨⟨by decide +kernel, by decide +kernel⟩, List.mem_of_getElem? (i := 413) (by decide +kernel), List.mem_of_getElem? (i := 624) (by decide +kernel), List.mem_of_getElem? (i := 625) (by decide +kernel)⟩
def lw_privs_2 : List (MethodName × Nat) := [(⟨"PointStoreModel", "placeOf", "(III)I"⟩, 25), (⟨"PointStoreModel", "isAt", "(IIII)Z"⟩, 25), (⟨"PointStoreModel", "codeOf", "(II)J"⟩, 25), (⟨"PointStoreModel", "puts", "(IIII)V"⟩, 25), (⟨"PointStoreModel", "nodes", "(I)I"⟩, 25), (⟨"PointStoreModel", "takes", "(I)V"⟩, 25), (⟨"PointStoreModel", "tells", "(IIII)V"⟩, 25), (⟨"PointStoreModel", "becomes", "(II)V"⟩, 25), (⟨"PointStoreModel", "goes", "()I"⟩, 25), (⟨"PointStoreModel", "depth", "()I"⟩, 25)]
theorem lw_r2 : ∀ q ∈ lw_privs_2, lw_okq q := List.forall_mem_cons.mpr ⟨lw_p16, List.forall_mem_cons.mpr ⟨lw_p17, List.forall_mem_cons.mpr ⟨lw_p18, List.forall_mem_cons.mpr ⟨lw_p19, List.forall_mem_cons.mpr ⟨lw_p20, List.forall_mem_cons.mpr ⟨lw_p21, List.forall_mem_cons.mpr ⟨lw_p22, List.forall_mem_cons.mpr ⟨lw_p23, List.forall_mem_cons.mpr ⟨lw_p24, List.forall_mem_cons.mpr ⟨lw_p25, fun _ h => absurd h List.not_mem_nil⟩⟩⟩⟩⟩⟩⟩⟩⟩⟩
def lw_privs : List (MethodName × Nat) := lw_privs_1 ++ (lw_privs_2)
def lw_tbl : List Cond := k2_sels lw_privs ++ tables_1
theorem lw_privs_ok : ∀ q ∈ lw_privs, lw_okq q := by
  show ∀ q ∈ lw_privs_1 ++ (lw_privs_2), lw_okq q
  exact List.forall_mem_append.mpr ⟨lw_r1, lw_r2⟩
end
section
/-! ===== BEGIN words of one list among another's, by their places ===== -/
theorem goodIn_r {big : List Cond} (ws : List Cond) (ps : List Nat) (hp : ws = ps.filterMap (fun i => big[i]?)) (h : ws.all goodWord = true) : GoodIn big ws := by
  intro w hw
  have h1 := List.all_eq_true.mp h w hw
  rw [hp] at hw
  obtain ⟨i, -, hi⟩ := List.mem_filterMap.mp hw
  have hm : w ∈ big := by first | exact List.mem_of_getElem? hi | exact List.getElem?_mem hi
  exact ⟨hm, good_of_word h1⟩
theorem goodIn_app {big a b : List Cond} (ha : GoodIn big a) (hb : GoodIn big b) : GoodIn big (a ++ b) := fun w h => (List.mem_append.mp h).elim (ha w) (hb w)
theorem goodIn_ca {big a b : List Cond} {c : Cond} (ha : GoodIn big (c :: a)) (hb : GoodIn big b) : GoodIn big (c :: (a ++ b)) := fun w h => (List.mem_cons.mp h).elim (fun e => ha w (List.mem_cons.mpr (Or.inl e))) (fun h => (List.mem_append.mp h).elim (fun h => ha w (List.mem_cons.mpr (Or.inr h))) (hb w))
theorem goodIn_sub {big ws : List Cond} (hm : ∀ w ∈ ws, w ∈ big) (h : ws.all goodWord = true) : GoodIn big ws := fun w hw => ⟨hm w hw, good_of_word (List.all_eq_true.mp h w hw)⟩
/-! ===== END ===== -/

/-! ===== BEGIN printed: names, fields, word lists, decode rows ===== -/
def RX0 : String := "PointStore$Changes"
def TX0 : u_T := fun k => match k with
  | 0 => ("PointStore$Changes", "keys", "[I", true)
  | 1 => ("PointStore$Changes", "values", "[I", true)
  | _ => ("PointStore$Changes", "total", "I", false)
def tyX0 : Nat → FieldType := fun k => match k with
  | 0 => .array .int
  | 1 => .array .int
  | _ => .int
abbrev wsX00 : List Cond := u_ws RX0 TX0 3
theorem nmX0 : ∀ a, a < 3 → ∀ b, b < 3 → a ≠ b → (TX0 a).2.1 ≠ (TX0 b).2.1 := by decide +kernel
theorem tyX0_ok : ∀ k, k < 3 → parseFieldDescriptor (TX0 k).2.2.1 = some (tyX0 k) := by decide +kernel
abbrev cX0_init : ByteArray := prog_2_method_1_code
def yX0_init : MethodName := ⟨RX0, "<init>", "()V"⟩
abbrev cX0_isFull : ByteArray := prog_2_method_2_code
def yX0_isFull : MethodName := ⟨RX0, "isFull", "()Z"⟩
abbrev cX0_add : ByteArray := prog_2_method_3_code
def yX0_add : MethodName := ⟨RX0, "add", "(II)V"⟩
abbrev cX0_clear : ByteArray := prog_2_method_4_code
def yX0_clear : MethodName := ⟨RX0, "clear", "()V"⟩
def RX1 : String := "PointStore$Disk"
def TX1 : u_T := fun k => match k with
  | 0 => ("PointStore$Disk", "home", "LPointStore$Points;", true)
  | 1 => ("PointStore$Disk", "logKeys", "[I", true)
  | 2 => ("PointStore$Disk", "logValues", "[I", true)
  | _ => ("PointStore$Disk", "sealed", "I", false)
def tyX1 : Nat → FieldType := fun k => match k with
  | 0 => .object "PointStore$Points"
  | 1 => .array .int
  | 2 => .array .int
  | _ => .int
abbrev wsX10 : List Cond := u_ws RX1 TX1 4
theorem nmX1 : ∀ a, a < 4 → ∀ b, b < 4 → a ≠ b → (TX1 a).2.1 ≠ (TX1 b).2.1 := by decide +kernel
theorem tyX1_ok : ∀ k, k < 4 → parseFieldDescriptor (TX1 k).2.2.1 = some (tyX1 k) := by decide +kernel
abbrev cX1_init : ByteArray := prog_3_method_1_code
def yX1_init : MethodName := ⟨RX1, "<init>", "(LPointStore$Points;)V"⟩
abbrev cX1_writeLog : ByteArray := prog_3_method_2_code
def yX1_writeLog : MethodName := ⟨RX1, "writeLog", "(LPointStore$Changes;I)V"⟩
abbrev cX1_seal : ByteArray := prog_3_method_3_code
def yX1_seal : MethodName := ⟨RX1, "seal", "(I)V"⟩
abbrev cX1_writeHome : ByteArray := prog_3_method_4_code
def yX1_writeHome : MethodName := ⟨RX1, "writeHome", "(I)V"⟩
abbrev cX1_end : ByteArray := prog_3_method_5_code
def yX1_end : MethodName := ⟨RX1, "end", "()V"⟩
abbrev cX1_writeAtHome : ByteArray := prog_3_method_6_code
def yX1_writeAtHome : MethodName := ⟨RX1, "writeAtHome", "(II)V"⟩
def RX2 : String := "PointStore$Points"
def TX2 : u_T := fun k => match k with
  | 0 => ("PointStore$Points", "keys", "[I", true)
  | 1 => ("PointStore$Points", "values", "[I", true)
  | 2 => ("PointStore$Points", "total", "I", false)
  | _ => ("PointStore$Points", "version", "I", false)
def tyX2 : Nat → FieldType := fun k => match k with
  | 0 => .array .int
  | 1 => .array .int
  | 2 => .int
  | _ => .int
abbrev wsX20 : List Cond := u_ws RX2 TX2 4
theorem nmX2 : ∀ a, a < 4 → ∀ b, b < 4 → a ≠ b → (TX2 a).2.1 ≠ (TX2 b).2.1 := by decide +kernel
theorem tyX2_ok : ∀ k, k < 4 → parseFieldDescriptor (TX2 k).2.2.1 = some (tyX2 k) := by decide +kernel
abbrev cX2_init : ByteArray := prog_4_method_1_code
def yX2_init : MethodName := ⟨RX2, "<init>", "()V"⟩
abbrev cX2_isFull : ByteArray := prog_4_method_2_code
def yX2_isFull : MethodName := ⟨RX2, "isFull", "()Z"⟩
abbrev cX2_keyAt : ByteArray := prog_4_method_3_code
def yX2_keyAt : MethodName := ⟨RX2, "keyAt", "(I)I"⟩
abbrev cX2_valueOf : ByteArray := prog_4_method_4_code
def yX2_valueOf : MethodName := ⟨RX2, "valueOf", "(I)I"⟩
abbrev cX2_put : ByteArray := prog_4_method_5_code
def yX2_put : MethodName := ⟨RX2, "put", "(II)V"⟩
abbrev cX2_takeOut : ByteArray := prog_4_method_6_code
def yX2_takeOut : MethodName := ⟨RX2, "takeOut", "(I)V"⟩
abbrev cX2_clear : ByteArray := prog_4_method_7_code
def yX2_clear : MethodName := ⟨RX2, "clear", "()V"⟩
abbrev cX2_copyFrom : ByteArray := prog_4_method_8_code
def yX2_copyFrom : MethodName := ⟨RX2, "copyFrom", "(LPointStore$Points;)V"⟩
abbrev cX2_placeOf : ByteArray := prog_4_method_9_code
def yX2_placeOf : MethodName := ⟨RX2, "placeOf", "(I)I"⟩
def RX3 : String := "PointStore$Results"
def TX3 : u_T := fun k => match k with
  | 0 => ("PointStore$Results", "keys", "[I", true)
  | 1 => ("PointStore$Results", "values", "[I", true)
  | 2 => ("PointStore$Results", "distances", "[J", true)
  | _ => ("PointStore$Results", "total", "I", false)
def tyX3 : Nat → FieldType := fun k => match k with
  | 0 => .array .int
  | 1 => .array .int
  | 2 => .array .long
  | _ => .int
abbrev wsX30 : List Cond := u_ws RX3 TX3 4
theorem nmX3 : ∀ a, a < 4 → ∀ b, b < 4 → a ≠ b → (TX3 a).2.1 ≠ (TX3 b).2.1 := by decide +kernel
theorem tyX3_ok : ∀ k, k < 4 → parseFieldDescriptor (TX3 k).2.2.1 = some (tyX3 k) := by decide +kernel
abbrev cX3_init : ByteArray := prog_5_method_1_code
def yX3_init : MethodName := ⟨RX3, "<init>", "()V"⟩
abbrev cX3_clear : ByteArray := prog_5_method_2_code
def yX3_clear : MethodName := ⟨RX3, "clear", "()V"⟩
abbrev cX3_add : ByteArray := prog_5_method_3_code
def yX3_add : MethodName := ⟨RX3, "add", "(II)V"⟩
abbrev cX3_addByDistance : ByteArray := prog_5_method_4_code
def yX3_addByDistance : MethodName := ⟨RX3, "addByDistance", "(IIJI)V"⟩
def RX4 : String := "PointStore$Tree"
def TX4 : u_T := fun k => match k with
  | 0 => ("PointStore$Tree", "points", "LPointStore$Points;", true)
  | 1 => ("PointStore$Tree", "bucket", "I", true)
  | 2 => ("PointStore$Tree", "bits", "I", true)
  | 3 => ("PointStore$Tree", "mostNodes", "I", true)
  | 4 => ("PointStore$Tree", "facts", "[I", true)
  | 5 => ("PointStore$Tree", "order", "[I", true)
  | 6 => ("PointStore$Tree", "nodes", "I", false)
  | 7 => ("PointStore$Tree", "depth", "I", false)
  | _ => ("PointStore$Tree", "madeOf", "I", false)
def tyX4 : Nat → FieldType := fun k => match k with
  | 0 => .object "PointStore$Points"
  | 1 => .int
  | 2 => .int
  | 3 => .int
  | 4 => .array .int
  | 5 => .array .int
  | 6 => .int
  | 7 => .int
  | _ => .int
abbrev wsX40 : List Cond := u_ws RX4 TX4 9
theorem nmX4 : ∀ a, a < 9 → ∀ b, b < 9 → a ≠ b → (TX4 a).2.1 ≠ (TX4 b).2.1 := by decide +kernel
theorem tyX4_ok : ∀ k, k < 9 → parseFieldDescriptor (TX4 k).2.2.1 = some (tyX4 k) := by decide +kernel
abbrev cX4_init : ByteArray := prog_6_method_1_code
def yX4_init : MethodName := ⟨RX4, "<init>", "(LPointStore$Points;III)V"⟩
abbrev cX4_upToDate : ByteArray := prog_6_method_2_code
def yX4_upToDate : MethodName := ⟨RX4, "upToDate", "()LPointStore$Tree;"⟩
abbrev cX4_factOf : ByteArray := prog_6_method_3_code
def yX4_factOf : MethodName := ⟨RX4, "factOf", "(II)I"⟩
abbrev cX4_grow : ByteArray := prog_6_method_4_code
def yX4_grow : MethodName := ⟨RX4, "grow", "(LPointStore$Tree;IIIII)V"⟩
abbrev cX4_gather : ByteArray := prog_6_method_5_code
def yX4_gather : MethodName := ⟨RX4, "gather", "(IIIII)I"⟩
abbrev cX4_lowBitsOf : ByteArray := prog_6_method_6_code
def yX4_lowBitsOf : MethodName := ⟨RX4, "lowBitsOf", "(II)I"⟩
def RX5 : String := "PointStore"
def TX5 : u_T := fun k => match k with
  | 0 => ("PointStore", "blocks", "I", true)
  | 1 => ("PointStore", "bucket", "I", true)
  | 2 => ("PointStore", "span", "I", true)
  | 3 => ("PointStore", "disk", "LPointStore$Disk;", true)
  | 4 => ("PointStore", "pending", "LPointStore$Points;", true)
  | 5 => ("PointStore", "pendingTree", "LPointStore$Tree;", true)
  | 6 => ("PointStore", "committedTree", "LPointStore$Tree;", true)
  | 7 => ("PointStore", "changes", "LPointStore$Changes;", true)
  | 8 => ("PointStore", "results", "LPointStore$Results;", true)
  | 9 => ("PointStore", "powered", "Z", false)
  | 10 => ("PointStore", "cut", "I", false)
  | _ => ("PointStore", "cutParts", "I", false)
def tyX5 : Nat → FieldType := fun k => match k with
  | 0 => .int
  | 1 => .int
  | 2 => .int
  | 3 => .object "PointStore$Disk"
  | 4 => .object "PointStore$Points"
  | 5 => .object "PointStore$Tree"
  | 6 => .object "PointStore$Tree"
  | 7 => .object "PointStore$Changes"
  | 8 => .object "PointStore$Results"
  | 9 => .boolean
  | 10 => .int
  | _ => .int
abbrev wsX50 : List Cond := u_ws RX5 TX5 12
theorem nmX5 : ∀ a, a < 12 → ∀ b, b < 12 → a ≠ b → (TX5 a).2.1 ≠ (TX5 b).2.1 := by decide +kernel
theorem tyX5_ok : ∀ k, k < 12 → parseFieldDescriptor (TX5 k).2.2.1 = some (tyX5 k) := by decide +kernel
abbrev cX5_init : ByteArray := prog_1_method_1_code
def yX5_init : MethodName := ⟨RX5, "<init>", "(III)V"⟩
abbrev cX5_insert : ByteArray := prog_1_method_2_code
def yX5_insert : MethodName := ⟨RX5, "insert", "(III)I"⟩
abbrev cX5_delete : ByteArray := prog_1_method_3_code
def yX5_delete : MethodName := ⟨RX5, "delete", "(II)I"⟩
abbrev cX5_get : ByteArray := prog_1_method_4_code
def yX5_get : MethodName := ⟨RX5, "get", "(III)I"⟩
abbrev cX5_window : ByteArray := prog_1_method_5_code
def yX5_window : MethodName := ⟨RX5, "window", "(IIIII)I"⟩
abbrev cX5_nearest : ByteArray := prog_1_method_6_code
def yX5_nearest : MethodName := ⟨RX5, "nearest", "(IIII)I"⟩
abbrev cX5_differs : ByteArray := prog_1_method_7_code
def yX5_differs : MethodName := ⟨RX5, "differs", "()I"⟩
abbrev cX5_result : ByteArray := prog_1_method_8_code
def yX5_result : MethodName := ⟨RX5, "result", "(II)I"⟩
abbrev cX5_size : ByteArray := prog_1_method_9_code
def yX5_size : MethodName := ⟨RX5, "size", "()I"⟩
abbrev cX5_sum : ByteArray := prog_1_method_10_code
def yX5_sum : MethodName := ⟨RX5, "sum", "(IIIII)J"⟩
abbrev cX5_commit : ByteArray := prog_1_method_11_code
def yX5_commit : MethodName := ⟨RX5, "commit", "()I"⟩
abbrev cX5_abort : ByteArray := prog_1_method_12_code
def yX5_abort : MethodName := ⟨RX5, "abort", "()I"⟩
abbrev cX5_format : ByteArray := prog_1_method_13_code
def yX5_format : MethodName := ⟨RX5, "format", "()I"⟩
abbrev cX5_arm : ByteArray := prog_1_method_14_code
def yX5_arm : MethodName := ⟨RX5, "arm", "(II)Z"⟩
abbrev cX5_recover : ByteArray := prog_1_method_15_code
def yX5_recover : MethodName := ⟨RX5, "recover", "()I"⟩
abbrev cX5_node : ByteArray := prog_1_method_16_code
def yX5_node : MethodName := ⟨RX5, "node", "(III)I"⟩
abbrev cX5_count : ByteArray := prog_1_method_17_code
def yX5_count : MethodName := ⟨RX5, "count", "(I)I"⟩
abbrev cX5_comesIn : ByteArray := prog_1_method_18_code
def yX5_comesIn : MethodName := ⟨RX5, "comesIn", "(II)Z"⟩
abbrev cX5_writeChanges : ByteArray := prog_1_method_19_code
def yX5_writeChanges : MethodName := ⟨RX5, "writeChanges", "()Z"⟩
abbrev cX5_losePower : ByteArray := prog_1_method_20_code
def yX5_losePower : MethodName := ⟨RX5, "losePower", "()V"⟩
abbrev cX5_pointsOf : ByteArray := prog_1_method_21_code
def yX5_pointsOf : MethodName := ⟨RX5, "pointsOf", "(I)LPointStore$Points;"⟩
abbrev cX5_treeOf : ByteArray := prog_1_method_22_code
def yX5_treeOf : MethodName := ⟨RX5, "treeOf", "(I)LPointStore$Tree;"⟩
abbrev cX5_isOnPlane : ByteArray := prog_1_method_23_code
def yX5_isOnPlane : MethodName := ⟨RX5, "isOnPlane", "(II)Z"⟩
abbrev cX5_isPlace : ByteArray := prog_1_method_24_code
def yX5_isPlace : MethodName := ⟨RX5, "isPlace", "(I)Z"⟩
abbrev cX5_fromOneTo : ByteArray := prog_1_method_25_code
def yX5_fromOneTo : MethodName := ⟨RX5, "fromOneTo", "(III)I"⟩
abbrev cX5_keyOf : ByteArray := prog_1_method_26_code
def yX5_keyOf : MethodName := ⟨RX5, "keyOf", "(II)I"⟩
abbrev cX5_xOf : ByteArray := prog_1_method_27_code
def yX5_xOf : MethodName := ⟨RX5, "xOf", "(I)I"⟩
abbrev cX5_yOf : ByteArray := prog_1_method_28_code
def yX5_yOf : MethodName := ⟨RX5, "yOf", "(I)I"⟩
abbrev cX5_isWithin : ByteArray := prog_1_method_29_code
def yX5_isWithin : MethodName := ⟨RX5, "isWithin", "(IIIII)Z"⟩
abbrev cX5_distance : ByteArray := prog_1_method_30_code
def yX5_distance : MethodName := ⟨RX5, "distance", "(III)J"⟩
def RX6 : String := "PointStoreModel"
def TX6 : u_T := fun k => match k with
  | 0 => ("PointStoreModel", "blocks", "I", true)
  | 1 => ("PointStoreModel", "bucket", "I", true)
  | 2 => ("PointStoreModel", "bits", "I", true)
  | 3 => ("PointStoreModel", "span", "I", true)
  | 4 => ("PointStoreModel", "many", "[I", true)
  | 5 => ("PointStoreModel", "xs", "[I", true)
  | 6 => ("PointStoreModel", "ys", "[I", true)
  | 7 => ("PointStoreModel", "values", "[I", true)
  | 8 => ("PointStoreModel", "codes", "[J", true)
  | 9 => ("PointStoreModel", "codeValues", "[I", true)
  | 10 => ("PointStoreModel", "changes", "I", false)
  | 11 => ("PointStoreModel", "isOff", "Z", false)
  | 12 => ("PointStoreModel", "armed", "I", false)
  | 13 => ("PointStoreModel", "waitLevel", "[I", true)
  | 14 => ("PointStoreModel", "waitCode", "[J", true)
  | 15 => ("PointStoreModel", "waits", "I", false)
  | 16 => ("PointStoreModel", "level", "I", false)
  | 17 => ("PointStoreModel", "first", "I", false)
  | 18 => ("PointStoreModel", "end", "I", false)
  | 19 => ("PointStoreModel", "code", "J", false)
  | 20 => ("PointStoreModel", "resultX", "[I", true)
  | 21 => ("PointStoreModel", "resultY", "[I", true)
  | 22 => ("PointStoreModel", "resultValue", "[I", true)
  | 23 => ("PointStoreModel", "far", "[J", true)
  | _ => ("PointStoreModel", "results", "I", false)
def tyX6 : Nat → FieldType := fun k => match k with
  | 0 => .int
  | 1 => .int
  | 2 => .int
  | 3 => .int
  | 4 => .array .int
  | 5 => .array .int
  | 6 => .array .int
  | 7 => .array .int
  | 8 => .array .long
  | 9 => .array .int
  | 10 => .int
  | 11 => .boolean
  | 12 => .int
  | 13 => .array .int
  | 14 => .array .long
  | 15 => .int
  | 16 => .int
  | 17 => .int
  | 18 => .int
  | 19 => .long
  | 20 => .array .int
  | 21 => .array .int
  | 22 => .array .int
  | 23 => .array .long
  | _ => .int
abbrev wsX60 : List Cond := u_ws RX6 TX6 25
theorem nmX6 : ∀ a, a < 25 → ∀ b, b < 25 → a ≠ b → (TX6 a).2.1 ≠ (TX6 b).2.1 := by decide +kernel
theorem tyX6_ok : ∀ k, k < 25 → parseFieldDescriptor (TX6 k).2.2.1 = some (tyX6 k) := by decide +kernel
abbrev cX6_init : ByteArray := prog_8_method_1_code
def yX6_init : MethodName := ⟨RX6, "<init>", "(III)V"⟩
abbrev cX6_isInside : ByteArray := prog_8_method_2_code
def yX6_isInside : MethodName := ⟨RX6, "isInside", "(II)Z"⟩
abbrev cX6_isState : ByteArray := prog_8_method_3_code
def yX6_isState : MethodName := ⟨RX6, "isState", "(I)Z"⟩
abbrev cX6_placeOf : ByteArray := prog_8_method_4_code
def yX6_placeOf : MethodName := ⟨RX6, "placeOf", "(III)I"⟩
abbrev cX6_isAt : ByteArray := prog_8_method_5_code
def yX6_isAt : MethodName := ⟨RX6, "isAt", "(IIII)Z"⟩
abbrev cX6_codeOf : ByteArray := prog_8_method_6_code
def yX6_codeOf : MethodName := ⟨RX6, "codeOf", "(II)J"⟩
abbrev cX6_below : ByteArray := prog_8_method_7_code
def yX6_below : MethodName := ⟨RX6, "below", "(IJ)I"⟩
abbrev cX6_puts : ByteArray := prog_8_method_8_code
def yX6_puts : MethodName := ⟨RX6, "puts", "(IIII)V"⟩
abbrev cX6_takes : ByteArray := prog_8_method_9_code
def yX6_takes : MethodName := ⟨RX6, "takes", "(I)V"⟩
abbrev cX6_becomes : ByteArray := prog_8_method_10_code
def yX6_becomes : MethodName := ⟨RX6, "becomes", "(II)V"⟩
abbrev cX6_begins : ByteArray := prog_8_method_11_code
def yX6_begins : MethodName := ⟨RX6, "begins", "()V"⟩
abbrev cX6_next : ByteArray := prog_8_method_12_code
def yX6_next : MethodName := ⟨RX6, "next", "()J"⟩
abbrev cX6_comes : ByteArray := prog_8_method_13_code
def yX6_comes : MethodName := ⟨RX6, "comes", "(I)Z"⟩
abbrev cX6_part : ByteArray := prog_8_method_14_code
def yX6_part : MethodName := ⟨RX6, "part", "(II)I"⟩
abbrev cX6_nodes : ByteArray := prog_8_method_15_code
def yX6_nodes : MethodName := ⟨RX6, "nodes", "(I)I"⟩
abbrev cX6_depth : ByteArray := prog_8_method_16_code
def yX6_depth : MethodName := ⟨RX6, "depth", "()I"⟩
abbrev cX6_node : ByteArray := prog_8_method_17_code
def yX6_node : MethodName := ⟨RX6, "node", "(III)I"⟩
abbrev cX6_insert : ByteArray := prog_8_method_18_code
def yX6_insert : MethodName := ⟨RX6, "insert", "(III)I"⟩
abbrev cX6_delete : ByteArray := prog_8_method_19_code
def yX6_delete : MethodName := ⟨RX6, "delete", "(II)I"⟩
abbrev cX6_get : ByteArray := prog_8_method_20_code
def yX6_get : MethodName := ⟨RX6, "get", "(III)I"⟩
abbrev cX6_tells : ByteArray := prog_8_method_21_code
def yX6_tells : MethodName := ⟨RX6, "tells", "(IIII)V"⟩
abbrev cX6_window : ByteArray := prog_8_method_22_code
def yX6_window : MethodName := ⟨RX6, "window", "(IIIII)I"⟩
abbrev cX6_sum : ByteArray := prog_8_method_23_code
def yX6_sum : MethodName := ⟨RX6, "sum", "(IIIII)J"⟩
abbrev cX6_nearest : ByteArray := prog_8_method_24_code
def yX6_nearest : MethodName := ⟨RX6, "nearest", "(IIII)I"⟩
abbrev cX6_differs : ByteArray := prog_8_method_25_code
def yX6_differs : MethodName := ⟨RX6, "differs", "()I"⟩
abbrev cX6_result : ByteArray := prog_8_method_26_code
def yX6_result : MethodName := ⟨RX6, "result", "(II)I"⟩
abbrev cX6_size : ByteArray := prog_8_method_27_code
def yX6_size : MethodName := ⟨RX6, "size", "()I"⟩
abbrev cX6_goes : ByteArray := prog_8_method_28_code
def yX6_goes : MethodName := ⟨RX6, "goes", "()I"⟩
abbrev cX6_commit : ByteArray := prog_8_method_29_code
def yX6_commit : MethodName := ⟨RX6, "commit", "()I"⟩
abbrev cX6_abort : ByteArray := prog_8_method_30_code
def yX6_abort : MethodName := ⟨RX6, "abort", "()I"⟩
abbrev cX6_format : ByteArray := prog_8_method_31_code
def yX6_format : MethodName := ⟨RX6, "format", "()I"⟩
abbrev cX6_arm : ByteArray := prog_8_method_32_code
def yX6_arm : MethodName := ⟨RX6, "arm", "(II)Z"⟩
abbrev cX6_recover : ByteArray := prog_8_method_33_code
def yX6_recover : MethodName := ⟨RX6, "recover", "()I"⟩
abbrev cX6_count : ByteArray := prog_8_method_34_code
def yX6_count : MethodName := ⟨RX6, "count", "(I)I"⟩
def RJ9 : String := "java/lang/Math"
def TJ9 : u_T := fun k => match k with
  | _ => ("", "", "", false)
def tyJ9 : Nat → FieldType := fun k => match k with
  | _ => .int
abbrev wsJ90 : List Cond := u_ws RJ9 TJ9 0
theorem nmJ9 : ∀ a, a < 0 → ∀ b, b < 0 → a ≠ b → (TJ9 a).2.1 ≠ (TJ9 b).2.1 := by decide +kernel
theorem tyJ9_ok : ∀ k, k < 0 → parseFieldDescriptor (TJ9 k).2.2.1 = some (tyJ9 k) := by decide +kernel
abbrev cJ9_max_7cf53 : ByteArray := prog_9_method_65_code
def yJ9_max_7cf53 : MethodName := ⟨RJ9, "max", "(II)I"⟩
abbrev cJ9_min_7cf53 : ByteArray := prog_9_method_69_code
def yJ9_min_7cf53 : MethodName := ⟨RJ9, "min", "(II)I"⟩
def RJ10 : String := "java/lang/System"
def TJ10 : u_T := fun k => match k with
  | _ => ("", "", "", false)
def tyJ10 : Nat → FieldType := fun k => match k with
  | _ => .int
abbrev wsJ100 : List Cond := u_ws RJ10 TJ10 0
theorem nmJ10 : ∀ a, a < 0 → ∀ b, b < 0 → a ≠ b → (TJ10 a).2.1 ≠ (TJ10 b).2.1 := by decide +kernel
theorem tyJ10_ok : ∀ k, k < 0 → parseFieldDescriptor (TJ10 k).2.2.1 = some (tyJ10 k) := by decide +kernel
def RL : String := "PointStoreLaw"
abbrev cL_cell : ByteArray := method_2_code
def yL_cell : MethodName := ⟨RL, "cell", "([II)I"⟩
abbrev cL_law : ByteArray := code
def yL_law : MethodName := ⟨RL, "law", "([I)Z"⟩
def wsX0_init : List Cond := .code yX0_init cX0_init 1 none :: ([.methodLink RX0 3 objectInit, .instanceMethod objectInit, .code objectInit ⟨#[0xb1]⟩ 1 none, .arrayClass .int, .fieldLink RX0 9 "PointStore$Changes" "keys" "[I", .fieldLink RX0 15 "PointStore$Changes" "values" "[I", .fieldLink RX0 18 "PointStore$Changes" "total" "I"] ++ wsX00)
def wsX0_isFull : List Cond := .code yX0_isFull cX0_isFull 1 (some .boolean) :: ([.fieldLink RX0 18 "PointStore$Changes" "total" "I"] ++ wsX00)
def wsX0_add : List Cond := .code yX0_add cX0_add 3 none :: ([.fieldLink RX0 9 "PointStore$Changes" "keys" "[I", .fieldLink RX0 18 "PointStore$Changes" "total" "I", .fieldLink RX0 15 "PointStore$Changes" "values" "[I", .methodLink RX0 22 yX0_isFull, .instanceMethod yX0_isFull, .selects RX0 yX0_isFull yX0_isFull, .initialized RX0, .code yX0_isFull cX0_isFull 1 (some .boolean)] ++ wsX00)
def wsX0_clear : List Cond := .code yX0_clear cX0_clear 1 none :: ([.fieldLink RX0 18 "PointStore$Changes" "total" "I"] ++ wsX00)
def wsX1_init : List Cond := .code yX1_init cX1_init 2 none :: ([.methodLink RX1 3 objectInit, .instanceMethod objectInit, .code objectInit ⟨#[0xb1]⟩ 1 none, .arrayClass .int, .fieldLink RX1 9 "PointStore$Disk" "logKeys" "[I", .fieldLink RX1 15 "PointStore$Disk" "logValues" "[I", .fieldLink RX1 18 "PointStore$Disk" "sealed" "I", .fieldLink RX1 22 "PointStore$Disk" "home" "LPointStore$Points;"] ++ wsX10)
def wsX1_writeLog : List Cond := .code yX1_writeLog cX1_writeLog 4 none :: ([.fieldLink RX1 26 "PointStore$Changes" "total" "I", .fieldLink RX1 31 "PointStore$Changes" "keys" "[I", .fieldLink RX1 9 "PointStore$Disk" "logKeys" "[I", .methodLink RX1 34 arraycopyName, .native arraycopyName, .static arraycopyName, .initialized "java/lang/System", .fieldLink RX1 40 "PointStore$Changes" "values" "[I", .fieldLink RX1 15 "PointStore$Disk" "logValues" "[I"] ++ wsX00 ++ wsX10)
def wsX1_seal : List Cond := .code yX1_seal cX1_seal 2 none :: ([.fieldLink RX1 18 "PointStore$Disk" "sealed" "I"] ++ wsX10)
def wsX2_clear : List Cond := .code yX2_clear cX2_clear 1 none :: ([.fieldLink RX2 18 "PointStore$Points" "total" "I", .fieldLink RX2 22 "PointStore$Points" "version" "I"] ++ wsX20)
def wsX2_placeOf : List Cond := .code yX2_placeOf cX2_placeOf 4 (some .int) :: ([.fieldLink RX2 18 "PointStore$Points" "total" "I", .fieldLink RX2 9 "PointStore$Points" "keys" "[I"] ++ wsX20)
def wsX2_keyAt : List Cond := .code yX2_keyAt cX2_keyAt 2 (some .int) :: ([.fieldLink RX2 18 "PointStore$Points" "total" "I", .fieldLink RX2 9 "PointStore$Points" "keys" "[I", .constant RX2 25 (1073741824)] ++ wsX20)
def wsX2_takeOut : List Cond := .code yX2_takeOut cX2_takeOut 3 none :: ([.fieldLink RX2 9 "PointStore$Points" "keys" "[I", .fieldLink RX2 18 "PointStore$Points" "total" "I", .methodLink RX2 37 arraycopyName, .native arraycopyName, .static arraycopyName, .initialized "java/lang/System", .fieldLink RX2 15 "PointStore$Points" "values" "[I", .fieldLink RX2 22 "PointStore$Points" "version" "I", .methodLink RX2 26 yX2_placeOf, .instanceMethod yX2_placeOf, .selects RX2 yX2_placeOf yX2_placeOf, .initialized RX2, .code yX2_placeOf cX2_placeOf 4 (some .int), .methodLink RX2 30 yX2_keyAt, .instanceMethod yX2_keyAt, .selects RX2 yX2_keyAt yX2_keyAt, .code yX2_keyAt cX2_keyAt 2 (some .int), .constant RX2 25 (1073741824)] ++ wsX20)
def wsX2_isFull : List Cond := .code yX2_isFull cX2_isFull 1 (some .boolean) :: ([.fieldLink RX2 18 "PointStore$Points" "total" "I"] ++ wsX20)
def wsX2_put : List Cond := .code yX2_put cX2_put 4 none :: ([.fieldLink RX2 9 "PointStore$Points" "keys" "[I", .fieldLink RX2 18 "PointStore$Points" "total" "I", .methodLink RX2 37 arraycopyName, .native arraycopyName, .static arraycopyName, .initialized "java/lang/System", .fieldLink RX2 15 "PointStore$Points" "values" "[I", .fieldLink RX2 22 "PointStore$Points" "version" "I", .methodLink RX2 26 yX2_placeOf, .instanceMethod yX2_placeOf, .selects RX2 yX2_placeOf yX2_placeOf, .initialized RX2, .code yX2_placeOf cX2_placeOf 4 (some .int), .methodLink RX2 30 yX2_keyAt, .instanceMethod yX2_keyAt, .selects RX2 yX2_keyAt yX2_keyAt, .code yX2_keyAt cX2_keyAt 2 (some .int), .constant RX2 25 (1073741824), .methodLink RX2 33 yX2_isFull, .instanceMethod yX2_isFull, .selects RX2 yX2_isFull yX2_isFull, .code yX2_isFull cX2_isFull 1 (some .boolean)] ++ wsX20)
def wsX1_writeAtHome_r1 : List Cond := [Cond.fieldLink RX1 22 "PointStore$Disk" "home" "LPointStore$Points;", Cond.methodLink RX1 47 yX2_clear, Cond.instanceMethod yX2_clear, Cond.selects RX2 yX2_clear yX2_clear, Cond.initialized RX2, Cond.code yX2_clear cX2_clear 1 none, Cond.fieldLink RX2 18 "PointStore$Points" "total" "I", Cond.fieldLink RX2 22 "PointStore$Points" "version" "I", Cond.methodLink RX1 52 yX2_takeOut, Cond.instanceMethod yX2_takeOut, Cond.selects RX2 yX2_takeOut yX2_takeOut, Cond.code yX2_takeOut cX2_takeOut 3 none, Cond.fieldLink RX2 9 "PointStore$Points" "keys" "[I", Cond.methodLink RX2 37 arraycopyName, Cond.native arraycopyName, Cond.static arraycopyName, Cond.initialized "java/lang/System", Cond.fieldLink RX2 15 "PointStore$Points" "values" "[I", Cond.methodLink RX2 26 yX2_placeOf, Cond.instanceMethod yX2_placeOf, Cond.selects RX2 yX2_placeOf yX2_placeOf, Cond.code yX2_placeOf cX2_placeOf 4 (some .int), Cond.methodLink RX2 30 yX2_keyAt, Cond.instanceMethod yX2_keyAt]
def wsX1_writeAtHome_r2 : List Cond := [Cond.selects RX2 yX2_keyAt yX2_keyAt, Cond.code yX2_keyAt cX2_keyAt 2 (some .int), Cond.constant RX2 25 (1073741824), Cond.methodLink RX1 56 yX2_put, Cond.instanceMethod yX2_put, Cond.selects RX2 yX2_put yX2_put, Cond.code yX2_put cX2_put 4 none, Cond.methodLink RX2 33 yX2_isFull, Cond.instanceMethod yX2_isFull, Cond.selects RX2 yX2_isFull yX2_isFull, Cond.code yX2_isFull cX2_isFull 1 (some .boolean)]
def wsX1_writeAtHome : List Cond := .code yX1_writeAtHome cX1_writeAtHome 3 none :: ((wsX1_writeAtHome_r1 ++ wsX1_writeAtHome_r2) ++ wsX10 ++ wsX20)
def wsX1_writeHome_r1 : List Cond := [Cond.fieldLink RX1 18 "PointStore$Disk" "sealed" "I", Cond.fieldLink RX1 9 "PointStore$Disk" "logKeys" "[I", Cond.fieldLink RX1 15 "PointStore$Disk" "logValues" "[I", Cond.methodLink RX1 43 yX1_writeAtHome, Cond.instanceMethod yX1_writeAtHome, Cond.selects RX1 yX1_writeAtHome yX1_writeAtHome, Cond.initialized RX1, Cond.code yX1_writeAtHome cX1_writeAtHome 3 none, Cond.fieldLink RX1 22 "PointStore$Disk" "home" "LPointStore$Points;", Cond.methodLink RX1 47 yX2_clear, Cond.instanceMethod yX2_clear, Cond.selects RX2 yX2_clear yX2_clear, Cond.initialized RX2, Cond.code yX2_clear cX2_clear 1 none, Cond.fieldLink RX2 18 "PointStore$Points" "total" "I", Cond.fieldLink RX2 22 "PointStore$Points" "version" "I", Cond.methodLink RX1 52 yX2_takeOut, Cond.instanceMethod yX2_takeOut, Cond.selects RX2 yX2_takeOut yX2_takeOut, Cond.code yX2_takeOut cX2_takeOut 3 none, Cond.fieldLink RX2 9 "PointStore$Points" "keys" "[I", Cond.methodLink RX2 37 arraycopyName, Cond.native arraycopyName, Cond.static arraycopyName]
def wsX1_writeHome_r2 : List Cond := [Cond.initialized "java/lang/System", Cond.fieldLink RX2 15 "PointStore$Points" "values" "[I", Cond.methodLink RX2 26 yX2_placeOf, Cond.instanceMethod yX2_placeOf, Cond.selects RX2 yX2_placeOf yX2_placeOf, Cond.code yX2_placeOf cX2_placeOf 4 (some .int), Cond.methodLink RX2 30 yX2_keyAt, Cond.instanceMethod yX2_keyAt, Cond.selects RX2 yX2_keyAt yX2_keyAt, Cond.code yX2_keyAt cX2_keyAt 2 (some .int), Cond.constant RX2 25 (1073741824), Cond.methodLink RX1 56 yX2_put, Cond.instanceMethod yX2_put, Cond.selects RX2 yX2_put yX2_put, Cond.code yX2_put cX2_put 4 none, Cond.methodLink RX2 33 yX2_isFull, Cond.instanceMethod yX2_isFull, Cond.selects RX2 yX2_isFull yX2_isFull, Cond.code yX2_isFull cX2_isFull 1 (some .boolean)]
def wsX1_writeHome : List Cond := .code yX1_writeHome cX1_writeHome 4 none :: ((wsX1_writeHome_r1 ++ wsX1_writeHome_r2) ++ wsX10 ++ wsX20)
def wsX1_end : List Cond := .code yX1_end cX1_end 1 none :: ([.fieldLink RX1 18 "PointStore$Disk" "sealed" "I"] ++ wsX10)
def wsX2_init : List Cond := .code yX2_init cX2_init 1 none :: ([.methodLink RX2 3 objectInit, .instanceMethod objectInit, .code objectInit ⟨#[0xb1]⟩ 1 none, .arrayClass .int, .fieldLink RX2 9 "PointStore$Points" "keys" "[I", .fieldLink RX2 15 "PointStore$Points" "values" "[I", .fieldLink RX2 18 "PointStore$Points" "total" "I", .fieldLink RX2 22 "PointStore$Points" "version" "I"] ++ wsX20)
def wsX2_valueOf : List Cond := .code yX2_valueOf cX2_valueOf 3 (some .int) :: ([.fieldLink RX2 15 "PointStore$Points" "values" "[I", .methodLink RX2 26 yX2_placeOf, .instanceMethod yX2_placeOf, .selects RX2 yX2_placeOf yX2_placeOf, .initialized RX2, .code yX2_placeOf cX2_placeOf 4 (some .int), .fieldLink RX2 18 "PointStore$Points" "total" "I", .fieldLink RX2 9 "PointStore$Points" "keys" "[I", .methodLink RX2 30 yX2_keyAt, .instanceMethod yX2_keyAt, .selects RX2 yX2_keyAt yX2_keyAt, .code yX2_keyAt cX2_keyAt 2 (some .int), .constant RX2 25 (1073741824)] ++ wsX20)
def wsX2_copyFrom : List Cond := .code yX2_copyFrom cX2_copyFrom 2 none :: ([.fieldLink RX2 9 "PointStore$Points" "keys" "[I", .fieldLink RX2 18 "PointStore$Points" "total" "I", .methodLink RX2 37 arraycopyName, .native arraycopyName, .static arraycopyName, .initialized "java/lang/System", .fieldLink RX2 15 "PointStore$Points" "values" "[I", .fieldLink RX2 22 "PointStore$Points" "version" "I"] ++ wsX20)
def wsX3_init : List Cond := .code yX3_init cX3_init 1 none :: ([.methodLink RX3 3 objectInit, .instanceMethod objectInit, .code objectInit ⟨#[0xb1]⟩ 1 none, .arrayClass .int, .fieldLink RX3 9 "PointStore$Results" "keys" "[I", .fieldLink RX3 15 "PointStore$Results" "values" "[I", .arrayClass .long, .fieldLink RX3 18 "PointStore$Results" "distances" "[J", .fieldLink RX3 22 "PointStore$Results" "total" "I"] ++ wsX30)
def wsX3_clear : List Cond := .code yX3_clear cX3_clear 1 none :: ([.fieldLink RX3 22 "PointStore$Results" "total" "I"] ++ wsX30)
def wsX3_add : List Cond := .code yX3_add cX3_add 3 none :: ([.fieldLink RX3 22 "PointStore$Results" "total" "I", .fieldLink RX3 9 "PointStore$Results" "keys" "[I", .fieldLink RX3 15 "PointStore$Results" "values" "[I"] ++ wsX30)
def wsX3_addByDistance : List Cond := .code yX3_addByDistance cX3_addByDistance 8 none :: ([.fieldLink RX3 22 "PointStore$Results" "total" "I", .fieldLink RX3 18 "PointStore$Results" "distances" "[J", .methodLink RX3 26 Lib.Math.min.name, .static Lib.Math.min.name, .initialized "java/lang/Math", .code Lib.Math.min.name Lib.Math.min.code 2 (some .int), .fieldLink RX3 9 "PointStore$Results" "keys" "[I", .methodLink RX3 32 arraycopyName, .native arraycopyName, .static arraycopyName, .initialized "java/lang/System", .fieldLink RX3 15 "PointStore$Results" "values" "[I"] ++ wsX30)
def wsX4_init : List Cond := .code yX4_init cX4_init 5 none :: ([.methodLink RX4 3 objectInit, .instanceMethod objectInit, .code objectInit ⟨#[0xb1]⟩ 1 none, .arrayClass .int, .fieldLink RX4 9 "PointStore$Tree" "order" "[I", .fieldLink RX4 15 "PointStore$Tree" "nodes" "I", .fieldLink RX4 19 "PointStore$Tree" "depth" "I", .fieldLink RX4 22 "PointStore$Tree" "madeOf" "I", .fieldLink RX4 25 "PointStore$Tree" "points" "LPointStore$Points;", .fieldLink RX4 29 "PointStore$Tree" "bucket" "I", .fieldLink RX4 32 "PointStore$Tree" "bits" "I", .fieldLink RX4 35 "PointStore$Tree" "mostNodes" "I", .fieldLink RX4 38 "PointStore$Tree" "facts" "[I"] ++ wsX40)
def wsX4_lowBitsOf : List Cond := .code yX4_lowBitsOf cX4_lowBitsOf 5 (some .int) :: ([.fieldLink RX4 25 "PointStore$Tree" "points" "LPointStore$Points;", .fieldLink RX4 73 "PointStore$Points" "values" "[I", .fieldLink RX4 9 "PointStore$Tree" "order" "[I", .constant RX4 76 (65535)] ++ wsX40 ++ wsX20)
def wsX5_xOf : List Cond := .code yX5_xOf cX5_xOf 1 (some .int) :: ([])
def wsX5_yOf : List Cond := .code yX5_yOf cX5_yOf 1 (some .int) :: ([])
def wsX5_isWithin : List Cond := .code yX5_isWithin cX5_isWithin 7 (some .boolean) :: ([.methodLink RX5 153 yX5_xOf, .static yX5_xOf, .initialized RX5, .code yX5_xOf cX5_xOf 1 (some .int), .methodLink RX5 156 yX5_yOf, .static yX5_yOf, .code yX5_yOf cX5_yOf 1 (some .int)])
def wsX4_gather : List Cond := .code yX4_gather cX4_gather 9 (some .int) :: ([.fieldLink RX4 9 "PointStore$Tree" "order" "[I", .fieldLink RX4 25 "PointStore$Tree" "points" "LPointStore$Points;", .fieldLink RX4 66 "PointStore$Points" "keys" "[I", .static yX5_isWithin, .initialized RX5, .code yX5_isWithin cX5_isWithin 7 (some .boolean), .methodLink RX5 153 yX5_xOf, .static yX5_xOf, .code yX5_xOf cX5_xOf 1 (some .int), .methodLink RX5 156 yX5_yOf, .static yX5_yOf, .code yX5_yOf cX5_yOf 1 (some .int)] ++ wsX40 ++ wsX20)
def wsX4_grow_r1 : List Cond := [Cond.fieldLink RX4 32 "PointStore$Tree" "bits" "I", Cond.fieldLink RX4 15 "PointStore$Tree" "nodes" "I", Cond.fieldLink RX4 35 "PointStore$Tree" "mostNodes" "I", Cond.fieldLink RX4 19 "PointStore$Tree" "depth" "I", Cond.methodLink RX4 53 Lib.Math.max.name, Cond.static Lib.Math.max.name, Cond.initialized "java/lang/Math", Cond.code Lib.Math.max.name Lib.Math.max.code 2 (some .int), Cond.fieldLink RX4 38 "PointStore$Tree" "facts" "[I", Cond.fieldLink RX4 29 "PointStore$Tree" "bucket" "I", Cond.methodLink RX4 59 yX4_lowBitsOf, Cond.instanceMethod yX4_lowBitsOf, Cond.selects RX4 yX4_lowBitsOf yX4_lowBitsOf, Cond.initialized RX4, Cond.code yX4_lowBitsOf cX4_lowBitsOf 5 (some .int), Cond.fieldLink RX4 25 "PointStore$Tree" "points" "LPointStore$Points;", Cond.fieldLink RX4 73 "PointStore$Points" "values" "[I", Cond.fieldLink RX4 9 "PointStore$Tree" "order" "[I", Cond.constant RX4 76 (65535), Cond.methodLink RX4 62 yX4_gather, Cond.instanceMethod yX4_gather, Cond.selects RX4 yX4_gather yX4_gather, Cond.code yX4_gather cX4_gather 9 (some .int), Cond.fieldLink RX4 66 "PointStore$Points" "keys" "[I"]
def wsX4_grow_r2 : List Cond := [Cond.static yX5_isWithin, Cond.initialized RX5, Cond.code yX5_isWithin cX5_isWithin 7 (some .boolean), Cond.methodLink RX5 153 yX5_xOf, Cond.static yX5_xOf, Cond.code yX5_xOf cX5_xOf 1 (some .int), Cond.methodLink RX5 156 yX5_yOf, Cond.static yX5_yOf, Cond.code yX5_yOf cX5_yOf 1 (some .int), Cond.methodLink RX4 49 yX4_grow, Cond.static yX4_grow]
def wsX4_grow : List Cond := .code yX4_grow cX4_grow 14 none :: ((wsX4_grow_r1 ++ wsX4_grow_r2) ++ wsX40 ++ wsX20)
def wsX4_upToDate_r1 : List Cond := [Cond.fieldLink RX4 22 "PointStore$Tree" "madeOf" "I", Cond.fieldLink RX4 25 "PointStore$Tree" "points" "LPointStore$Points;", Cond.fieldLink RX4 41 "PointStore$Points" "version" "I", Cond.fieldLink RX4 46 "PointStore$Points" "total" "I", Cond.fieldLink RX4 9 "PointStore$Tree" "order" "[I", Cond.fieldLink RX4 15 "PointStore$Tree" "nodes" "I", Cond.fieldLink RX4 19 "PointStore$Tree" "depth" "I", Cond.methodLink RX4 49 yX4_grow, Cond.static yX4_grow, Cond.initialized RX4, Cond.code yX4_grow cX4_grow 14 none, Cond.fieldLink RX4 32 "PointStore$Tree" "bits" "I", Cond.fieldLink RX4 35 "PointStore$Tree" "mostNodes" "I", Cond.methodLink RX4 53 Lib.Math.max.name, Cond.static Lib.Math.max.name, Cond.initialized "java/lang/Math", Cond.code Lib.Math.max.name Lib.Math.max.code 2 (some .int), Cond.fieldLink RX4 38 "PointStore$Tree" "facts" "[I", Cond.fieldLink RX4 29 "PointStore$Tree" "bucket" "I", Cond.methodLink RX4 59 yX4_lowBitsOf, Cond.instanceMethod yX4_lowBitsOf, Cond.selects RX4 yX4_lowBitsOf yX4_lowBitsOf, Cond.code yX4_lowBitsOf cX4_lowBitsOf 5 (some .int), Cond.fieldLink RX4 73 "PointStore$Points" "values" "[I"]
def wsX4_upToDate_r2 : List Cond := [Cond.constant RX4 76 (65535), Cond.methodLink RX4 62 yX4_gather, Cond.instanceMethod yX4_gather, Cond.selects RX4 yX4_gather yX4_gather, Cond.code yX4_gather cX4_gather 9 (some .int), Cond.fieldLink RX4 66 "PointStore$Points" "keys" "[I", Cond.static yX5_isWithin, Cond.initialized RX5, Cond.code yX5_isWithin cX5_isWithin 7 (some .boolean), Cond.methodLink RX5 153 yX5_xOf, Cond.static yX5_xOf, Cond.code yX5_xOf cX5_xOf 1 (some .int), Cond.methodLink RX5 156 yX5_yOf, Cond.static yX5_yOf, Cond.code yX5_yOf cX5_yOf 1 (some .int)]
def wsX4_upToDate : List Cond := .code yX4_upToDate cX4_upToDate 2 (some (.object "PointStore$Tree")) :: ((wsX4_upToDate_r1 ++ wsX4_upToDate_r2) ++ wsX40 ++ wsX20)
def wsX4_factOf : List Cond := .code yX4_factOf cX4_factOf 3 (some .int) :: ([.fieldLink RX4 15 "PointStore$Tree" "nodes" "I", .fieldLink RX4 38 "PointStore$Tree" "facts" "[I"] ++ wsX40)
def wsX5_fromOneTo : List Cond := .code yX5_fromOneTo cX5_fromOneTo 3 (some .int) :: ([])
def wsX5_init_r1 : List Cond := [Cond.methodLink RX5 3 objectInit, Cond.instanceMethod objectInit, Cond.code objectInit ⟨#[0xb1]⟩ 1 none, Cond.classLink RX5 13 RX2, Cond.instantiable RX2 4, Cond.initialized RX2, Cond.fieldLink RX5 16 "PointStore" "blocks" "I", Cond.fieldLink RX5 20 "PointStore" "bucket" "I", Cond.fieldLink RX5 23 "PointStore" "span" "I", Cond.classLink RX5 26 RX1, Cond.instantiable RX1 4, Cond.initialized RX1, Cond.fieldLink RX5 31 "PointStore" "disk" "LPointStore$Disk;", Cond.fieldLink RX5 35 "PointStore" "pending" "LPointStore$Points;", Cond.classLink RX5 39 RX4, Cond.instantiable RX4 9, Cond.initialized RX4, Cond.fieldLink RX5 44 "PointStore" "pendingTree" "LPointStore$Tree;", Cond.fieldLink RX5 48 "PointStore" "committedTree" "LPointStore$Tree;", Cond.classLink RX5 51 RX0, Cond.instantiable RX0 3, Cond.initialized RX0, Cond.fieldLink RX5 54 "PointStore" "changes" "LPointStore$Changes;", Cond.classLink RX5 58 RX3]
def wsX5_init_r2 : List Cond := [Cond.instantiable RX3 4, Cond.initialized RX3, Cond.fieldLink RX5 61 "PointStore" "results" "LPointStore$Results;", Cond.fieldLink RX5 65 "PointStore" "powered" "Z", Cond.fieldLink RX5 69 "PointStore" "cut" "I", Cond.fieldLink RX5 72 "PointStore" "cutParts" "I", Cond.methodLink RX5 9 yX5_fromOneTo, Cond.static yX5_fromOneTo, Cond.initialized RX5, Cond.code yX5_fromOneTo cX5_fromOneTo 3 (some .int), Cond.instanceMethod yX2_init, Cond.code yX2_init cX2_init 1 none, Cond.methodLink RX2 3 objectInit, Cond.arrayClass .int, Cond.fieldLink RX2 9 "PointStore$Points" "keys" "[I", Cond.fieldLink RX2 15 "PointStore$Points" "values" "[I", Cond.fieldLink RX2 18 "PointStore$Points" "total" "I", Cond.fieldLink RX2 22 "PointStore$Points" "version" "I", Cond.methodLink RX5 28 yX1_init, Cond.instanceMethod yX1_init, Cond.code yX1_init cX1_init 2 none, Cond.methodLink RX1 3 objectInit, Cond.fieldLink RX1 9 "PointStore$Disk" "logKeys" "[I", Cond.fieldLink RX1 15 "PointStore$Disk" "logValues" "[I"]
def wsX5_init_r3 : List Cond := [Cond.fieldLink RX1 18 "PointStore$Disk" "sealed" "I", Cond.fieldLink RX1 22 "PointStore$Disk" "home" "LPointStore$Points;", Cond.methodLink RX5 41 yX4_init, Cond.instanceMethod yX4_init, Cond.code yX4_init cX4_init 5 none, Cond.methodLink RX4 3 objectInit, Cond.fieldLink RX4 9 "PointStore$Tree" "order" "[I", Cond.fieldLink RX4 15 "PointStore$Tree" "nodes" "I", Cond.fieldLink RX4 19 "PointStore$Tree" "depth" "I", Cond.fieldLink RX4 22 "PointStore$Tree" "madeOf" "I", Cond.fieldLink RX4 25 "PointStore$Tree" "points" "LPointStore$Points;", Cond.fieldLink RX4 29 "PointStore$Tree" "bucket" "I", Cond.fieldLink RX4 32 "PointStore$Tree" "bits" "I", Cond.fieldLink RX4 35 "PointStore$Tree" "mostNodes" "I", Cond.fieldLink RX4 38 "PointStore$Tree" "facts" "[I", Cond.instanceMethod yX0_init, Cond.code yX0_init cX0_init 1 none, Cond.methodLink RX0 3 objectInit, Cond.fieldLink RX0 9 "PointStore$Changes" "keys" "[I", Cond.fieldLink RX0 15 "PointStore$Changes" "values" "[I", Cond.fieldLink RX0 18 "PointStore$Changes" "total" "I", Cond.instanceMethod yX3_init, Cond.code yX3_init cX3_init 1 none, Cond.methodLink RX3 3 objectInit]
def wsX5_init_r4 : List Cond := [Cond.fieldLink RX3 9 "PointStore$Results" "keys" "[I", Cond.fieldLink RX3 15 "PointStore$Results" "values" "[I", Cond.arrayClass .long, Cond.fieldLink RX3 18 "PointStore$Results" "distances" "[J", Cond.fieldLink RX3 22 "PointStore$Results" "total" "I"]
def wsX5_init : List Cond := .code yX5_init cX5_init 9 none :: ((wsX5_init_r1 ++ (wsX5_init_r2 ++ (wsX5_init_r3 ++ wsX5_init_r4))) ++ wsX20 ++ wsX50 ++ wsX10 ++ wsX40 ++ wsX00 ++ wsX30)
def wsX5_isOnPlane : List Cond := .code yX5_isOnPlane cX5_isOnPlane 3 (some .boolean) :: ([.fieldLink RX5 23 "PointStore" "span" "I"] ++ wsX50)
def wsX5_keyOf : List Cond := .code yX5_keyOf cX5_keyOf 2 (some .int) :: ([])
def wsX5_comesIn_r1 : List Cond := [Cond.fieldLink RX5 35 "PointStore" "pending" "LPointStore$Points;", Cond.fieldLink RX5 44 "PointStore" "pendingTree" "LPointStore$Tree;", Cond.fieldLink RX5 191 "PointStore$Tree" "nodes" "I", Cond.fieldLink RX5 16 "PointStore" "blocks" "I", Cond.methodLink RX5 197 yX2_isFull, Cond.instanceMethod yX2_isFull, Cond.selects RX2 yX2_isFull yX2_isFull, Cond.initialized RX2, Cond.code yX2_isFull cX2_isFull 1 (some .boolean), Cond.fieldLink RX2 18 "PointStore$Points" "total" "I", Cond.methodLink RX5 91 yX2_put, Cond.instanceMethod yX2_put, Cond.selects RX2 yX2_put yX2_put, Cond.code yX2_put cX2_put 4 none, Cond.fieldLink RX2 9 "PointStore$Points" "keys" "[I", Cond.methodLink RX2 37 arraycopyName, Cond.native arraycopyName, Cond.static arraycopyName, Cond.initialized "java/lang/System", Cond.fieldLink RX2 15 "PointStore$Points" "values" "[I", Cond.fieldLink RX2 22 "PointStore$Points" "version" "I", Cond.methodLink RX2 26 yX2_placeOf, Cond.instanceMethod yX2_placeOf, Cond.selects RX2 yX2_placeOf yX2_placeOf]
def wsX5_comesIn_r2 : List Cond := [Cond.code yX2_placeOf cX2_placeOf 4 (some .int), Cond.methodLink RX2 30 yX2_keyAt, Cond.instanceMethod yX2_keyAt, Cond.selects RX2 yX2_keyAt yX2_keyAt, Cond.code yX2_keyAt cX2_keyAt 2 (some .int), Cond.constant RX2 25 (1073741824), Cond.methodLink RX2 33 yX2_isFull, Cond.methodLink RX5 184 yX4_upToDate, Cond.instanceMethod yX4_upToDate, Cond.selects RX4 yX4_upToDate yX4_upToDate, Cond.initialized RX4, Cond.code yX4_upToDate cX4_upToDate 2 (some (.object "PointStore$Tree")), Cond.fieldLink RX4 22 "PointStore$Tree" "madeOf" "I", Cond.fieldLink RX4 25 "PointStore$Tree" "points" "LPointStore$Points;", Cond.fieldLink RX4 41 "PointStore$Points" "version" "I", Cond.fieldLink RX4 46 "PointStore$Points" "total" "I", Cond.fieldLink RX4 9 "PointStore$Tree" "order" "[I", Cond.fieldLink RX4 15 "PointStore$Tree" "nodes" "I", Cond.fieldLink RX4 19 "PointStore$Tree" "depth" "I", Cond.methodLink RX4 49 yX4_grow, Cond.static yX4_grow, Cond.code yX4_grow cX4_grow 14 none, Cond.fieldLink RX4 32 "PointStore$Tree" "bits" "I", Cond.fieldLink RX4 35 "PointStore$Tree" "mostNodes" "I"]
def wsX5_comesIn_r3 : List Cond := [Cond.methodLink RX4 53 Lib.Math.max.name, Cond.static Lib.Math.max.name, Cond.initialized "java/lang/Math", Cond.code Lib.Math.max.name Lib.Math.max.code 2 (some .int), Cond.fieldLink RX4 38 "PointStore$Tree" "facts" "[I", Cond.fieldLink RX4 29 "PointStore$Tree" "bucket" "I", Cond.methodLink RX4 59 yX4_lowBitsOf, Cond.instanceMethod yX4_lowBitsOf, Cond.selects RX4 yX4_lowBitsOf yX4_lowBitsOf, Cond.code yX4_lowBitsOf cX4_lowBitsOf 5 (some .int), Cond.fieldLink RX4 73 "PointStore$Points" "values" "[I", Cond.constant RX4 76 (65535), Cond.methodLink RX4 62 yX4_gather, Cond.instanceMethod yX4_gather, Cond.selects RX4 yX4_gather yX4_gather, Cond.code yX4_gather cX4_gather 9 (some .int), Cond.fieldLink RX4 66 "PointStore$Points" "keys" "[I", Cond.static yX5_isWithin, Cond.initialized RX5, Cond.code yX5_isWithin cX5_isWithin 7 (some .boolean), Cond.methodLink RX5 153 yX5_xOf, Cond.static yX5_xOf, Cond.code yX5_xOf cX5_xOf 1 (some .int), Cond.methodLink RX5 156 yX5_yOf]
def wsX5_comesIn_r4 : List Cond := [Cond.static yX5_yOf, Cond.code yX5_yOf cX5_yOf 1 (some .int), Cond.methodLink RX5 101 yX2_takeOut, Cond.instanceMethod yX2_takeOut, Cond.selects RX2 yX2_takeOut yX2_takeOut, Cond.code yX2_takeOut cX2_takeOut 3 none]
def wsX5_comesIn : List Cond := .code yX5_comesIn cX5_comesIn 3 (some .boolean) :: ((wsX5_comesIn_r1 ++ (wsX5_comesIn_r2 ++ (wsX5_comesIn_r3 ++ wsX5_comesIn_r4))) ++ wsX50 ++ wsX40 ++ wsX20)
def wsX5_insert_r1 : List Cond := [Cond.fieldLink RX5 65 "PointStore" "powered" "Z", Cond.fieldLink RX5 54 "PointStore" "changes" "LPointStore$Changes;", Cond.fieldLink RX5 35 "PointStore" "pending" "LPointStore$Points;", Cond.methodLink RX5 75 yX5_isOnPlane, Cond.instanceMethod yX5_isOnPlane, Cond.selects RX5 yX5_isOnPlane yX5_isOnPlane, Cond.initialized RX5, Cond.code yX5_isOnPlane cX5_isOnPlane 3 (some .boolean), Cond.fieldLink RX5 23 "PointStore" "span" "I", Cond.methodLink RX5 79 yX0_isFull, Cond.instanceMethod yX0_isFull, Cond.selects RX0 yX0_isFull yX0_isFull, Cond.initialized RX0, Cond.code yX0_isFull cX0_isFull 1 (some .boolean), Cond.fieldLink RX0 18 "PointStore$Changes" "total" "I", Cond.methodLink RX5 83 yX5_keyOf, Cond.static yX5_keyOf, Cond.code yX5_keyOf cX5_keyOf 2 (some .int), Cond.methodLink RX5 87 yX2_valueOf, Cond.instanceMethod yX2_valueOf, Cond.selects RX2 yX2_valueOf yX2_valueOf, Cond.initialized RX2, Cond.code yX2_valueOf cX2_valueOf 3 (some .int), Cond.fieldLink RX2 15 "PointStore$Points" "values" "[I"]
def wsX5_insert_r2 : List Cond := [Cond.methodLink RX2 26 yX2_placeOf, Cond.instanceMethod yX2_placeOf, Cond.selects RX2 yX2_placeOf yX2_placeOf, Cond.code yX2_placeOf cX2_placeOf 4 (some .int), Cond.fieldLink RX2 18 "PointStore$Points" "total" "I", Cond.fieldLink RX2 9 "PointStore$Points" "keys" "[I", Cond.methodLink RX2 30 yX2_keyAt, Cond.instanceMethod yX2_keyAt, Cond.selects RX2 yX2_keyAt yX2_keyAt, Cond.code yX2_keyAt cX2_keyAt 2 (some .int), Cond.constant RX2 25 (1073741824), Cond.methodLink RX5 91 yX2_put, Cond.instanceMethod yX2_put, Cond.selects RX2 yX2_put yX2_put, Cond.code yX2_put cX2_put 4 none, Cond.methodLink RX2 37 arraycopyName, Cond.native arraycopyName, Cond.static arraycopyName, Cond.initialized "java/lang/System", Cond.fieldLink RX2 22 "PointStore$Points" "version" "I", Cond.methodLink RX2 33 yX2_isFull, Cond.instanceMethod yX2_isFull, Cond.selects RX2 yX2_isFull yX2_isFull, Cond.code yX2_isFull cX2_isFull 1 (some .boolean)]
def wsX5_insert_r3 : List Cond := [Cond.methodLink RX5 95 yX5_comesIn, Cond.instanceMethod yX5_comesIn, Cond.selects RX5 yX5_comesIn yX5_comesIn, Cond.code yX5_comesIn cX5_comesIn 3 (some .boolean), Cond.fieldLink RX5 44 "PointStore" "pendingTree" "LPointStore$Tree;", Cond.fieldLink RX5 191 "PointStore$Tree" "nodes" "I", Cond.fieldLink RX5 16 "PointStore" "blocks" "I", Cond.methodLink RX5 197 yX2_isFull, Cond.methodLink RX5 184 yX4_upToDate, Cond.instanceMethod yX4_upToDate, Cond.selects RX4 yX4_upToDate yX4_upToDate, Cond.initialized RX4, Cond.code yX4_upToDate cX4_upToDate 2 (some (.object "PointStore$Tree")), Cond.fieldLink RX4 22 "PointStore$Tree" "madeOf" "I", Cond.fieldLink RX4 25 "PointStore$Tree" "points" "LPointStore$Points;", Cond.fieldLink RX4 41 "PointStore$Points" "version" "I", Cond.fieldLink RX4 46 "PointStore$Points" "total" "I", Cond.fieldLink RX4 9 "PointStore$Tree" "order" "[I", Cond.fieldLink RX4 15 "PointStore$Tree" "nodes" "I", Cond.fieldLink RX4 19 "PointStore$Tree" "depth" "I", Cond.methodLink RX4 49 yX4_grow, Cond.static yX4_grow, Cond.code yX4_grow cX4_grow 14 none, Cond.fieldLink RX4 32 "PointStore$Tree" "bits" "I"]
def wsX5_insert_r4 : List Cond := [Cond.fieldLink RX4 35 "PointStore$Tree" "mostNodes" "I", Cond.methodLink RX4 53 Lib.Math.max.name, Cond.static Lib.Math.max.name, Cond.initialized "java/lang/Math", Cond.code Lib.Math.max.name Lib.Math.max.code 2 (some .int), Cond.fieldLink RX4 38 "PointStore$Tree" "facts" "[I", Cond.fieldLink RX4 29 "PointStore$Tree" "bucket" "I", Cond.methodLink RX4 59 yX4_lowBitsOf, Cond.instanceMethod yX4_lowBitsOf, Cond.selects RX4 yX4_lowBitsOf yX4_lowBitsOf, Cond.code yX4_lowBitsOf cX4_lowBitsOf 5 (some .int), Cond.fieldLink RX4 73 "PointStore$Points" "values" "[I", Cond.constant RX4 76 (65535), Cond.methodLink RX4 62 yX4_gather, Cond.instanceMethod yX4_gather, Cond.selects RX4 yX4_gather yX4_gather, Cond.code yX4_gather cX4_gather 9 (some .int), Cond.fieldLink RX4 66 "PointStore$Points" "keys" "[I", Cond.static yX5_isWithin, Cond.code yX5_isWithin cX5_isWithin 7 (some .boolean), Cond.methodLink RX5 153 yX5_xOf, Cond.static yX5_xOf, Cond.code yX5_xOf cX5_xOf 1 (some .int), Cond.methodLink RX5 156 yX5_yOf]
def wsX5_insert_r5 : List Cond := [Cond.static yX5_yOf, Cond.code yX5_yOf cX5_yOf 1 (some .int), Cond.methodLink RX5 101 yX2_takeOut, Cond.instanceMethod yX2_takeOut, Cond.selects RX2 yX2_takeOut yX2_takeOut, Cond.code yX2_takeOut cX2_takeOut 3 none, Cond.methodLink RX5 98 yX0_add, Cond.instanceMethod yX0_add, Cond.selects RX0 yX0_add yX0_add, Cond.code yX0_add cX0_add 3 none, Cond.fieldLink RX0 9 "PointStore$Changes" "keys" "[I", Cond.fieldLink RX0 15 "PointStore$Changes" "values" "[I", Cond.methodLink RX0 22 yX0_isFull]
def wsX5_insert : List Cond := .code yX5_insert cX5_insert 6 (some .int) :: ((wsX5_insert_r1 ++ (wsX5_insert_r2 ++ (wsX5_insert_r3 ++ (wsX5_insert_r4 ++ wsX5_insert_r5)))) ++ wsX50 ++ wsX00 ++ wsX20 ++ wsX40)
def wsX5_delete_r1 : List Cond := [Cond.fieldLink RX5 65 "PointStore" "powered" "Z", Cond.fieldLink RX5 35 "PointStore" "pending" "LPointStore$Points;", Cond.fieldLink RX5 54 "PointStore" "changes" "LPointStore$Changes;", Cond.methodLink RX5 75 yX5_isOnPlane, Cond.instanceMethod yX5_isOnPlane, Cond.selects RX5 yX5_isOnPlane yX5_isOnPlane, Cond.initialized RX5, Cond.code yX5_isOnPlane cX5_isOnPlane 3 (some .boolean), Cond.fieldLink RX5 23 "PointStore" "span" "I", Cond.methodLink RX5 83 yX5_keyOf, Cond.static yX5_keyOf, Cond.code yX5_keyOf cX5_keyOf 2 (some .int), Cond.methodLink RX5 87 yX2_valueOf, Cond.instanceMethod yX2_valueOf, Cond.selects RX2 yX2_valueOf yX2_valueOf, Cond.initialized RX2, Cond.code yX2_valueOf cX2_valueOf 3 (some .int), Cond.fieldLink RX2 15 "PointStore$Points" "values" "[I", Cond.methodLink RX2 26 yX2_placeOf, Cond.instanceMethod yX2_placeOf, Cond.selects RX2 yX2_placeOf yX2_placeOf, Cond.code yX2_placeOf cX2_placeOf 4 (some .int), Cond.fieldLink RX2 18 "PointStore$Points" "total" "I", Cond.fieldLink RX2 9 "PointStore$Points" "keys" "[I"]
def wsX5_delete_r2 : List Cond := [Cond.methodLink RX2 30 yX2_keyAt, Cond.instanceMethod yX2_keyAt, Cond.selects RX2 yX2_keyAt yX2_keyAt, Cond.code yX2_keyAt cX2_keyAt 2 (some .int), Cond.constant RX2 25 (1073741824), Cond.methodLink RX5 79 yX0_isFull, Cond.instanceMethod yX0_isFull, Cond.selects RX0 yX0_isFull yX0_isFull, Cond.initialized RX0, Cond.code yX0_isFull cX0_isFull 1 (some .boolean), Cond.fieldLink RX0 18 "PointStore$Changes" "total" "I", Cond.methodLink RX5 101 yX2_takeOut, Cond.instanceMethod yX2_takeOut, Cond.selects RX2 yX2_takeOut yX2_takeOut, Cond.code yX2_takeOut cX2_takeOut 3 none, Cond.methodLink RX2 37 arraycopyName, Cond.native arraycopyName, Cond.static arraycopyName, Cond.initialized "java/lang/System", Cond.fieldLink RX2 22 "PointStore$Points" "version" "I", Cond.methodLink RX5 98 yX0_add, Cond.instanceMethod yX0_add, Cond.selects RX0 yX0_add yX0_add, Cond.code yX0_add cX0_add 3 none]
def wsX5_delete_r3 : List Cond := [Cond.fieldLink RX0 9 "PointStore$Changes" "keys" "[I", Cond.fieldLink RX0 15 "PointStore$Changes" "values" "[I", Cond.methodLink RX0 22 yX0_isFull]
def wsX5_delete : List Cond := .code yX5_delete cX5_delete 4 (some .int) :: ((wsX5_delete_r1 ++ (wsX5_delete_r2 ++ wsX5_delete_r3)) ++ wsX50 ++ wsX20 ++ wsX00)
def wsX5_pointsOf : List Cond := .code yX5_pointsOf cX5_pointsOf 2 (some (.object "PointStore$Points")) :: ([.fieldLink RX5 35 "PointStore" "pending" "LPointStore$Points;", .fieldLink RX5 31 "PointStore" "disk" "LPointStore$Disk;", .fieldLink RX5 140 "PointStore$Disk" "home" "LPointStore$Points;"] ++ wsX50 ++ wsX10)
def wsX5_get_r1 : List Cond := [Cond.fieldLink RX5 65 "PointStore" "powered" "Z", Cond.methodLink RX5 105 yX5_pointsOf, Cond.instanceMethod yX5_pointsOf, Cond.selects RX5 yX5_pointsOf yX5_pointsOf, Cond.initialized RX5, Cond.code yX5_pointsOf cX5_pointsOf 2 (some (.object "PointStore$Points")), Cond.fieldLink RX5 35 "PointStore" "pending" "LPointStore$Points;", Cond.fieldLink RX5 31 "PointStore" "disk" "LPointStore$Disk;", Cond.fieldLink RX5 140 "PointStore$Disk" "home" "LPointStore$Points;", Cond.methodLink RX5 75 yX5_isOnPlane, Cond.instanceMethod yX5_isOnPlane, Cond.selects RX5 yX5_isOnPlane yX5_isOnPlane, Cond.code yX5_isOnPlane cX5_isOnPlane 3 (some .boolean), Cond.fieldLink RX5 23 "PointStore" "span" "I", Cond.methodLink RX5 83 yX5_keyOf, Cond.static yX5_keyOf, Cond.code yX5_keyOf cX5_keyOf 2 (some .int), Cond.methodLink RX5 87 yX2_valueOf, Cond.instanceMethod yX2_valueOf, Cond.selects RX2 yX2_valueOf yX2_valueOf, Cond.initialized RX2, Cond.code yX2_valueOf cX2_valueOf 3 (some .int), Cond.fieldLink RX2 15 "PointStore$Points" "values" "[I", Cond.methodLink RX2 26 yX2_placeOf]
def wsX5_get_r2 : List Cond := [Cond.instanceMethod yX2_placeOf, Cond.selects RX2 yX2_placeOf yX2_placeOf, Cond.code yX2_placeOf cX2_placeOf 4 (some .int), Cond.fieldLink RX2 18 "PointStore$Points" "total" "I", Cond.fieldLink RX2 9 "PointStore$Points" "keys" "[I", Cond.methodLink RX2 30 yX2_keyAt, Cond.instanceMethod yX2_keyAt, Cond.selects RX2 yX2_keyAt yX2_keyAt, Cond.code yX2_keyAt cX2_keyAt 2 (some .int), Cond.constant RX2 25 (1073741824)]
def wsX5_get : List Cond := .code yX5_get cX5_get 5 (some .int) :: ((wsX5_get_r1 ++ wsX5_get_r2) ++ wsX50 ++ wsX10 ++ wsX20)
def wsX5_window_r1 : List Cond := [Cond.fieldLink RX5 65 "PointStore" "powered" "Z", Cond.fieldLink RX5 61 "PointStore" "results" "LPointStore$Results;", Cond.fieldLink RX5 112 "PointStore$Points" "total" "I", Cond.fieldLink RX5 115 "PointStore$Points" "keys" "[I", Cond.fieldLink RX5 123 "PointStore$Points" "values" "[I", Cond.methodLink RX5 105 yX5_pointsOf, Cond.instanceMethod yX5_pointsOf, Cond.selects RX5 yX5_pointsOf yX5_pointsOf, Cond.initialized RX5, Cond.code yX5_pointsOf cX5_pointsOf 2 (some (.object "PointStore$Points")), Cond.fieldLink RX5 35 "PointStore" "pending" "LPointStore$Points;", Cond.fieldLink RX5 31 "PointStore" "disk" "LPointStore$Disk;", Cond.fieldLink RX5 140 "PointStore$Disk" "home" "LPointStore$Points;", Cond.methodLink RX5 109 yX3_clear, Cond.instanceMethod yX3_clear, Cond.selects RX3 yX3_clear yX3_clear, Cond.initialized RX3, Cond.code yX3_clear cX3_clear 1 none, Cond.fieldLink RX3 22 "PointStore$Results" "total" "I", Cond.methodLink RX5 119 yX5_isWithin, Cond.static yX5_isWithin, Cond.code yX5_isWithin cX5_isWithin 7 (some .boolean), Cond.methodLink RX5 153 yX5_xOf, Cond.static yX5_xOf]
def wsX5_window_r2 : List Cond := [Cond.code yX5_xOf cX5_xOf 1 (some .int), Cond.methodLink RX5 156 yX5_yOf, Cond.static yX5_yOf, Cond.code yX5_yOf cX5_yOf 1 (some .int), Cond.methodLink RX5 126 yX3_add, Cond.instanceMethod yX3_add, Cond.selects RX3 yX3_add yX3_add, Cond.code yX3_add cX3_add 3 none, Cond.fieldLink RX3 9 "PointStore$Results" "keys" "[I", Cond.fieldLink RX3 15 "PointStore$Results" "values" "[I"]
def wsX5_window : List Cond := .code yX5_window cX5_window 9 (some .int) :: ((wsX5_window_r1 ++ wsX5_window_r2) ++ wsX50 ++ wsX20 ++ wsX10 ++ wsX30)
def wsX5_isPlace : List Cond := .code yX5_isPlace cX5_isPlace 1 (some .boolean) :: ([.constant RX5 205 (65535)])
def wsX5_distance : List Cond := .code yX5_distance cX5_distance 7 (some .long) :: ([.methodLink RX5 153 yX5_xOf, .static yX5_xOf, .initialized RX5, .code yX5_xOf cX5_xOf 1 (some .int), .methodLink RX5 156 yX5_yOf, .static yX5_yOf, .code yX5_yOf cX5_yOf 1 (some .int)])
def wsX5_nearest_r1 : List Cond := [Cond.fieldLink RX5 65 "PointStore" "powered" "Z", Cond.fieldLink RX5 61 "PointStore" "results" "LPointStore$Results;", Cond.fieldLink RX5 112 "PointStore$Points" "total" "I", Cond.fieldLink RX5 115 "PointStore$Points" "keys" "[I", Cond.fieldLink RX5 123 "PointStore$Points" "values" "[I", Cond.fieldLink RX5 139 "PointStore$Results" "total" "I", Cond.methodLink RX5 105 yX5_pointsOf, Cond.instanceMethod yX5_pointsOf, Cond.selects RX5 yX5_pointsOf yX5_pointsOf, Cond.initialized RX5, Cond.code yX5_pointsOf cX5_pointsOf 2 (some (.object "PointStore$Points")), Cond.fieldLink RX5 35 "PointStore" "pending" "LPointStore$Points;", Cond.fieldLink RX5 31 "PointStore" "disk" "LPointStore$Disk;", Cond.fieldLink RX5 140 "PointStore$Disk" "home" "LPointStore$Points;", Cond.methodLink RX5 127 yX5_isPlace, Cond.static yX5_isPlace, Cond.code yX5_isPlace cX5_isPlace 1 (some .boolean), Cond.constant RX5 205 (65535), Cond.methodLink RX5 109 yX3_clear, Cond.instanceMethod yX3_clear, Cond.selects RX3 yX3_clear yX3_clear, Cond.initialized RX3, Cond.code yX3_clear cX3_clear 1 none, Cond.fieldLink RX3 22 "PointStore$Results" "total" "I"]
def wsX5_nearest_r2 : List Cond := [Cond.methodLink RX5 131 yX5_distance, Cond.static yX5_distance, Cond.code yX5_distance cX5_distance 7 (some .long), Cond.methodLink RX5 153 yX5_xOf, Cond.static yX5_xOf, Cond.code yX5_xOf cX5_xOf 1 (some .int), Cond.methodLink RX5 156 yX5_yOf, Cond.static yX5_yOf, Cond.code yX5_yOf cX5_yOf 1 (some .int), Cond.methodLink RX5 135 yX3_addByDistance, Cond.instanceMethod yX3_addByDistance, Cond.selects RX3 yX3_addByDistance yX3_addByDistance, Cond.code yX3_addByDistance cX3_addByDistance 8 none, Cond.fieldLink RX3 18 "PointStore$Results" "distances" "[J", Cond.methodLink RX3 26 Lib.Math.min.name, Cond.static Lib.Math.min.name, Cond.initialized "java/lang/Math", Cond.code Lib.Math.min.name Lib.Math.min.code 2 (some .int), Cond.fieldLink RX3 9 "PointStore$Results" "keys" "[I", Cond.methodLink RX3 32 arraycopyName, Cond.native arraycopyName, Cond.static arraycopyName, Cond.initialized "java/lang/System", Cond.fieldLink RX3 15 "PointStore$Results" "values" "[I"]
def wsX5_nearest : List Cond := .code yX5_nearest cX5_nearest 8 (some .int) :: ((wsX5_nearest_r1 ++ wsX5_nearest_r2) ++ wsX50 ++ wsX20 ++ wsX30 ++ wsX10)
def wsX5_differs_r1 : List Cond := [Cond.fieldLink RX5 65 "PointStore" "powered" "Z", Cond.fieldLink RX5 31 "PointStore" "disk" "LPointStore$Disk;", Cond.fieldLink RX5 140 "PointStore$Disk" "home" "LPointStore$Points;", Cond.fieldLink RX5 61 "PointStore" "results" "LPointStore$Results;", Cond.fieldLink RX5 35 "PointStore" "pending" "LPointStore$Points;", Cond.fieldLink RX5 112 "PointStore$Points" "total" "I", Cond.methodLink RX5 146 Lib.Math.min.name, Cond.static Lib.Math.min.name, Cond.initialized "java/lang/Math", Cond.code Lib.Math.min.name Lib.Math.min.code 2 (some .int), Cond.constant RX5 151 (1073741824), Cond.fieldLink RX5 123 "PointStore$Points" "values" "[I", Cond.methodLink RX5 109 yX3_clear, Cond.instanceMethod yX3_clear, Cond.selects RX3 yX3_clear yX3_clear, Cond.initialized RX3, Cond.code yX3_clear cX3_clear 1 none, Cond.fieldLink RX3 22 "PointStore$Results" "total" "I", Cond.methodLink RX5 143 yX2_keyAt, Cond.instanceMethod yX2_keyAt, Cond.selects RX2 yX2_keyAt yX2_keyAt, Cond.initialized RX2, Cond.code yX2_keyAt cX2_keyAt 2 (some .int), Cond.fieldLink RX2 18 "PointStore$Points" "total" "I"]
def wsX5_differs_r2 : List Cond := [Cond.fieldLink RX2 9 "PointStore$Points" "keys" "[I", Cond.constant RX2 25 (1073741824), Cond.methodLink RX5 126 yX3_add, Cond.instanceMethod yX3_add, Cond.selects RX3 yX3_add yX3_add, Cond.code yX3_add cX3_add 3 none, Cond.fieldLink RX3 9 "PointStore$Results" "keys" "[I", Cond.fieldLink RX3 15 "PointStore$Results" "values" "[I"]
def wsX5_differs : List Cond := .code yX5_differs cX5_differs 10 (some .int) :: ((wsX5_differs_r1 ++ wsX5_differs_r2) ++ wsX50 ++ wsX10 ++ wsX20 ++ wsX30)
def wsX5_result : List Cond := .code yX5_result cX5_result 3 (some .int) :: ([.fieldLink RX5 61 "PointStore" "results" "LPointStore$Results;", .fieldLink RX5 139 "PointStore$Results" "total" "I", .fieldLink RX5 152 "PointStore$Results" "keys" "[I", .fieldLink RX5 159 "PointStore$Results" "values" "[I", .methodLink RX5 153 yX5_xOf, .static yX5_xOf, .initialized RX5, .code yX5_xOf cX5_xOf 1 (some .int), .methodLink RX5 156 yX5_yOf, .static yX5_yOf, .code yX5_yOf cX5_yOf 1 (some .int)] ++ wsX50 ++ wsX30)
def wsX5_size : List Cond := .code yX5_size cX5_size 1 (some .int) :: ([.fieldLink RX5 61 "PointStore" "results" "LPointStore$Results;", .fieldLink RX5 139 "PointStore$Results" "total" "I"] ++ wsX50 ++ wsX30)
def wsX5_sum : List Cond := .code yX5_sum cX5_sum 10 (some .long) :: ([.fieldLink RX5 65 "PointStore" "powered" "Z", .constantLong RX5 160 (-2), .fieldLink RX5 112 "PointStore$Points" "total" "I", .fieldLink RX5 115 "PointStore$Points" "keys" "[I", .fieldLink RX5 123 "PointStore$Points" "values" "[I", .methodLink RX5 105 yX5_pointsOf, .instanceMethod yX5_pointsOf, .selects RX5 yX5_pointsOf yX5_pointsOf, .initialized RX5, .code yX5_pointsOf cX5_pointsOf 2 (some (.object "PointStore$Points")), .fieldLink RX5 35 "PointStore" "pending" "LPointStore$Points;", .fieldLink RX5 31 "PointStore" "disk" "LPointStore$Disk;", .fieldLink RX5 140 "PointStore$Disk" "home" "LPointStore$Points;", .methodLink RX5 119 yX5_isWithin, .static yX5_isWithin, .code yX5_isWithin cX5_isWithin 7 (some .boolean), .methodLink RX5 153 yX5_xOf, .static yX5_xOf, .code yX5_xOf cX5_xOf 1 (some .int), .methodLink RX5 156 yX5_yOf, .static yX5_yOf, .code yX5_yOf cX5_yOf 1 (some .int)] ++ wsX50 ++ wsX20 ++ wsX10)
def wsX5_losePower : List Cond := .code yX5_losePower cX5_losePower 1 none :: ([.fieldLink RX5 65 "PointStore" "powered" "Z", .fieldLink RX5 69 "PointStore" "cut" "I", .fieldLink RX5 35 "PointStore" "pending" "LPointStore$Points;", .fieldLink RX5 54 "PointStore" "changes" "LPointStore$Changes;", .fieldLink RX5 61 "PointStore" "results" "LPointStore$Results;", .methodLink RX5 170 yX2_clear, .instanceMethod yX2_clear, .selects RX2 yX2_clear yX2_clear, .initialized RX2, .code yX2_clear cX2_clear 1 none, .fieldLink RX2 18 "PointStore$Points" "total" "I", .fieldLink RX2 22 "PointStore$Points" "version" "I", .methodLink RX5 166 yX0_clear, .instanceMethod yX0_clear, .selects RX0 yX0_clear yX0_clear, .initialized RX0, .code yX0_clear cX0_clear 1 none, .fieldLink RX0 18 "PointStore$Changes" "total" "I", .methodLink RX5 109 yX3_clear, .instanceMethod yX3_clear, .selects RX3 yX3_clear yX3_clear, .initialized RX3, .code yX3_clear cX3_clear 1 none, .fieldLink RX3 22 "PointStore$Results" "total" "I"] ++ wsX50 ++ wsX20 ++ wsX00 ++ wsX30)
def wsX5_writeChanges_r1 : List Cond := [Cond.fieldLink RX5 69 "PointStore" "cut" "I", Cond.fieldLink RX5 31 "PointStore" "disk" "LPointStore$Disk;", Cond.fieldLink RX5 54 "PointStore" "changes" "LPointStore$Changes;", Cond.fieldLink RX5 72 "PointStore" "cutParts" "I", Cond.fieldLink RX5 162 "PointStore$Changes" "total" "I", Cond.methodLink RX5 198 yX1_writeLog, Cond.instanceMethod yX1_writeLog, Cond.selects RX1 yX1_writeLog yX1_writeLog, Cond.initialized RX1, Cond.code yX1_writeLog cX1_writeLog 4 none, Cond.fieldLink RX1 26 "PointStore$Changes" "total" "I", Cond.fieldLink RX1 31 "PointStore$Changes" "keys" "[I", Cond.fieldLink RX1 9 "PointStore$Disk" "logKeys" "[I", Cond.methodLink RX1 34 arraycopyName, Cond.native arraycopyName, Cond.static arraycopyName, Cond.initialized "java/lang/System", Cond.fieldLink RX1 40 "PointStore$Changes" "values" "[I", Cond.fieldLink RX1 15 "PointStore$Disk" "logValues" "[I", Cond.methodLink RX5 174 yX5_losePower, Cond.instanceMethod yX5_losePower, Cond.selects RX5 yX5_losePower yX5_losePower, Cond.initialized RX5, Cond.code yX5_losePower cX5_losePower 1 none]
def wsX5_writeChanges_r2 : List Cond := [Cond.fieldLink RX5 65 "PointStore" "powered" "Z", Cond.fieldLink RX5 35 "PointStore" "pending" "LPointStore$Points;", Cond.fieldLink RX5 61 "PointStore" "results" "LPointStore$Results;", Cond.methodLink RX5 170 yX2_clear, Cond.instanceMethod yX2_clear, Cond.selects RX2 yX2_clear yX2_clear, Cond.initialized RX2, Cond.code yX2_clear cX2_clear 1 none, Cond.fieldLink RX2 18 "PointStore$Points" "total" "I", Cond.fieldLink RX2 22 "PointStore$Points" "version" "I", Cond.methodLink RX5 166 yX0_clear, Cond.instanceMethod yX0_clear, Cond.selects RX0 yX0_clear yX0_clear, Cond.initialized RX0, Cond.code yX0_clear cX0_clear 1 none, Cond.fieldLink RX0 18 "PointStore$Changes" "total" "I", Cond.methodLink RX5 109 yX3_clear, Cond.instanceMethod yX3_clear, Cond.selects RX3 yX3_clear yX3_clear, Cond.initialized RX3, Cond.code yX3_clear cX3_clear 1 none, Cond.fieldLink RX3 22 "PointStore$Results" "total" "I", Cond.methodLink RX5 202 yX1_seal, Cond.instanceMethod yX1_seal]
def wsX5_writeChanges_r3 : List Cond := [Cond.selects RX1 yX1_seal yX1_seal, Cond.code yX1_seal cX1_seal 2 none, Cond.fieldLink RX1 18 "PointStore$Disk" "sealed" "I", Cond.methodLink RX5 171 yX1_writeHome, Cond.instanceMethod yX1_writeHome, Cond.selects RX1 yX1_writeHome yX1_writeHome, Cond.code yX1_writeHome cX1_writeHome 4 none, Cond.methodLink RX1 43 yX1_writeAtHome, Cond.instanceMethod yX1_writeAtHome, Cond.selects RX1 yX1_writeAtHome yX1_writeAtHome, Cond.code yX1_writeAtHome cX1_writeAtHome 3 none, Cond.fieldLink RX1 22 "PointStore$Disk" "home" "LPointStore$Points;", Cond.methodLink RX1 47 yX2_clear, Cond.methodLink RX1 52 yX2_takeOut, Cond.instanceMethod yX2_takeOut, Cond.selects RX2 yX2_takeOut yX2_takeOut, Cond.code yX2_takeOut cX2_takeOut 3 none, Cond.fieldLink RX2 9 "PointStore$Points" "keys" "[I", Cond.methodLink RX2 37 arraycopyName, Cond.fieldLink RX2 15 "PointStore$Points" "values" "[I", Cond.methodLink RX2 26 yX2_placeOf, Cond.instanceMethod yX2_placeOf, Cond.selects RX2 yX2_placeOf yX2_placeOf, Cond.code yX2_placeOf cX2_placeOf 4 (some .int)]
def wsX5_writeChanges_r4 : List Cond := [Cond.methodLink RX2 30 yX2_keyAt, Cond.instanceMethod yX2_keyAt, Cond.selects RX2 yX2_keyAt yX2_keyAt, Cond.code yX2_keyAt cX2_keyAt 2 (some .int), Cond.constant RX2 25 (1073741824), Cond.methodLink RX1 56 yX2_put, Cond.instanceMethod yX2_put, Cond.selects RX2 yX2_put yX2_put, Cond.code yX2_put cX2_put 4 none, Cond.methodLink RX2 33 yX2_isFull, Cond.instanceMethod yX2_isFull, Cond.selects RX2 yX2_isFull yX2_isFull, Cond.code yX2_isFull cX2_isFull 1 (some .boolean), Cond.methodLink RX5 177 yX1_end, Cond.instanceMethod yX1_end, Cond.selects RX1 yX1_end yX1_end, Cond.code yX1_end cX1_end 1 none]
def wsX5_writeChanges : List Cond := .code yX5_writeChanges cX5_writeChanges 1 (some .boolean) :: ((wsX5_writeChanges_r1 ++ (wsX5_writeChanges_r2 ++ (wsX5_writeChanges_r3 ++ wsX5_writeChanges_r4))) ++ wsX50 ++ wsX00 ++ wsX10 ++ wsX20 ++ wsX30)
def wsX5_commit_r1 : List Cond := [Cond.fieldLink RX5 65 "PointStore" "powered" "Z", Cond.fieldLink RX5 54 "PointStore" "changes" "LPointStore$Changes;", Cond.fieldLink RX5 162 "PointStore$Changes" "total" "I", Cond.methodLink RX5 163 yX5_writeChanges, Cond.instanceMethod yX5_writeChanges, Cond.selects RX5 yX5_writeChanges yX5_writeChanges, Cond.initialized RX5, Cond.code yX5_writeChanges cX5_writeChanges 1 (some .boolean), Cond.fieldLink RX5 69 "PointStore" "cut" "I", Cond.fieldLink RX5 31 "PointStore" "disk" "LPointStore$Disk;", Cond.fieldLink RX5 72 "PointStore" "cutParts" "I", Cond.methodLink RX5 198 yX1_writeLog, Cond.instanceMethod yX1_writeLog, Cond.selects RX1 yX1_writeLog yX1_writeLog, Cond.initialized RX1, Cond.code yX1_writeLog cX1_writeLog 4 none, Cond.fieldLink RX1 26 "PointStore$Changes" "total" "I", Cond.fieldLink RX1 31 "PointStore$Changes" "keys" "[I", Cond.fieldLink RX1 9 "PointStore$Disk" "logKeys" "[I", Cond.methodLink RX1 34 arraycopyName, Cond.native arraycopyName, Cond.static arraycopyName, Cond.initialized "java/lang/System", Cond.fieldLink RX1 40 "PointStore$Changes" "values" "[I"]
def wsX5_commit_r2 : List Cond := [Cond.fieldLink RX1 15 "PointStore$Disk" "logValues" "[I", Cond.methodLink RX5 174 yX5_losePower, Cond.instanceMethod yX5_losePower, Cond.selects RX5 yX5_losePower yX5_losePower, Cond.code yX5_losePower cX5_losePower 1 none, Cond.fieldLink RX5 35 "PointStore" "pending" "LPointStore$Points;", Cond.fieldLink RX5 61 "PointStore" "results" "LPointStore$Results;", Cond.methodLink RX5 170 yX2_clear, Cond.instanceMethod yX2_clear, Cond.selects RX2 yX2_clear yX2_clear, Cond.initialized RX2, Cond.code yX2_clear cX2_clear 1 none, Cond.fieldLink RX2 18 "PointStore$Points" "total" "I", Cond.fieldLink RX2 22 "PointStore$Points" "version" "I", Cond.methodLink RX5 166 yX0_clear, Cond.instanceMethod yX0_clear, Cond.selects RX0 yX0_clear yX0_clear, Cond.initialized RX0, Cond.code yX0_clear cX0_clear 1 none, Cond.fieldLink RX0 18 "PointStore$Changes" "total" "I", Cond.methodLink RX5 109 yX3_clear, Cond.instanceMethod yX3_clear, Cond.selects RX3 yX3_clear yX3_clear, Cond.initialized RX3]
def wsX5_commit_r3 : List Cond := [Cond.code yX3_clear cX3_clear 1 none, Cond.fieldLink RX3 22 "PointStore$Results" "total" "I", Cond.methodLink RX5 202 yX1_seal, Cond.instanceMethod yX1_seal, Cond.selects RX1 yX1_seal yX1_seal, Cond.code yX1_seal cX1_seal 2 none, Cond.fieldLink RX1 18 "PointStore$Disk" "sealed" "I", Cond.methodLink RX5 171 yX1_writeHome, Cond.instanceMethod yX1_writeHome, Cond.selects RX1 yX1_writeHome yX1_writeHome, Cond.code yX1_writeHome cX1_writeHome 4 none, Cond.methodLink RX1 43 yX1_writeAtHome, Cond.instanceMethod yX1_writeAtHome, Cond.selects RX1 yX1_writeAtHome yX1_writeAtHome, Cond.code yX1_writeAtHome cX1_writeAtHome 3 none, Cond.fieldLink RX1 22 "PointStore$Disk" "home" "LPointStore$Points;", Cond.methodLink RX1 47 yX2_clear, Cond.methodLink RX1 52 yX2_takeOut, Cond.instanceMethod yX2_takeOut, Cond.selects RX2 yX2_takeOut yX2_takeOut, Cond.code yX2_takeOut cX2_takeOut 3 none, Cond.fieldLink RX2 9 "PointStore$Points" "keys" "[I", Cond.methodLink RX2 37 arraycopyName, Cond.fieldLink RX2 15 "PointStore$Points" "values" "[I"]
def wsX5_commit_r4 : List Cond := [Cond.methodLink RX2 26 yX2_placeOf, Cond.instanceMethod yX2_placeOf, Cond.selects RX2 yX2_placeOf yX2_placeOf, Cond.code yX2_placeOf cX2_placeOf 4 (some .int), Cond.methodLink RX2 30 yX2_keyAt, Cond.instanceMethod yX2_keyAt, Cond.selects RX2 yX2_keyAt yX2_keyAt, Cond.code yX2_keyAt cX2_keyAt 2 (some .int), Cond.constant RX2 25 (1073741824), Cond.methodLink RX1 56 yX2_put, Cond.instanceMethod yX2_put, Cond.selects RX2 yX2_put yX2_put, Cond.code yX2_put cX2_put 4 none, Cond.methodLink RX2 33 yX2_isFull, Cond.instanceMethod yX2_isFull, Cond.selects RX2 yX2_isFull yX2_isFull, Cond.code yX2_isFull cX2_isFull 1 (some .boolean), Cond.methodLink RX5 177 yX1_end, Cond.instanceMethod yX1_end, Cond.selects RX1 yX1_end yX1_end, Cond.code yX1_end cX1_end 1 none]
def wsX5_commit : List Cond := .code yX5_commit cX5_commit 2 (some .int) :: ((wsX5_commit_r1 ++ (wsX5_commit_r2 ++ (wsX5_commit_r3 ++ wsX5_commit_r4))) ++ wsX50 ++ wsX00 ++ wsX10 ++ wsX20 ++ wsX30)
def wsX5_abort_r1 : List Cond := [Cond.fieldLink RX5 65 "PointStore" "powered" "Z", Cond.fieldLink RX5 54 "PointStore" "changes" "LPointStore$Changes;", Cond.fieldLink RX5 162 "PointStore$Changes" "total" "I", Cond.fieldLink RX5 35 "PointStore" "pending" "LPointStore$Points;", Cond.fieldLink RX5 31 "PointStore" "disk" "LPointStore$Disk;", Cond.fieldLink RX5 140 "PointStore$Disk" "home" "LPointStore$Points;", Cond.methodLink RX5 167 yX2_copyFrom, Cond.instanceMethod yX2_copyFrom, Cond.selects RX2 yX2_copyFrom yX2_copyFrom, Cond.initialized RX2, Cond.code yX2_copyFrom cX2_copyFrom 2 none, Cond.fieldLink RX2 9 "PointStore$Points" "keys" "[I", Cond.fieldLink RX2 18 "PointStore$Points" "total" "I", Cond.methodLink RX2 37 arraycopyName, Cond.native arraycopyName, Cond.static arraycopyName, Cond.initialized "java/lang/System", Cond.fieldLink RX2 15 "PointStore$Points" "values" "[I", Cond.fieldLink RX2 22 "PointStore$Points" "version" "I", Cond.methodLink RX5 166 yX0_clear, Cond.instanceMethod yX0_clear, Cond.selects RX0 yX0_clear yX0_clear, Cond.initialized RX0, Cond.code yX0_clear cX0_clear 1 none]
def wsX5_abort_r2 : List Cond := [Cond.fieldLink RX0 18 "PointStore$Changes" "total" "I"]
def wsX5_abort : List Cond := .code yX5_abort cX5_abort 2 (some .int) :: ((wsX5_abort_r1 ++ wsX5_abort_r2) ++ wsX50 ++ wsX00 ++ wsX10 ++ wsX20)
def wsX5_format_r1 : List Cond := [Cond.fieldLink RX5 65 "PointStore" "powered" "Z", Cond.fieldLink RX5 54 "PointStore" "changes" "LPointStore$Changes;", Cond.fieldLink RX5 35 "PointStore" "pending" "LPointStore$Points;", Cond.methodLink RX5 166 yX0_clear, Cond.instanceMethod yX0_clear, Cond.selects RX0 yX0_clear yX0_clear, Cond.initialized RX0, Cond.code yX0_clear cX0_clear 1 none, Cond.fieldLink RX0 18 "PointStore$Changes" "total" "I", Cond.methodLink RX5 98 yX0_add, Cond.instanceMethod yX0_add, Cond.selects RX0 yX0_add yX0_add, Cond.code yX0_add cX0_add 3 none, Cond.fieldLink RX0 9 "PointStore$Changes" "keys" "[I", Cond.fieldLink RX0 15 "PointStore$Changes" "values" "[I", Cond.methodLink RX0 22 yX0_isFull, Cond.instanceMethod yX0_isFull, Cond.selects RX0 yX0_isFull yX0_isFull, Cond.code yX0_isFull cX0_isFull 1 (some .boolean), Cond.methodLink RX5 163 yX5_writeChanges, Cond.instanceMethod yX5_writeChanges, Cond.selects RX5 yX5_writeChanges yX5_writeChanges, Cond.initialized RX5, Cond.code yX5_writeChanges cX5_writeChanges 1 (some .boolean)]
def wsX5_format_r2 : List Cond := [Cond.fieldLink RX5 69 "PointStore" "cut" "I", Cond.fieldLink RX5 31 "PointStore" "disk" "LPointStore$Disk;", Cond.fieldLink RX5 72 "PointStore" "cutParts" "I", Cond.fieldLink RX5 162 "PointStore$Changes" "total" "I", Cond.methodLink RX5 198 yX1_writeLog, Cond.instanceMethod yX1_writeLog, Cond.selects RX1 yX1_writeLog yX1_writeLog, Cond.initialized RX1, Cond.code yX1_writeLog cX1_writeLog 4 none, Cond.fieldLink RX1 26 "PointStore$Changes" "total" "I", Cond.fieldLink RX1 31 "PointStore$Changes" "keys" "[I", Cond.fieldLink RX1 9 "PointStore$Disk" "logKeys" "[I", Cond.methodLink RX1 34 arraycopyName, Cond.native arraycopyName, Cond.static arraycopyName, Cond.initialized "java/lang/System", Cond.fieldLink RX1 40 "PointStore$Changes" "values" "[I", Cond.fieldLink RX1 15 "PointStore$Disk" "logValues" "[I", Cond.methodLink RX5 174 yX5_losePower, Cond.instanceMethod yX5_losePower, Cond.selects RX5 yX5_losePower yX5_losePower, Cond.code yX5_losePower cX5_losePower 1 none, Cond.fieldLink RX5 61 "PointStore" "results" "LPointStore$Results;", Cond.methodLink RX5 170 yX2_clear]
def wsX5_format_r3 : List Cond := [Cond.instanceMethod yX2_clear, Cond.selects RX2 yX2_clear yX2_clear, Cond.initialized RX2, Cond.code yX2_clear cX2_clear 1 none, Cond.fieldLink RX2 18 "PointStore$Points" "total" "I", Cond.fieldLink RX2 22 "PointStore$Points" "version" "I", Cond.methodLink RX5 109 yX3_clear, Cond.instanceMethod yX3_clear, Cond.selects RX3 yX3_clear yX3_clear, Cond.initialized RX3, Cond.code yX3_clear cX3_clear 1 none, Cond.fieldLink RX3 22 "PointStore$Results" "total" "I", Cond.methodLink RX5 202 yX1_seal, Cond.instanceMethod yX1_seal, Cond.selects RX1 yX1_seal yX1_seal, Cond.code yX1_seal cX1_seal 2 none, Cond.fieldLink RX1 18 "PointStore$Disk" "sealed" "I", Cond.methodLink RX5 171 yX1_writeHome, Cond.instanceMethod yX1_writeHome, Cond.selects RX1 yX1_writeHome yX1_writeHome, Cond.code yX1_writeHome cX1_writeHome 4 none, Cond.methodLink RX1 43 yX1_writeAtHome, Cond.instanceMethod yX1_writeAtHome, Cond.selects RX1 yX1_writeAtHome yX1_writeAtHome]
def wsX5_format_r4 : List Cond := [Cond.code yX1_writeAtHome cX1_writeAtHome 3 none, Cond.fieldLink RX1 22 "PointStore$Disk" "home" "LPointStore$Points;", Cond.methodLink RX1 47 yX2_clear, Cond.methodLink RX1 52 yX2_takeOut, Cond.instanceMethod yX2_takeOut, Cond.selects RX2 yX2_takeOut yX2_takeOut, Cond.code yX2_takeOut cX2_takeOut 3 none, Cond.fieldLink RX2 9 "PointStore$Points" "keys" "[I", Cond.methodLink RX2 37 arraycopyName, Cond.fieldLink RX2 15 "PointStore$Points" "values" "[I", Cond.methodLink RX2 26 yX2_placeOf, Cond.instanceMethod yX2_placeOf, Cond.selects RX2 yX2_placeOf yX2_placeOf, Cond.code yX2_placeOf cX2_placeOf 4 (some .int), Cond.methodLink RX2 30 yX2_keyAt, Cond.instanceMethod yX2_keyAt, Cond.selects RX2 yX2_keyAt yX2_keyAt, Cond.code yX2_keyAt cX2_keyAt 2 (some .int), Cond.constant RX2 25 (1073741824), Cond.methodLink RX1 56 yX2_put, Cond.instanceMethod yX2_put, Cond.selects RX2 yX2_put yX2_put, Cond.code yX2_put cX2_put 4 none, Cond.methodLink RX2 33 yX2_isFull]
def wsX5_format_r5 : List Cond := [Cond.instanceMethod yX2_isFull, Cond.selects RX2 yX2_isFull yX2_isFull, Cond.code yX2_isFull cX2_isFull 1 (some .boolean), Cond.methodLink RX5 177 yX1_end, Cond.instanceMethod yX1_end, Cond.selects RX1 yX1_end yX1_end, Cond.code yX1_end cX1_end 1 none]
def wsX5_format : List Cond := .code yX5_format cX5_format 1 (some .int) :: ((wsX5_format_r1 ++ (wsX5_format_r2 ++ (wsX5_format_r3 ++ (wsX5_format_r4 ++ wsX5_format_r5)))) ++ wsX50 ++ wsX00 ++ wsX10 ++ wsX20 ++ wsX30)
def wsX5_arm : List Cond := .code yX5_arm cX5_arm 3 (some .boolean) :: ([.fieldLink RX5 69 "PointStore" "cut" "I", .fieldLink RX5 72 "PointStore" "cutParts" "I"] ++ wsX50)
def wsX5_recover_r1 : List Cond := [Cond.fieldLink RX5 69 "PointStore" "cut" "I", Cond.fieldLink RX5 31 "PointStore" "disk" "LPointStore$Disk;", Cond.fieldLink RX5 72 "PointStore" "cutParts" "I", Cond.fieldLink RX5 35 "PointStore" "pending" "LPointStore$Points;", Cond.fieldLink RX5 140 "PointStore$Disk" "home" "LPointStore$Points;", Cond.fieldLink RX5 54 "PointStore" "changes" "LPointStore$Changes;", Cond.fieldLink RX5 61 "PointStore" "results" "LPointStore$Results;", Cond.fieldLink RX5 65 "PointStore" "powered" "Z", Cond.methodLink RX5 171 yX1_writeHome, Cond.instanceMethod yX1_writeHome, Cond.selects RX1 yX1_writeHome yX1_writeHome, Cond.initialized RX1, Cond.code yX1_writeHome cX1_writeHome 4 none, Cond.fieldLink RX1 18 "PointStore$Disk" "sealed" "I", Cond.fieldLink RX1 9 "PointStore$Disk" "logKeys" "[I", Cond.fieldLink RX1 15 "PointStore$Disk" "logValues" "[I", Cond.methodLink RX1 43 yX1_writeAtHome, Cond.instanceMethod yX1_writeAtHome, Cond.selects RX1 yX1_writeAtHome yX1_writeAtHome, Cond.code yX1_writeAtHome cX1_writeAtHome 3 none, Cond.fieldLink RX1 22 "PointStore$Disk" "home" "LPointStore$Points;", Cond.methodLink RX1 47 yX2_clear, Cond.instanceMethod yX2_clear, Cond.selects RX2 yX2_clear yX2_clear]
def wsX5_recover_r2 : List Cond := [Cond.initialized RX2, Cond.code yX2_clear cX2_clear 1 none, Cond.fieldLink RX2 18 "PointStore$Points" "total" "I", Cond.fieldLink RX2 22 "PointStore$Points" "version" "I", Cond.methodLink RX1 52 yX2_takeOut, Cond.instanceMethod yX2_takeOut, Cond.selects RX2 yX2_takeOut yX2_takeOut, Cond.code yX2_takeOut cX2_takeOut 3 none, Cond.fieldLink RX2 9 "PointStore$Points" "keys" "[I", Cond.methodLink RX2 37 arraycopyName, Cond.native arraycopyName, Cond.static arraycopyName, Cond.initialized "java/lang/System", Cond.fieldLink RX2 15 "PointStore$Points" "values" "[I", Cond.methodLink RX2 26 yX2_placeOf, Cond.instanceMethod yX2_placeOf, Cond.selects RX2 yX2_placeOf yX2_placeOf, Cond.code yX2_placeOf cX2_placeOf 4 (some .int), Cond.methodLink RX2 30 yX2_keyAt, Cond.instanceMethod yX2_keyAt, Cond.selects RX2 yX2_keyAt yX2_keyAt, Cond.code yX2_keyAt cX2_keyAt 2 (some .int), Cond.constant RX2 25 (1073741824), Cond.methodLink RX1 56 yX2_put]
def wsX5_recover_r3 : List Cond := [Cond.instanceMethod yX2_put, Cond.selects RX2 yX2_put yX2_put, Cond.code yX2_put cX2_put 4 none, Cond.methodLink RX2 33 yX2_isFull, Cond.instanceMethod yX2_isFull, Cond.selects RX2 yX2_isFull yX2_isFull, Cond.code yX2_isFull cX2_isFull 1 (some .boolean), Cond.methodLink RX5 174 yX5_losePower, Cond.instanceMethod yX5_losePower, Cond.selects RX5 yX5_losePower yX5_losePower, Cond.initialized RX5, Cond.code yX5_losePower cX5_losePower 1 none, Cond.methodLink RX5 170 yX2_clear, Cond.methodLink RX5 166 yX0_clear, Cond.instanceMethod yX0_clear, Cond.selects RX0 yX0_clear yX0_clear, Cond.initialized RX0, Cond.code yX0_clear cX0_clear 1 none, Cond.fieldLink RX0 18 "PointStore$Changes" "total" "I", Cond.methodLink RX5 109 yX3_clear, Cond.instanceMethod yX3_clear, Cond.selects RX3 yX3_clear yX3_clear, Cond.initialized RX3, Cond.code yX3_clear cX3_clear 1 none]
def wsX5_recover_r4 : List Cond := [Cond.fieldLink RX3 22 "PointStore$Results" "total" "I", Cond.methodLink RX5 177 yX1_end, Cond.instanceMethod yX1_end, Cond.selects RX1 yX1_end yX1_end, Cond.code yX1_end cX1_end 1 none, Cond.methodLink RX5 167 yX2_copyFrom, Cond.instanceMethod yX2_copyFrom, Cond.selects RX2 yX2_copyFrom yX2_copyFrom, Cond.code yX2_copyFrom cX2_copyFrom 2 none]
def wsX5_recover : List Cond := .code yX5_recover cX5_recover 1 (some .int) :: ((wsX5_recover_r1 ++ (wsX5_recover_r2 ++ (wsX5_recover_r3 ++ wsX5_recover_r4))) ++ wsX50 ++ wsX10 ++ wsX20 ++ wsX00 ++ wsX30)
def wsX5_treeOf : List Cond := .code yX5_treeOf cX5_treeOf 2 (some (.object "PointStore$Tree")) :: ([.fieldLink RX5 44 "PointStore" "pendingTree" "LPointStore$Tree;", .fieldLink RX5 48 "PointStore" "committedTree" "LPointStore$Tree;"] ++ wsX50)
def wsX5_node_r1 : List Cond := [Cond.fieldLink RX5 65 "PointStore" "powered" "Z", Cond.methodLink RX5 180 yX5_treeOf, Cond.instanceMethod yX5_treeOf, Cond.selects RX5 yX5_treeOf yX5_treeOf, Cond.initialized RX5, Cond.code yX5_treeOf cX5_treeOf 2 (some (.object "PointStore$Tree")), Cond.fieldLink RX5 44 "PointStore" "pendingTree" "LPointStore$Tree;", Cond.fieldLink RX5 48 "PointStore" "committedTree" "LPointStore$Tree;", Cond.methodLink RX5 184 yX4_upToDate, Cond.instanceMethod yX4_upToDate, Cond.selects RX4 yX4_upToDate yX4_upToDate, Cond.initialized RX4, Cond.code yX4_upToDate cX4_upToDate 2 (some (.object "PointStore$Tree")), Cond.fieldLink RX4 22 "PointStore$Tree" "madeOf" "I", Cond.fieldLink RX4 25 "PointStore$Tree" "points" "LPointStore$Points;", Cond.fieldLink RX4 41 "PointStore$Points" "version" "I", Cond.fieldLink RX4 46 "PointStore$Points" "total" "I", Cond.fieldLink RX4 9 "PointStore$Tree" "order" "[I", Cond.fieldLink RX4 15 "PointStore$Tree" "nodes" "I", Cond.fieldLink RX4 19 "PointStore$Tree" "depth" "I", Cond.methodLink RX4 49 yX4_grow, Cond.static yX4_grow, Cond.code yX4_grow cX4_grow 14 none, Cond.fieldLink RX4 32 "PointStore$Tree" "bits" "I"]
def wsX5_node_r2 : List Cond := [Cond.fieldLink RX4 35 "PointStore$Tree" "mostNodes" "I", Cond.methodLink RX4 53 Lib.Math.max.name, Cond.static Lib.Math.max.name, Cond.initialized "java/lang/Math", Cond.code Lib.Math.max.name Lib.Math.max.code 2 (some .int), Cond.fieldLink RX4 38 "PointStore$Tree" "facts" "[I", Cond.fieldLink RX4 29 "PointStore$Tree" "bucket" "I", Cond.methodLink RX4 59 yX4_lowBitsOf, Cond.instanceMethod yX4_lowBitsOf, Cond.selects RX4 yX4_lowBitsOf yX4_lowBitsOf, Cond.code yX4_lowBitsOf cX4_lowBitsOf 5 (some .int), Cond.fieldLink RX4 73 "PointStore$Points" "values" "[I", Cond.constant RX4 76 (65535), Cond.methodLink RX4 62 yX4_gather, Cond.instanceMethod yX4_gather, Cond.selects RX4 yX4_gather yX4_gather, Cond.code yX4_gather cX4_gather 9 (some .int), Cond.fieldLink RX4 66 "PointStore$Points" "keys" "[I", Cond.static yX5_isWithin, Cond.code yX5_isWithin cX5_isWithin 7 (some .boolean), Cond.methodLink RX5 153 yX5_xOf, Cond.static yX5_xOf, Cond.code yX5_xOf cX5_xOf 1 (some .int), Cond.methodLink RX5 156 yX5_yOf]
def wsX5_node_r3 : List Cond := [Cond.static yX5_yOf, Cond.code yX5_yOf cX5_yOf 1 (some .int), Cond.methodLink RX5 188 yX4_factOf, Cond.instanceMethod yX4_factOf, Cond.selects RX4 yX4_factOf yX4_factOf, Cond.code yX4_factOf cX4_factOf 3 (some .int)]
def wsX5_node : List Cond := .code yX5_node cX5_node 5 (some .int) :: ((wsX5_node_r1 ++ (wsX5_node_r2 ++ wsX5_node_r3)) ++ wsX50 ++ wsX40 ++ wsX20)
def wsX5_count_r1 : List Cond := [Cond.fieldLink RX5 65 "PointStore" "powered" "Z", Cond.fieldLink RX5 35 "PointStore" "pending" "LPointStore$Points;", Cond.fieldLink RX5 112 "PointStore$Points" "total" "I", Cond.fieldLink RX5 31 "PointStore" "disk" "LPointStore$Disk;", Cond.fieldLink RX5 140 "PointStore$Disk" "home" "LPointStore$Points;", Cond.fieldLink RX5 44 "PointStore" "pendingTree" "LPointStore$Tree;", Cond.fieldLink RX5 191 "PointStore$Tree" "nodes" "I", Cond.fieldLink RX5 48 "PointStore" "committedTree" "LPointStore$Tree;", Cond.fieldLink RX5 16 "PointStore" "blocks" "I", Cond.fieldLink RX5 54 "PointStore" "changes" "LPointStore$Changes;", Cond.fieldLink RX5 162 "PointStore$Changes" "total" "I", Cond.fieldLink RX5 194 "PointStore$Tree" "depth" "I", Cond.fieldLink RX5 69 "PointStore" "cut" "I", Cond.fieldLink RX5 20 "PointStore" "bucket" "I", Cond.fieldLink RX5 23 "PointStore" "span" "I", Cond.methodLink RX5 184 yX4_upToDate, Cond.instanceMethod yX4_upToDate, Cond.selects RX4 yX4_upToDate yX4_upToDate, Cond.initialized RX4, Cond.code yX4_upToDate cX4_upToDate 2 (some (.object "PointStore$Tree")), Cond.fieldLink RX4 22 "PointStore$Tree" "madeOf" "I", Cond.fieldLink RX4 25 "PointStore$Tree" "points" "LPointStore$Points;", Cond.fieldLink RX4 41 "PointStore$Points" "version" "I", Cond.fieldLink RX4 46 "PointStore$Points" "total" "I"]
def wsX5_count_r2 : List Cond := [Cond.fieldLink RX4 9 "PointStore$Tree" "order" "[I", Cond.fieldLink RX4 15 "PointStore$Tree" "nodes" "I", Cond.fieldLink RX4 19 "PointStore$Tree" "depth" "I", Cond.methodLink RX4 49 yX4_grow, Cond.static yX4_grow, Cond.code yX4_grow cX4_grow 14 none, Cond.fieldLink RX4 32 "PointStore$Tree" "bits" "I", Cond.fieldLink RX4 35 "PointStore$Tree" "mostNodes" "I", Cond.methodLink RX4 53 Lib.Math.max.name, Cond.static Lib.Math.max.name, Cond.initialized "java/lang/Math", Cond.code Lib.Math.max.name Lib.Math.max.code 2 (some .int), Cond.fieldLink RX4 38 "PointStore$Tree" "facts" "[I", Cond.fieldLink RX4 29 "PointStore$Tree" "bucket" "I", Cond.methodLink RX4 59 yX4_lowBitsOf, Cond.instanceMethod yX4_lowBitsOf, Cond.selects RX4 yX4_lowBitsOf yX4_lowBitsOf, Cond.code yX4_lowBitsOf cX4_lowBitsOf 5 (some .int), Cond.fieldLink RX4 73 "PointStore$Points" "values" "[I", Cond.constant RX4 76 (65535), Cond.methodLink RX4 62 yX4_gather, Cond.instanceMethod yX4_gather, Cond.selects RX4 yX4_gather yX4_gather, Cond.code yX4_gather cX4_gather 9 (some .int)]
def wsX5_count_r3 : List Cond := [Cond.fieldLink RX4 66 "PointStore$Points" "keys" "[I", Cond.static yX5_isWithin, Cond.initialized RX5, Cond.code yX5_isWithin cX5_isWithin 7 (some .boolean), Cond.methodLink RX5 153 yX5_xOf, Cond.static yX5_xOf, Cond.code yX5_xOf cX5_xOf 1 (some .int), Cond.methodLink RX5 156 yX5_yOf, Cond.static yX5_yOf, Cond.code yX5_yOf cX5_yOf 1 (some .int)]
def wsX5_count : List Cond := .code yX5_count cX5_count 2 (some .int) :: ((wsX5_count_r1 ++ (wsX5_count_r2 ++ wsX5_count_r3)) ++ wsX50 ++ wsX20 ++ wsX10 ++ wsX40 ++ wsX00)
def wsX6_init : List Cond := .code yX6_init cX6_init 4 none :: ([.methodLink RX6 1 objectInit, .instanceMethod objectInit, .code objectInit ⟨#[0xb1]⟩ 1 none, .arrayClass .int, .fieldLink RX6 7 "PointStoreModel" "many" "[I", .fieldLink RX6 13 "PointStoreModel" "xs" "[I", .fieldLink RX6 16 "PointStoreModel" "ys" "[I", .fieldLink RX6 19 "PointStoreModel" "values" "[I", .arrayClass .long, .fieldLink RX6 22 "PointStoreModel" "codes" "[J", .fieldLink RX6 26 "PointStoreModel" "codeValues" "[I", .fieldLink RX6 29 "PointStoreModel" "armed" "I", .fieldLink RX6 33 "PointStoreModel" "waitLevel" "[I", .fieldLink RX6 36 "PointStoreModel" "waitCode" "[J", .fieldLink RX6 39 "PointStoreModel" "resultX" "[I", .fieldLink RX6 42 "PointStoreModel" "resultY" "[I", .fieldLink RX6 45 "PointStoreModel" "resultValue" "[I", .fieldLink RX6 48 "PointStoreModel" "far" "[J", .fieldLink RX6 51 "PointStoreModel" "blocks" "I", .fieldLink RX6 54 "PointStoreModel" "bucket" "I", .fieldLink RX6 57 "PointStoreModel" "bits" "I", .fieldLink RX6 60 "PointStoreModel" "span" "I"] ++ wsX60)
def wsX6_isInside : List Cond := .code yX6_isInside cX6_isInside 3 (some .boolean) :: ([.fieldLink RX6 60 "PointStoreModel" "span" "I"] ++ wsX60)
def wsX6_isState : List Cond := .code yX6_isState cX6_isState 1 (some .boolean) :: ([])
def wsX6_placeOf : List Cond := .code yX6_placeOf cX6_placeOf 8 (some .int) :: ([.fieldLink RX6 7 "PointStoreModel" "many" "[I", .fieldLink RX6 13 "PointStoreModel" "xs" "[I", .fieldLink RX6 16 "PointStoreModel" "ys" "[I"] ++ wsX60)
def wsX6_isAt : List Cond := .code yX6_isAt cX6_isAt 5 (some .boolean) :: ([.fieldLink RX6 7 "PointStoreModel" "many" "[I", .fieldLink RX6 13 "PointStoreModel" "xs" "[I", .fieldLink RX6 16 "PointStoreModel" "ys" "[I"] ++ wsX60)
def wsX6_codeOf : List Cond := .code yX6_codeOf cX6_codeOf 6 (some .long) :: ([.fieldLink RX6 57 "PointStoreModel" "bits" "I"] ++ wsX60)
def wsX6_below : List Cond := .code yX6_below cX6_below 7 (some .int) :: ([.fieldLink RX6 7 "PointStoreModel" "many" "[I", .fieldLink RX6 22 "PointStoreModel" "codes" "[J"] ++ wsX60)
def wsX6_puts : List Cond := .code yX6_puts cX6_puts 9 none :: ([.fieldLink RX6 7 "PointStoreModel" "many" "[I", .fieldLink RX6 13 "PointStoreModel" "xs" "[I", .fieldLink RX6 16 "PointStoreModel" "ys" "[I", .fieldLink RX6 19 "PointStoreModel" "values" "[I", .fieldLink RX6 22 "PointStoreModel" "codes" "[J", .fieldLink RX6 26 "PointStoreModel" "codeValues" "[I", .methodLink RX6 63 yX6_codeOf, .instanceMethod yX6_codeOf, .selects RX6 yX6_codeOf yX6_codeOf, .initialized RX6, .code yX6_codeOf cX6_codeOf 6 (some .long), .fieldLink RX6 57 "PointStoreModel" "bits" "I", .methodLink RX6 67 yX6_below, .instanceMethod yX6_below, .selects RX6 yX6_below yX6_below, .code yX6_below cX6_below 7 (some .int)] ++ wsX60)
def wsX6_takes : List Cond := .code yX6_takes cX6_takes 4 none :: ([.fieldLink RX6 13 "PointStoreModel" "xs" "[I", .fieldLink RX6 16 "PointStoreModel" "ys" "[I", .fieldLink RX6 7 "PointStoreModel" "many" "[I", .fieldLink RX6 19 "PointStoreModel" "values" "[I", .fieldLink RX6 22 "PointStoreModel" "codes" "[J", .fieldLink RX6 26 "PointStoreModel" "codeValues" "[I", .methodLink RX6 63 yX6_codeOf, .instanceMethod yX6_codeOf, .selects RX6 yX6_codeOf yX6_codeOf, .initialized RX6, .code yX6_codeOf cX6_codeOf 6 (some .long), .fieldLink RX6 57 "PointStoreModel" "bits" "I", .methodLink RX6 67 yX6_below, .instanceMethod yX6_below, .selects RX6 yX6_below yX6_below, .code yX6_below cX6_below 7 (some .int)] ++ wsX60)
def wsX6_becomes : List Cond := .code yX6_becomes cX6_becomes 6 none :: ([.fieldLink RX6 7 "PointStoreModel" "many" "[I", .fieldLink RX6 13 "PointStoreModel" "xs" "[I", .fieldLink RX6 16 "PointStoreModel" "ys" "[I", .fieldLink RX6 19 "PointStoreModel" "values" "[I", .fieldLink RX6 22 "PointStoreModel" "codes" "[J", .fieldLink RX6 26 "PointStoreModel" "codeValues" "[I", .fieldLink RX6 71 "PointStoreModel" "changes" "I"] ++ wsX60)
def wsX6_begins : List Cond := .code yX6_begins cX6_begins 1 none :: ([.fieldLink RX6 74 "PointStoreModel" "waits" "I", .fieldLink RX6 33 "PointStoreModel" "waitLevel" "[I", .fieldLink RX6 36 "PointStoreModel" "waitCode" "[J"] ++ wsX60)
def wsX6_next : List Cond := .code yX6_next cX6_next 1 (some .long) :: ([.fieldLink RX6 77 "PointStoreModel" "code" "J", .fieldLink RX6 57 "PointStoreModel" "bits" "I", .fieldLink RX6 81 "PointStoreModel" "level" "I"] ++ wsX60)
def wsX6_part : List Cond := .code yX6_part cX6_part 5 (some .int) :: ([.fieldLink RX6 57 "PointStoreModel" "bits" "I", .fieldLink RX6 81 "PointStoreModel" "level" "I", .fieldLink RX6 77 "PointStoreModel" "code" "J", .methodLink RX6 67 yX6_below, .instanceMethod yX6_below, .selects RX6 yX6_below yX6_below, .initialized RX6, .code yX6_below cX6_below 7 (some .int), .fieldLink RX6 7 "PointStoreModel" "many" "[I", .fieldLink RX6 22 "PointStoreModel" "codes" "[J"] ++ wsX60)
def wsX6_comes : List Cond := .code yX6_comes cX6_comes 3 (some .boolean) :: ([.fieldLink RX6 74 "PointStoreModel" "waits" "I", .fieldLink RX6 33 "PointStoreModel" "waitLevel" "[I", .fieldLink RX6 81 "PointStoreModel" "level" "I", .fieldLink RX6 36 "PointStoreModel" "waitCode" "[J", .fieldLink RX6 77 "PointStoreModel" "code" "J", .fieldLink RX6 84 "PointStoreModel" "first" "I", .fieldLink RX6 91 "PointStoreModel" "end" "I", .fieldLink RX6 54 "PointStoreModel" "bucket" "I", .fieldLink RX6 57 "PointStoreModel" "bits" "I", .methodLink RX6 67 yX6_below, .instanceMethod yX6_below, .selects RX6 yX6_below yX6_below, .initialized RX6, .code yX6_below cX6_below 7 (some .int), .fieldLink RX6 7 "PointStoreModel" "many" "[I", .fieldLink RX6 22 "PointStoreModel" "codes" "[J", .methodLink RX6 87 yX6_next, .instanceMethod yX6_next, .selects RX6 yX6_next yX6_next, .code yX6_next cX6_next 1 (some .long), .methodLink RX6 94 yX6_part, .instanceMethod yX6_part, .selects RX6 yX6_part yX6_part, .code yX6_part cX6_part 5 (some .int)] ++ wsX60)
def wsX6_nodes_r1 : List Cond := [Cond.methodLink RX6 98 yX6_begins, Cond.instanceMethod yX6_begins, Cond.selects RX6 yX6_begins yX6_begins, Cond.initialized RX6, Cond.code yX6_begins cX6_begins 1 none, Cond.fieldLink RX6 74 "PointStoreModel" "waits" "I", Cond.fieldLink RX6 33 "PointStoreModel" "waitLevel" "[I", Cond.fieldLink RX6 36 "PointStoreModel" "waitCode" "[J", Cond.methodLink RX6 101 yX6_comes, Cond.instanceMethod yX6_comes, Cond.selects RX6 yX6_comes yX6_comes, Cond.code yX6_comes cX6_comes 3 (some .boolean), Cond.fieldLink RX6 81 "PointStoreModel" "level" "I", Cond.fieldLink RX6 77 "PointStoreModel" "code" "J", Cond.fieldLink RX6 84 "PointStoreModel" "first" "I", Cond.fieldLink RX6 91 "PointStoreModel" "end" "I", Cond.fieldLink RX6 54 "PointStoreModel" "bucket" "I", Cond.fieldLink RX6 57 "PointStoreModel" "bits" "I", Cond.methodLink RX6 67 yX6_below, Cond.instanceMethod yX6_below, Cond.selects RX6 yX6_below yX6_below, Cond.code yX6_below cX6_below 7 (some .int), Cond.fieldLink RX6 7 "PointStoreModel" "many" "[I", Cond.fieldLink RX6 22 "PointStoreModel" "codes" "[J"]
def wsX6_nodes_r2 : List Cond := [Cond.methodLink RX6 87 yX6_next, Cond.instanceMethod yX6_next, Cond.selects RX6 yX6_next yX6_next, Cond.code yX6_next cX6_next 1 (some .long), Cond.methodLink RX6 94 yX6_part, Cond.instanceMethod yX6_part, Cond.selects RX6 yX6_part yX6_part, Cond.code yX6_part cX6_part 5 (some .int)]
def wsX6_nodes : List Cond := .code yX6_nodes cX6_nodes 3 (some .int) :: ((wsX6_nodes_r1 ++ wsX6_nodes_r2) ++ wsX60)
def wsX6_depth_r1 : List Cond := [Cond.fieldLink RX6 81 "PointStoreModel" "level" "I", Cond.methodLink RX6 98 yX6_begins, Cond.instanceMethod yX6_begins, Cond.selects RX6 yX6_begins yX6_begins, Cond.initialized RX6, Cond.code yX6_begins cX6_begins 1 none, Cond.fieldLink RX6 74 "PointStoreModel" "waits" "I", Cond.fieldLink RX6 33 "PointStoreModel" "waitLevel" "[I", Cond.fieldLink RX6 36 "PointStoreModel" "waitCode" "[J", Cond.methodLink RX6 101 yX6_comes, Cond.instanceMethod yX6_comes, Cond.selects RX6 yX6_comes yX6_comes, Cond.code yX6_comes cX6_comes 3 (some .boolean), Cond.fieldLink RX6 77 "PointStoreModel" "code" "J", Cond.fieldLink RX6 84 "PointStoreModel" "first" "I", Cond.fieldLink RX6 91 "PointStoreModel" "end" "I", Cond.fieldLink RX6 54 "PointStoreModel" "bucket" "I", Cond.fieldLink RX6 57 "PointStoreModel" "bits" "I", Cond.methodLink RX6 67 yX6_below, Cond.instanceMethod yX6_below, Cond.selects RX6 yX6_below yX6_below, Cond.code yX6_below cX6_below 7 (some .int), Cond.fieldLink RX6 7 "PointStoreModel" "many" "[I", Cond.fieldLink RX6 22 "PointStoreModel" "codes" "[J"]
def wsX6_depth_r2 : List Cond := [Cond.methodLink RX6 87 yX6_next, Cond.instanceMethod yX6_next, Cond.selects RX6 yX6_next yX6_next, Cond.code yX6_next cX6_next 1 (some .long), Cond.methodLink RX6 94 yX6_part, Cond.instanceMethod yX6_part, Cond.selects RX6 yX6_part yX6_part, Cond.code yX6_part cX6_part 5 (some .int)]
def wsX6_depth : List Cond := .code yX6_depth cX6_depth 2 (some .int) :: ((wsX6_depth_r1 ++ wsX6_depth_r2) ++ wsX60)
def wsX6_node_r1 : List Cond := [Cond.fieldLink RX6 105 "PointStoreModel" "isOff" "Z", Cond.fieldLink RX6 57 "PointStoreModel" "bits" "I", Cond.fieldLink RX6 81 "PointStoreModel" "level" "I", Cond.fieldLink RX6 77 "PointStoreModel" "code" "J", Cond.fieldLink RX6 91 "PointStoreModel" "end" "I", Cond.fieldLink RX6 84 "PointStoreModel" "first" "I", Cond.fieldLink RX6 54 "PointStoreModel" "bucket" "I", Cond.fieldLink RX6 26 "PointStoreModel" "codeValues" "[I", Cond.constant RX6 112 (65535), Cond.methodLink RX6 109 yX6_isState, Cond.static yX6_isState, Cond.initialized RX6, Cond.code yX6_isState cX6_isState 1 (some .boolean), Cond.methodLink RX6 98 yX6_begins, Cond.instanceMethod yX6_begins, Cond.selects RX6 yX6_begins yX6_begins, Cond.code yX6_begins cX6_begins 1 none, Cond.fieldLink RX6 74 "PointStoreModel" "waits" "I", Cond.fieldLink RX6 33 "PointStoreModel" "waitLevel" "[I", Cond.fieldLink RX6 36 "PointStoreModel" "waitCode" "[J", Cond.methodLink RX6 101 yX6_comes, Cond.instanceMethod yX6_comes, Cond.selects RX6 yX6_comes yX6_comes, Cond.code yX6_comes cX6_comes 3 (some .boolean)]
def wsX6_node_r2 : List Cond := [Cond.methodLink RX6 67 yX6_below, Cond.instanceMethod yX6_below, Cond.selects RX6 yX6_below yX6_below, Cond.code yX6_below cX6_below 7 (some .int), Cond.fieldLink RX6 7 "PointStoreModel" "many" "[I", Cond.fieldLink RX6 22 "PointStoreModel" "codes" "[J", Cond.methodLink RX6 87 yX6_next, Cond.instanceMethod yX6_next, Cond.selects RX6 yX6_next yX6_next, Cond.code yX6_next cX6_next 1 (some .long), Cond.methodLink RX6 94 yX6_part, Cond.instanceMethod yX6_part, Cond.selects RX6 yX6_part yX6_part, Cond.code yX6_part cX6_part 5 (some .int)]
def wsX6_node : List Cond := .code yX6_node cX6_node 6 (some .int) :: ((wsX6_node_r1 ++ wsX6_node_r2) ++ wsX60)
def wsX6_insert_r1 : List Cond := [Cond.fieldLink RX6 105 "PointStoreModel" "isOff" "Z", Cond.fieldLink RX6 71 "PointStoreModel" "changes" "I", Cond.fieldLink RX6 19 "PointStoreModel" "values" "[I", Cond.fieldLink RX6 26 "PointStoreModel" "codeValues" "[I", Cond.fieldLink RX6 51 "PointStoreModel" "blocks" "I", Cond.methodLink RX6 113 yX6_isInside, Cond.instanceMethod yX6_isInside, Cond.selects RX6 yX6_isInside yX6_isInside, Cond.initialized RX6, Cond.code yX6_isInside cX6_isInside 3 (some .boolean), Cond.fieldLink RX6 60 "PointStoreModel" "span" "I", Cond.methodLink RX6 117 yX6_placeOf, Cond.instanceMethod yX6_placeOf, Cond.selects RX6 yX6_placeOf yX6_placeOf, Cond.code yX6_placeOf cX6_placeOf 8 (some .int), Cond.fieldLink RX6 7 "PointStoreModel" "many" "[I", Cond.fieldLink RX6 13 "PointStoreModel" "xs" "[I", Cond.fieldLink RX6 16 "PointStoreModel" "ys" "[I", Cond.methodLink RX6 121 yX6_isAt, Cond.instanceMethod yX6_isAt, Cond.selects RX6 yX6_isAt yX6_isAt, Cond.code yX6_isAt cX6_isAt 5 (some .boolean), Cond.methodLink RX6 63 yX6_codeOf, Cond.instanceMethod yX6_codeOf]
def wsX6_insert_r2 : List Cond := [Cond.selects RX6 yX6_codeOf yX6_codeOf, Cond.code yX6_codeOf cX6_codeOf 6 (some .long), Cond.fieldLink RX6 57 "PointStoreModel" "bits" "I", Cond.methodLink RX6 67 yX6_below, Cond.instanceMethod yX6_below, Cond.selects RX6 yX6_below yX6_below, Cond.code yX6_below cX6_below 7 (some .int), Cond.fieldLink RX6 22 "PointStoreModel" "codes" "[J", Cond.methodLink RX6 125 yX6_puts, Cond.instanceMethod yX6_puts, Cond.selects RX6 yX6_puts yX6_puts, Cond.code yX6_puts cX6_puts 9 none, Cond.methodLink RX6 129 yX6_nodes, Cond.instanceMethod yX6_nodes, Cond.selects RX6 yX6_nodes yX6_nodes, Cond.code yX6_nodes cX6_nodes 3 (some .int), Cond.methodLink RX6 98 yX6_begins, Cond.instanceMethod yX6_begins, Cond.selects RX6 yX6_begins yX6_begins, Cond.code yX6_begins cX6_begins 1 none, Cond.fieldLink RX6 74 "PointStoreModel" "waits" "I", Cond.fieldLink RX6 33 "PointStoreModel" "waitLevel" "[I", Cond.fieldLink RX6 36 "PointStoreModel" "waitCode" "[J", Cond.methodLink RX6 101 yX6_comes]
def wsX6_insert_r3 : List Cond := [Cond.instanceMethod yX6_comes, Cond.selects RX6 yX6_comes yX6_comes, Cond.code yX6_comes cX6_comes 3 (some .boolean), Cond.fieldLink RX6 81 "PointStoreModel" "level" "I", Cond.fieldLink RX6 77 "PointStoreModel" "code" "J", Cond.fieldLink RX6 84 "PointStoreModel" "first" "I", Cond.fieldLink RX6 91 "PointStoreModel" "end" "I", Cond.fieldLink RX6 54 "PointStoreModel" "bucket" "I", Cond.methodLink RX6 87 yX6_next, Cond.instanceMethod yX6_next, Cond.selects RX6 yX6_next yX6_next, Cond.code yX6_next cX6_next 1 (some .long), Cond.methodLink RX6 94 yX6_part, Cond.instanceMethod yX6_part, Cond.selects RX6 yX6_part yX6_part, Cond.code yX6_part cX6_part 5 (some .int), Cond.methodLink RX6 133 yX6_takes, Cond.instanceMethod yX6_takes, Cond.selects RX6 yX6_takes yX6_takes, Cond.code yX6_takes cX6_takes 4 none]
def wsX6_insert : List Cond := .code yX6_insert cX6_insert 5 (some .int) :: ((wsX6_insert_r1 ++ (wsX6_insert_r2 ++ wsX6_insert_r3)) ++ wsX60)
def wsX6_delete_r1 : List Cond := [Cond.fieldLink RX6 105 "PointStoreModel" "isOff" "Z", Cond.fieldLink RX6 71 "PointStoreModel" "changes" "I", Cond.methodLink RX6 113 yX6_isInside, Cond.instanceMethod yX6_isInside, Cond.selects RX6 yX6_isInside yX6_isInside, Cond.initialized RX6, Cond.code yX6_isInside cX6_isInside 3 (some .boolean), Cond.fieldLink RX6 60 "PointStoreModel" "span" "I", Cond.methodLink RX6 117 yX6_placeOf, Cond.instanceMethod yX6_placeOf, Cond.selects RX6 yX6_placeOf yX6_placeOf, Cond.code yX6_placeOf cX6_placeOf 8 (some .int), Cond.fieldLink RX6 7 "PointStoreModel" "many" "[I", Cond.fieldLink RX6 13 "PointStoreModel" "xs" "[I", Cond.fieldLink RX6 16 "PointStoreModel" "ys" "[I", Cond.methodLink RX6 121 yX6_isAt, Cond.instanceMethod yX6_isAt, Cond.selects RX6 yX6_isAt yX6_isAt, Cond.code yX6_isAt cX6_isAt 5 (some .boolean), Cond.methodLink RX6 133 yX6_takes, Cond.instanceMethod yX6_takes, Cond.selects RX6 yX6_takes yX6_takes, Cond.code yX6_takes cX6_takes 4 none, Cond.fieldLink RX6 19 "PointStoreModel" "values" "[I"]
def wsX6_delete_r2 : List Cond := [Cond.fieldLink RX6 22 "PointStoreModel" "codes" "[J", Cond.fieldLink RX6 26 "PointStoreModel" "codeValues" "[I", Cond.methodLink RX6 63 yX6_codeOf, Cond.instanceMethod yX6_codeOf, Cond.selects RX6 yX6_codeOf yX6_codeOf, Cond.code yX6_codeOf cX6_codeOf 6 (some .long), Cond.fieldLink RX6 57 "PointStoreModel" "bits" "I", Cond.methodLink RX6 67 yX6_below, Cond.instanceMethod yX6_below, Cond.selects RX6 yX6_below yX6_below, Cond.code yX6_below cX6_below 7 (some .int)]
def wsX6_delete : List Cond := .code yX6_delete cX6_delete 4 (some .int) :: ((wsX6_delete_r1 ++ wsX6_delete_r2) ++ wsX60)
def wsX6_get : List Cond := .code yX6_get cX6_get 5 (some .int) :: ([.fieldLink RX6 105 "PointStoreModel" "isOff" "Z", .fieldLink RX6 19 "PointStoreModel" "values" "[I", .methodLink RX6 109 yX6_isState, .static yX6_isState, .initialized RX6, .code yX6_isState cX6_isState 1 (some .boolean), .methodLink RX6 117 yX6_placeOf, .instanceMethod yX6_placeOf, .selects RX6 yX6_placeOf yX6_placeOf, .code yX6_placeOf cX6_placeOf 8 (some .int), .fieldLink RX6 7 "PointStoreModel" "many" "[I", .fieldLink RX6 13 "PointStoreModel" "xs" "[I", .fieldLink RX6 16 "PointStoreModel" "ys" "[I", .methodLink RX6 121 yX6_isAt, .instanceMethod yX6_isAt, .selects RX6 yX6_isAt yX6_isAt, .code yX6_isAt cX6_isAt 5 (some .boolean)] ++ wsX60)
def wsX6_tells : List Cond := .code yX6_tells cX6_tells 5 none :: ([.fieldLink RX6 39 "PointStoreModel" "resultX" "[I", .fieldLink RX6 42 "PointStoreModel" "resultY" "[I", .fieldLink RX6 45 "PointStoreModel" "resultValue" "[I", .fieldLink RX6 137 "PointStoreModel" "results" "I"] ++ wsX60)
def wsX6_window : List Cond := .code yX6_window cX6_window 9 (some .int) :: ([.fieldLink RX6 105 "PointStoreModel" "isOff" "Z", .fieldLink RX6 137 "PointStoreModel" "results" "I", .fieldLink RX6 7 "PointStoreModel" "many" "[I", .fieldLink RX6 13 "PointStoreModel" "xs" "[I", .fieldLink RX6 16 "PointStoreModel" "ys" "[I", .fieldLink RX6 19 "PointStoreModel" "values" "[I", .methodLink RX6 109 yX6_isState, .static yX6_isState, .initialized RX6, .code yX6_isState cX6_isState 1 (some .boolean), .methodLink RX6 140 yX6_tells, .instanceMethod yX6_tells, .selects RX6 yX6_tells yX6_tells, .code yX6_tells cX6_tells 5 none, .fieldLink RX6 39 "PointStoreModel" "resultX" "[I", .fieldLink RX6 42 "PointStoreModel" "resultY" "[I", .fieldLink RX6 45 "PointStoreModel" "resultValue" "[I"] ++ wsX60)
def wsX6_sum : List Cond := .code yX6_sum cX6_sum 10 (some .long) :: ([.fieldLink RX6 105 "PointStoreModel" "isOff" "Z", .constantLong RX6 143 (-2), .fieldLink RX6 7 "PointStoreModel" "many" "[I", .fieldLink RX6 13 "PointStoreModel" "xs" "[I", .fieldLink RX6 16 "PointStoreModel" "ys" "[I", .fieldLink RX6 19 "PointStoreModel" "values" "[I", .methodLink RX6 109 yX6_isState, .static yX6_isState, .initialized RX6, .code yX6_isState cX6_isState 1 (some .boolean)] ++ wsX60)
def wsX6_nearest : List Cond := .code yX6_nearest cX6_nearest 14 (some .int) :: ([.fieldLink RX6 105 "PointStoreModel" "isOff" "Z", .constant RX6 112 (65535), .fieldLink RX6 137 "PointStoreModel" "results" "I", .fieldLink RX6 7 "PointStoreModel" "many" "[I", .fieldLink RX6 13 "PointStoreModel" "xs" "[I", .fieldLink RX6 16 "PointStoreModel" "ys" "[I", .fieldLink RX6 48 "PointStoreModel" "far" "[J", .fieldLink RX6 39 "PointStoreModel" "resultX" "[I", .fieldLink RX6 42 "PointStoreModel" "resultY" "[I", .fieldLink RX6 45 "PointStoreModel" "resultValue" "[I", .fieldLink RX6 19 "PointStoreModel" "values" "[I", .methodLink RX6 109 yX6_isState, .static yX6_isState, .initialized RX6, .code yX6_isState cX6_isState 1 (some .boolean)] ++ wsX60)
def wsX6_differs : List Cond := .code yX6_differs cX6_differs 7 (some .int) :: ([.fieldLink RX6 105 "PointStoreModel" "isOff" "Z", .fieldLink RX6 137 "PointStoreModel" "results" "I", .fieldLink RX6 7 "PointStoreModel" "many" "[I", .fieldLink RX6 13 "PointStoreModel" "xs" "[I", .fieldLink RX6 16 "PointStoreModel" "ys" "[I", .fieldLink RX6 19 "PointStoreModel" "values" "[I", .methodLink RX6 140 yX6_tells, .instanceMethod yX6_tells, .selects RX6 yX6_tells yX6_tells, .initialized RX6, .code yX6_tells cX6_tells 5 none, .fieldLink RX6 39 "PointStoreModel" "resultX" "[I", .fieldLink RX6 42 "PointStoreModel" "resultY" "[I", .fieldLink RX6 45 "PointStoreModel" "resultValue" "[I"] ++ wsX60)
def wsX6_result : List Cond := .code yX6_result cX6_result 3 (some .int) :: ([.fieldLink RX6 137 "PointStoreModel" "results" "I", .fieldLink RX6 39 "PointStoreModel" "resultX" "[I", .fieldLink RX6 42 "PointStoreModel" "resultY" "[I", .fieldLink RX6 45 "PointStoreModel" "resultValue" "[I"] ++ wsX60)
def wsX6_size : List Cond := .code yX6_size cX6_size 1 (some .int) :: ([.fieldLink RX6 137 "PointStoreModel" "results" "I"] ++ wsX60)
def wsX6_goes : List Cond := .code yX6_goes cX6_goes 1 (some .int) :: ([.fieldLink RX6 105 "PointStoreModel" "isOff" "Z", .fieldLink RX6 29 "PointStoreModel" "armed" "I", .fieldLink RX6 137 "PointStoreModel" "results" "I"] ++ wsX60)
def wsX6_commit : List Cond := .code yX6_commit cX6_commit 2 (some .int) :: ([.fieldLink RX6 105 "PointStoreModel" "isOff" "Z", .fieldLink RX6 71 "PointStoreModel" "changes" "I", .fieldLink RX6 29 "PointStoreModel" "armed" "I", .methodLink RX6 145 yX6_becomes, .instanceMethod yX6_becomes, .selects RX6 yX6_becomes yX6_becomes, .initialized RX6, .code yX6_becomes cX6_becomes 6 none, .fieldLink RX6 7 "PointStoreModel" "many" "[I", .fieldLink RX6 13 "PointStoreModel" "xs" "[I", .fieldLink RX6 16 "PointStoreModel" "ys" "[I", .fieldLink RX6 19 "PointStoreModel" "values" "[I", .fieldLink RX6 22 "PointStoreModel" "codes" "[J", .fieldLink RX6 26 "PointStoreModel" "codeValues" "[I", .methodLink RX6 149 yX6_goes, .instanceMethod yX6_goes, .selects RX6 yX6_goes yX6_goes, .code yX6_goes cX6_goes 1 (some .int), .fieldLink RX6 137 "PointStoreModel" "results" "I"] ++ wsX60)
def wsX6_abort : List Cond := .code yX6_abort cX6_abort 2 (some .int) :: ([.fieldLink RX6 105 "PointStoreModel" "isOff" "Z", .fieldLink RX6 71 "PointStoreModel" "changes" "I", .methodLink RX6 145 yX6_becomes, .instanceMethod yX6_becomes, .selects RX6 yX6_becomes yX6_becomes, .initialized RX6, .code yX6_becomes cX6_becomes 6 none, .fieldLink RX6 7 "PointStoreModel" "many" "[I", .fieldLink RX6 13 "PointStoreModel" "xs" "[I", .fieldLink RX6 16 "PointStoreModel" "ys" "[I", .fieldLink RX6 19 "PointStoreModel" "values" "[I", .fieldLink RX6 22 "PointStoreModel" "codes" "[J", .fieldLink RX6 26 "PointStoreModel" "codeValues" "[I"] ++ wsX60)
def wsX6_format : List Cond := .code yX6_format cX6_format 1 (some .int) :: ([.fieldLink RX6 105 "PointStoreModel" "isOff" "Z", .fieldLink RX6 29 "PointStoreModel" "armed" "I", .fieldLink RX6 7 "PointStoreModel" "many" "[I", .fieldLink RX6 71 "PointStoreModel" "changes" "I", .methodLink RX6 149 yX6_goes, .instanceMethod yX6_goes, .selects RX6 yX6_goes yX6_goes, .initialized RX6, .code yX6_goes cX6_goes 1 (some .int), .fieldLink RX6 137 "PointStoreModel" "results" "I"] ++ wsX60)
def wsX6_arm : List Cond := .code yX6_arm cX6_arm 3 (some .boolean) :: ([.fieldLink RX6 29 "PointStoreModel" "armed" "I"] ++ wsX60)
def wsX6_recover : List Cond := .code yX6_recover cX6_recover 1 (some .int) :: ([.fieldLink RX6 137 "PointStoreModel" "results" "I", .fieldLink RX6 29 "PointStoreModel" "armed" "I", .fieldLink RX6 105 "PointStoreModel" "isOff" "Z", .methodLink RX6 149 yX6_goes, .instanceMethod yX6_goes, .selects RX6 yX6_goes yX6_goes, .initialized RX6, .code yX6_goes cX6_goes 1 (some .int), .methodLink RX6 145 yX6_becomes, .instanceMethod yX6_becomes, .selects RX6 yX6_becomes yX6_becomes, .code yX6_becomes cX6_becomes 6 none, .fieldLink RX6 7 "PointStoreModel" "many" "[I", .fieldLink RX6 13 "PointStoreModel" "xs" "[I", .fieldLink RX6 16 "PointStoreModel" "ys" "[I", .fieldLink RX6 19 "PointStoreModel" "values" "[I", .fieldLink RX6 22 "PointStoreModel" "codes" "[J", .fieldLink RX6 26 "PointStoreModel" "codeValues" "[I", .fieldLink RX6 71 "PointStoreModel" "changes" "I"] ++ wsX60)
def wsX6_count_r1 : List Cond := [Cond.fieldLink RX6 105 "PointStoreModel" "isOff" "Z", Cond.fieldLink RX6 7 "PointStoreModel" "many" "[I", Cond.fieldLink RX6 51 "PointStoreModel" "blocks" "I", Cond.fieldLink RX6 71 "PointStoreModel" "changes" "I", Cond.fieldLink RX6 29 "PointStoreModel" "armed" "I", Cond.fieldLink RX6 54 "PointStoreModel" "bucket" "I", Cond.fieldLink RX6 60 "PointStoreModel" "span" "I", Cond.methodLink RX6 129 yX6_nodes, Cond.instanceMethod yX6_nodes, Cond.selects RX6 yX6_nodes yX6_nodes, Cond.initialized RX6, Cond.code yX6_nodes cX6_nodes 3 (some .int), Cond.methodLink RX6 98 yX6_begins, Cond.instanceMethod yX6_begins, Cond.selects RX6 yX6_begins yX6_begins, Cond.code yX6_begins cX6_begins 1 none, Cond.fieldLink RX6 74 "PointStoreModel" "waits" "I", Cond.fieldLink RX6 33 "PointStoreModel" "waitLevel" "[I", Cond.fieldLink RX6 36 "PointStoreModel" "waitCode" "[J", Cond.methodLink RX6 101 yX6_comes, Cond.instanceMethod yX6_comes, Cond.selects RX6 yX6_comes yX6_comes, Cond.code yX6_comes cX6_comes 3 (some .boolean), Cond.fieldLink RX6 81 "PointStoreModel" "level" "I"]
def wsX6_count_r2 : List Cond := [Cond.fieldLink RX6 77 "PointStoreModel" "code" "J", Cond.fieldLink RX6 84 "PointStoreModel" "first" "I", Cond.fieldLink RX6 91 "PointStoreModel" "end" "I", Cond.fieldLink RX6 57 "PointStoreModel" "bits" "I", Cond.methodLink RX6 67 yX6_below, Cond.instanceMethod yX6_below, Cond.selects RX6 yX6_below yX6_below, Cond.code yX6_below cX6_below 7 (some .int), Cond.fieldLink RX6 22 "PointStoreModel" "codes" "[J", Cond.methodLink RX6 87 yX6_next, Cond.instanceMethod yX6_next, Cond.selects RX6 yX6_next yX6_next, Cond.code yX6_next cX6_next 1 (some .long), Cond.methodLink RX6 94 yX6_part, Cond.instanceMethod yX6_part, Cond.selects RX6 yX6_part yX6_part, Cond.code yX6_part cX6_part 5 (some .int), Cond.methodLink RX6 153 yX6_depth, Cond.instanceMethod yX6_depth, Cond.selects RX6 yX6_depth yX6_depth, Cond.code yX6_depth cX6_depth 2 (some .int)]
def wsX6_count : List Cond := .code yX6_count cX6_count 2 (some .int) :: ((wsX6_count_r1 ++ wsX6_count_r2) ++ wsX60)
def wsJ9_max_7cf53 : List Cond := .code yJ9_max_7cf53 cJ9_max_7cf53 2 (some .int) :: ([])
def wsJ9_min_7cf53 : List Cond := .code yJ9_min_7cf53 cJ9_min_7cf53 2 (some .int) :: ([])
def wsL_cell : List Cond := .code yL_cell cL_cell 2 (some .int) :: ([])
def wsL_law_r1 : List Cond := [Cond.classLink RL 7 RX5, Cond.instantiable RX5 12, Cond.initialized RX5, Cond.classLink RL 18 RX6, Cond.instantiable RX6 25, Cond.initialized RX6, Cond.methodLink RL 9 yL_cell, Cond.static yL_cell, Cond.initialized RL, Cond.code yL_cell cL_cell 2 (some .int), Cond.methodLink RL 15 yX5_init, Cond.instanceMethod yX5_init, Cond.code yX5_init cX5_init 9 none, Cond.methodLink RX5 3 objectInit, Cond.instanceMethod objectInit, Cond.code objectInit ⟨#[0xb1]⟩ 1 none, Cond.classLink RX5 13 RX2, Cond.instantiable RX2 4, Cond.initialized RX2, Cond.fieldLink RX5 16 "PointStore" "blocks" "I", Cond.fieldLink RX5 20 "PointStore" "bucket" "I", Cond.fieldLink RX5 23 "PointStore" "span" "I", Cond.classLink RX5 26 RX1, Cond.instantiable RX1 4]
def wsL_law_r2 : List Cond := [Cond.initialized RX1, Cond.fieldLink RX5 31 "PointStore" "disk" "LPointStore$Disk;", Cond.fieldLink RX5 35 "PointStore" "pending" "LPointStore$Points;", Cond.classLink RX5 39 RX4, Cond.instantiable RX4 9, Cond.initialized RX4, Cond.fieldLink RX5 44 "PointStore" "pendingTree" "LPointStore$Tree;", Cond.fieldLink RX5 48 "PointStore" "committedTree" "LPointStore$Tree;", Cond.classLink RX5 51 RX0, Cond.instantiable RX0 3, Cond.initialized RX0, Cond.fieldLink RX5 54 "PointStore" "changes" "LPointStore$Changes;", Cond.classLink RX5 58 RX3, Cond.instantiable RX3 4, Cond.initialized RX3, Cond.fieldLink RX5 61 "PointStore" "results" "LPointStore$Results;", Cond.fieldLink RX5 65 "PointStore" "powered" "Z", Cond.fieldLink RX5 69 "PointStore" "cut" "I", Cond.fieldLink RX5 72 "PointStore" "cutParts" "I", Cond.methodLink RX5 9 yX5_fromOneTo, Cond.static yX5_fromOneTo, Cond.code yX5_fromOneTo cX5_fromOneTo 3 (some .int), Cond.instanceMethod yX2_init, Cond.code yX2_init cX2_init 1 none]
def wsL_law_r3 : List Cond := [Cond.methodLink RX2 3 objectInit, Cond.arrayClass .int, Cond.fieldLink RX2 9 "PointStore$Points" "keys" "[I", Cond.fieldLink RX2 15 "PointStore$Points" "values" "[I", Cond.fieldLink RX2 18 "PointStore$Points" "total" "I", Cond.fieldLink RX2 22 "PointStore$Points" "version" "I", Cond.methodLink RX5 28 yX1_init, Cond.instanceMethod yX1_init, Cond.code yX1_init cX1_init 2 none, Cond.methodLink RX1 3 objectInit, Cond.fieldLink RX1 9 "PointStore$Disk" "logKeys" "[I", Cond.fieldLink RX1 15 "PointStore$Disk" "logValues" "[I", Cond.fieldLink RX1 18 "PointStore$Disk" "sealed" "I", Cond.fieldLink RX1 22 "PointStore$Disk" "home" "LPointStore$Points;", Cond.methodLink RX5 41 yX4_init, Cond.instanceMethod yX4_init, Cond.code yX4_init cX4_init 5 none, Cond.methodLink RX4 3 objectInit, Cond.fieldLink RX4 9 "PointStore$Tree" "order" "[I", Cond.fieldLink RX4 15 "PointStore$Tree" "nodes" "I", Cond.fieldLink RX4 19 "PointStore$Tree" "depth" "I", Cond.fieldLink RX4 22 "PointStore$Tree" "madeOf" "I", Cond.fieldLink RX4 25 "PointStore$Tree" "points" "LPointStore$Points;", Cond.fieldLink RX4 29 "PointStore$Tree" "bucket" "I"]
def wsL_law_r4 : List Cond := [Cond.fieldLink RX4 32 "PointStore$Tree" "bits" "I", Cond.fieldLink RX4 35 "PointStore$Tree" "mostNodes" "I", Cond.fieldLink RX4 38 "PointStore$Tree" "facts" "[I", Cond.instanceMethod yX0_init, Cond.code yX0_init cX0_init 1 none, Cond.methodLink RX0 3 objectInit, Cond.fieldLink RX0 9 "PointStore$Changes" "keys" "[I", Cond.fieldLink RX0 15 "PointStore$Changes" "values" "[I", Cond.fieldLink RX0 18 "PointStore$Changes" "total" "I", Cond.instanceMethod yX3_init, Cond.code yX3_init cX3_init 1 none, Cond.methodLink RX3 3 objectInit, Cond.fieldLink RX3 9 "PointStore$Results" "keys" "[I", Cond.fieldLink RX3 15 "PointStore$Results" "values" "[I", Cond.arrayClass .long, Cond.fieldLink RX3 18 "PointStore$Results" "distances" "[J", Cond.fieldLink RX3 22 "PointStore$Results" "total" "I", Cond.methodLink RL 20 yX6_init, Cond.instanceMethod yX6_init, Cond.code yX6_init cX6_init 4 none, Cond.methodLink RX6 1 objectInit, Cond.fieldLink RX6 7 "PointStoreModel" "many" "[I", Cond.fieldLink RX6 13 "PointStoreModel" "xs" "[I", Cond.fieldLink RX6 16 "PointStoreModel" "ys" "[I"]
def wsL_law_r5 : List Cond := [Cond.fieldLink RX6 19 "PointStoreModel" "values" "[I", Cond.fieldLink RX6 22 "PointStoreModel" "codes" "[J", Cond.fieldLink RX6 26 "PointStoreModel" "codeValues" "[I", Cond.fieldLink RX6 29 "PointStoreModel" "armed" "I", Cond.fieldLink RX6 33 "PointStoreModel" "waitLevel" "[I", Cond.fieldLink RX6 36 "PointStoreModel" "waitCode" "[J", Cond.fieldLink RX6 39 "PointStoreModel" "resultX" "[I", Cond.fieldLink RX6 42 "PointStoreModel" "resultY" "[I", Cond.fieldLink RX6 45 "PointStoreModel" "resultValue" "[I", Cond.fieldLink RX6 48 "PointStoreModel" "far" "[J", Cond.fieldLink RX6 51 "PointStoreModel" "blocks" "I", Cond.fieldLink RX6 54 "PointStoreModel" "bucket" "I", Cond.fieldLink RX6 57 "PointStoreModel" "bits" "I", Cond.fieldLink RX6 60 "PointStoreModel" "span" "I", Cond.methodLink RL 21 yX5_insert, Cond.instanceMethod yX5_insert, Cond.selects RX5 yX5_insert yX5_insert, Cond.code yX5_insert cX5_insert 6 (some .int), Cond.methodLink RX5 75 yX5_isOnPlane, Cond.instanceMethod yX5_isOnPlane, Cond.selects RX5 yX5_isOnPlane yX5_isOnPlane, Cond.code yX5_isOnPlane cX5_isOnPlane 3 (some .boolean), Cond.methodLink RX5 79 yX0_isFull, Cond.instanceMethod yX0_isFull]
def wsL_law_r6 : List Cond := [Cond.selects RX0 yX0_isFull yX0_isFull, Cond.code yX0_isFull cX0_isFull 1 (some .boolean), Cond.methodLink RX5 83 yX5_keyOf, Cond.static yX5_keyOf, Cond.code yX5_keyOf cX5_keyOf 2 (some .int), Cond.methodLink RX5 87 yX2_valueOf, Cond.instanceMethod yX2_valueOf, Cond.selects RX2 yX2_valueOf yX2_valueOf, Cond.code yX2_valueOf cX2_valueOf 3 (some .int), Cond.methodLink RX2 26 yX2_placeOf, Cond.instanceMethod yX2_placeOf, Cond.selects RX2 yX2_placeOf yX2_placeOf, Cond.code yX2_placeOf cX2_placeOf 4 (some .int), Cond.methodLink RX2 30 yX2_keyAt, Cond.instanceMethod yX2_keyAt, Cond.selects RX2 yX2_keyAt yX2_keyAt, Cond.code yX2_keyAt cX2_keyAt 2 (some .int), Cond.constant RX2 25 (1073741824), Cond.methodLink RX5 91 yX2_put, Cond.instanceMethod yX2_put, Cond.selects RX2 yX2_put yX2_put, Cond.code yX2_put cX2_put 4 none, Cond.methodLink RX2 37 arraycopyName, Cond.native arraycopyName]
def wsL_law_r7 : List Cond := [Cond.static arraycopyName, Cond.initialized "java/lang/System", Cond.methodLink RX2 33 yX2_isFull, Cond.instanceMethod yX2_isFull, Cond.selects RX2 yX2_isFull yX2_isFull, Cond.code yX2_isFull cX2_isFull 1 (some .boolean), Cond.methodLink RX5 95 yX5_comesIn, Cond.instanceMethod yX5_comesIn, Cond.selects RX5 yX5_comesIn yX5_comesIn, Cond.code yX5_comesIn cX5_comesIn 3 (some .boolean), Cond.fieldLink RX5 191 "PointStore$Tree" "nodes" "I", Cond.methodLink RX5 197 yX2_isFull, Cond.methodLink RX5 184 yX4_upToDate, Cond.instanceMethod yX4_upToDate, Cond.selects RX4 yX4_upToDate yX4_upToDate, Cond.code yX4_upToDate cX4_upToDate 2 (some (.object "PointStore$Tree")), Cond.fieldLink RX4 41 "PointStore$Points" "version" "I", Cond.fieldLink RX4 46 "PointStore$Points" "total" "I", Cond.methodLink RX4 49 yX4_grow, Cond.static yX4_grow, Cond.code yX4_grow cX4_grow 14 none, Cond.methodLink RX4 53 Lib.Math.max.name, Cond.static Lib.Math.max.name, Cond.initialized "java/lang/Math"]
def wsL_law_r8 : List Cond := [Cond.code Lib.Math.max.name Lib.Math.max.code 2 (some .int), Cond.methodLink RX4 59 yX4_lowBitsOf, Cond.instanceMethod yX4_lowBitsOf, Cond.selects RX4 yX4_lowBitsOf yX4_lowBitsOf, Cond.code yX4_lowBitsOf cX4_lowBitsOf 5 (some .int), Cond.fieldLink RX4 73 "PointStore$Points" "values" "[I", Cond.constant RX4 76 (65535), Cond.methodLink RX4 62 yX4_gather, Cond.instanceMethod yX4_gather, Cond.selects RX4 yX4_gather yX4_gather, Cond.code yX4_gather cX4_gather 9 (some .int), Cond.fieldLink RX4 66 "PointStore$Points" "keys" "[I", Cond.static yX5_isWithin, Cond.code yX5_isWithin cX5_isWithin 7 (some .boolean), Cond.methodLink RX5 153 yX5_xOf, Cond.static yX5_xOf, Cond.code yX5_xOf cX5_xOf 1 (some .int), Cond.methodLink RX5 156 yX5_yOf, Cond.static yX5_yOf, Cond.code yX5_yOf cX5_yOf 1 (some .int), Cond.methodLink RX5 101 yX2_takeOut, Cond.instanceMethod yX2_takeOut, Cond.selects RX2 yX2_takeOut yX2_takeOut, Cond.code yX2_takeOut cX2_takeOut 3 none]
def wsL_law_r9 : List Cond := [Cond.methodLink RX5 98 yX0_add, Cond.instanceMethod yX0_add, Cond.selects RX0 yX0_add yX0_add, Cond.code yX0_add cX0_add 3 none, Cond.methodLink RX0 22 yX0_isFull, Cond.methodLink RL 25 yX6_insert, Cond.instanceMethod yX6_insert, Cond.selects RX6 yX6_insert yX6_insert, Cond.code yX6_insert cX6_insert 5 (some .int), Cond.fieldLink RX6 105 "PointStoreModel" "isOff" "Z", Cond.fieldLink RX6 71 "PointStoreModel" "changes" "I", Cond.methodLink RX6 113 yX6_isInside, Cond.instanceMethod yX6_isInside, Cond.selects RX6 yX6_isInside yX6_isInside, Cond.code yX6_isInside cX6_isInside 3 (some .boolean), Cond.methodLink RX6 117 yX6_placeOf, Cond.instanceMethod yX6_placeOf, Cond.selects RX6 yX6_placeOf yX6_placeOf, Cond.code yX6_placeOf cX6_placeOf 8 (some .int), Cond.methodLink RX6 121 yX6_isAt, Cond.instanceMethod yX6_isAt, Cond.selects RX6 yX6_isAt yX6_isAt, Cond.code yX6_isAt cX6_isAt 5 (some .boolean), Cond.methodLink RX6 63 yX6_codeOf]
def wsL_law_r10 : List Cond := [Cond.instanceMethod yX6_codeOf, Cond.selects RX6 yX6_codeOf yX6_codeOf, Cond.code yX6_codeOf cX6_codeOf 6 (some .long), Cond.methodLink RX6 67 yX6_below, Cond.instanceMethod yX6_below, Cond.selects RX6 yX6_below yX6_below, Cond.code yX6_below cX6_below 7 (some .int), Cond.methodLink RX6 125 yX6_puts, Cond.instanceMethod yX6_puts, Cond.selects RX6 yX6_puts yX6_puts, Cond.code yX6_puts cX6_puts 9 none, Cond.methodLink RX6 129 yX6_nodes, Cond.instanceMethod yX6_nodes, Cond.selects RX6 yX6_nodes yX6_nodes, Cond.code yX6_nodes cX6_nodes 3 (some .int), Cond.methodLink RX6 98 yX6_begins, Cond.instanceMethod yX6_begins, Cond.selects RX6 yX6_begins yX6_begins, Cond.code yX6_begins cX6_begins 1 none, Cond.fieldLink RX6 74 "PointStoreModel" "waits" "I", Cond.methodLink RX6 101 yX6_comes, Cond.instanceMethod yX6_comes, Cond.selects RX6 yX6_comes yX6_comes, Cond.code yX6_comes cX6_comes 3 (some .boolean)]
def wsL_law_r11 : List Cond := [Cond.fieldLink RX6 81 "PointStoreModel" "level" "I", Cond.fieldLink RX6 77 "PointStoreModel" "code" "J", Cond.fieldLink RX6 84 "PointStoreModel" "first" "I", Cond.fieldLink RX6 91 "PointStoreModel" "end" "I", Cond.methodLink RX6 87 yX6_next, Cond.instanceMethod yX6_next, Cond.selects RX6 yX6_next yX6_next, Cond.code yX6_next cX6_next 1 (some .long), Cond.methodLink RX6 94 yX6_part, Cond.instanceMethod yX6_part, Cond.selects RX6 yX6_part yX6_part, Cond.code yX6_part cX6_part 5 (some .int), Cond.methodLink RX6 133 yX6_takes, Cond.instanceMethod yX6_takes, Cond.selects RX6 yX6_takes yX6_takes, Cond.code yX6_takes cX6_takes 4 none, Cond.methodLink RL 26 yX5_delete, Cond.instanceMethod yX5_delete, Cond.selects RX5 yX5_delete yX5_delete, Cond.code yX5_delete cX5_delete 4 (some .int), Cond.methodLink RL 30 yX6_delete, Cond.instanceMethod yX6_delete, Cond.selects RX6 yX6_delete yX6_delete, Cond.code yX6_delete cX6_delete 4 (some .int)]
def wsL_law_r12 : List Cond := [Cond.methodLink RL 31 yX5_get, Cond.instanceMethod yX5_get, Cond.selects RX5 yX5_get yX5_get, Cond.code yX5_get cX5_get 5 (some .int), Cond.methodLink RX5 105 yX5_pointsOf, Cond.instanceMethod yX5_pointsOf, Cond.selects RX5 yX5_pointsOf yX5_pointsOf, Cond.code yX5_pointsOf cX5_pointsOf 2 (some (.object "PointStore$Points")), Cond.fieldLink RX5 140 "PointStore$Disk" "home" "LPointStore$Points;", Cond.methodLink RL 34 yX6_get, Cond.instanceMethod yX6_get, Cond.selects RX6 yX6_get yX6_get, Cond.code yX6_get cX6_get 5 (some .int), Cond.methodLink RX6 109 yX6_isState, Cond.static yX6_isState, Cond.code yX6_isState cX6_isState 1 (some .boolean), Cond.methodLink RL 35 yX5_window, Cond.instanceMethod yX5_window, Cond.selects RX5 yX5_window yX5_window, Cond.code yX5_window cX5_window 9 (some .int), Cond.fieldLink RX5 112 "PointStore$Points" "total" "I", Cond.fieldLink RX5 115 "PointStore$Points" "keys" "[I", Cond.fieldLink RX5 123 "PointStore$Points" "values" "[I", Cond.methodLink RX5 109 yX3_clear]
def wsL_law_r13 : List Cond := [Cond.instanceMethod yX3_clear, Cond.selects RX3 yX3_clear yX3_clear, Cond.code yX3_clear cX3_clear 1 none, Cond.methodLink RX5 119 yX5_isWithin, Cond.methodLink RX5 126 yX3_add, Cond.instanceMethod yX3_add, Cond.selects RX3 yX3_add yX3_add, Cond.code yX3_add cX3_add 3 none, Cond.methodLink RL 39 yX6_window, Cond.instanceMethod yX6_window, Cond.selects RX6 yX6_window yX6_window, Cond.code yX6_window cX6_window 9 (some .int), Cond.fieldLink RX6 137 "PointStoreModel" "results" "I", Cond.methodLink RX6 140 yX6_tells, Cond.instanceMethod yX6_tells, Cond.selects RX6 yX6_tells yX6_tells, Cond.code yX6_tells cX6_tells 5 none, Cond.methodLink RL 40 yX5_nearest, Cond.instanceMethod yX5_nearest, Cond.selects RX5 yX5_nearest yX5_nearest, Cond.code yX5_nearest cX5_nearest 8 (some .int), Cond.fieldLink RX5 139 "PointStore$Results" "total" "I", Cond.methodLink RX5 127 yX5_isPlace, Cond.static yX5_isPlace]
def wsL_law_r14 : List Cond := [Cond.code yX5_isPlace cX5_isPlace 1 (some .boolean), Cond.constant RX5 205 (65535), Cond.methodLink RX5 131 yX5_distance, Cond.static yX5_distance, Cond.code yX5_distance cX5_distance 7 (some .long), Cond.methodLink RX5 135 yX3_addByDistance, Cond.instanceMethod yX3_addByDistance, Cond.selects RX3 yX3_addByDistance yX3_addByDistance, Cond.code yX3_addByDistance cX3_addByDistance 8 none, Cond.methodLink RX3 26 Lib.Math.min.name, Cond.static Lib.Math.min.name, Cond.code Lib.Math.min.name Lib.Math.min.code 2 (some .int), Cond.methodLink RX3 32 arraycopyName, Cond.methodLink RL 44 yX6_nearest, Cond.instanceMethod yX6_nearest, Cond.selects RX6 yX6_nearest yX6_nearest, Cond.code yX6_nearest cX6_nearest 14 (some .int), Cond.constant RX6 112 (65535), Cond.methodLink RL 45 yX5_differs, Cond.instanceMethod yX5_differs, Cond.selects RX5 yX5_differs yX5_differs, Cond.code yX5_differs cX5_differs 10 (some .int), Cond.methodLink RX5 146 Lib.Math.min.name, Cond.constant RX5 151 (1073741824)]
def wsL_law_r15 : List Cond := [Cond.methodLink RX5 143 yX2_keyAt, Cond.methodLink RL 49 yX6_differs, Cond.instanceMethod yX6_differs, Cond.selects RX6 yX6_differs yX6_differs, Cond.code yX6_differs cX6_differs 7 (some .int), Cond.methodLink RL 50 yX5_result, Cond.instanceMethod yX5_result, Cond.selects RX5 yX5_result yX5_result, Cond.code yX5_result cX5_result 3 (some .int), Cond.fieldLink RX5 152 "PointStore$Results" "keys" "[I", Cond.fieldLink RX5 159 "PointStore$Results" "values" "[I", Cond.methodLink RL 53 yX6_result, Cond.instanceMethod yX6_result, Cond.selects RX6 yX6_result yX6_result, Cond.code yX6_result cX6_result 3 (some .int), Cond.methodLink RL 54 yX5_size, Cond.instanceMethod yX5_size, Cond.selects RX5 yX5_size yX5_size, Cond.code yX5_size cX5_size 1 (some .int), Cond.methodLink RL 57 yX6_size, Cond.instanceMethod yX6_size, Cond.selects RX6 yX6_size yX6_size, Cond.code yX6_size cX6_size 1 (some .int), Cond.methodLink RL 58 yX5_sum]
def wsL_law_r16 : List Cond := [Cond.instanceMethod yX5_sum, Cond.selects RX5 yX5_sum yX5_sum, Cond.code yX5_sum cX5_sum 10 (some .long), Cond.constantLong RX5 160 (-2), Cond.methodLink RL 62 yX6_sum, Cond.instanceMethod yX6_sum, Cond.selects RX6 yX6_sum yX6_sum, Cond.code yX6_sum cX6_sum 10 (some .long), Cond.constantLong RX6 143 (-2), Cond.methodLink RL 63 yX5_commit, Cond.instanceMethod yX5_commit, Cond.selects RX5 yX5_commit yX5_commit, Cond.code yX5_commit cX5_commit 2 (some .int), Cond.fieldLink RX5 162 "PointStore$Changes" "total" "I", Cond.methodLink RX5 163 yX5_writeChanges, Cond.instanceMethod yX5_writeChanges, Cond.selects RX5 yX5_writeChanges yX5_writeChanges, Cond.code yX5_writeChanges cX5_writeChanges 1 (some .boolean), Cond.methodLink RX5 198 yX1_writeLog, Cond.instanceMethod yX1_writeLog, Cond.selects RX1 yX1_writeLog yX1_writeLog, Cond.code yX1_writeLog cX1_writeLog 4 none, Cond.fieldLink RX1 26 "PointStore$Changes" "total" "I", Cond.fieldLink RX1 31 "PointStore$Changes" "keys" "[I"]
def wsL_law_r17 : List Cond := [Cond.methodLink RX1 34 arraycopyName, Cond.fieldLink RX1 40 "PointStore$Changes" "values" "[I", Cond.methodLink RX5 174 yX5_losePower, Cond.instanceMethod yX5_losePower, Cond.selects RX5 yX5_losePower yX5_losePower, Cond.code yX5_losePower cX5_losePower 1 none, Cond.methodLink RX5 170 yX2_clear, Cond.instanceMethod yX2_clear, Cond.selects RX2 yX2_clear yX2_clear, Cond.code yX2_clear cX2_clear 1 none, Cond.methodLink RX5 166 yX0_clear, Cond.instanceMethod yX0_clear, Cond.selects RX0 yX0_clear yX0_clear, Cond.code yX0_clear cX0_clear 1 none, Cond.methodLink RX5 202 yX1_seal, Cond.instanceMethod yX1_seal, Cond.selects RX1 yX1_seal yX1_seal, Cond.code yX1_seal cX1_seal 2 none, Cond.methodLink RX5 171 yX1_writeHome, Cond.instanceMethod yX1_writeHome, Cond.selects RX1 yX1_writeHome yX1_writeHome, Cond.code yX1_writeHome cX1_writeHome 4 none, Cond.methodLink RX1 43 yX1_writeAtHome, Cond.instanceMethod yX1_writeAtHome]
def wsL_law_r18 : List Cond := [Cond.selects RX1 yX1_writeAtHome yX1_writeAtHome, Cond.code yX1_writeAtHome cX1_writeAtHome 3 none, Cond.methodLink RX1 47 yX2_clear, Cond.methodLink RX1 52 yX2_takeOut, Cond.methodLink RX1 56 yX2_put, Cond.methodLink RX5 177 yX1_end, Cond.instanceMethod yX1_end, Cond.selects RX1 yX1_end yX1_end, Cond.code yX1_end cX1_end 1 none, Cond.methodLink RL 66 yX6_commit, Cond.instanceMethod yX6_commit, Cond.selects RX6 yX6_commit yX6_commit, Cond.code yX6_commit cX6_commit 2 (some .int), Cond.methodLink RX6 145 yX6_becomes, Cond.instanceMethod yX6_becomes, Cond.selects RX6 yX6_becomes yX6_becomes, Cond.code yX6_becomes cX6_becomes 6 none, Cond.methodLink RX6 149 yX6_goes, Cond.instanceMethod yX6_goes, Cond.selects RX6 yX6_goes yX6_goes, Cond.code yX6_goes cX6_goes 1 (some .int), Cond.methodLink RL 67 yX5_abort, Cond.instanceMethod yX5_abort, Cond.selects RX5 yX5_abort yX5_abort]
def wsL_law_r19 : List Cond := [Cond.code yX5_abort cX5_abort 2 (some .int), Cond.methodLink RX5 167 yX2_copyFrom, Cond.instanceMethod yX2_copyFrom, Cond.selects RX2 yX2_copyFrom yX2_copyFrom, Cond.code yX2_copyFrom cX2_copyFrom 2 none, Cond.methodLink RL 70 yX6_abort, Cond.instanceMethod yX6_abort, Cond.selects RX6 yX6_abort yX6_abort, Cond.code yX6_abort cX6_abort 2 (some .int), Cond.methodLink RL 71 yX5_format, Cond.instanceMethod yX5_format, Cond.selects RX5 yX5_format yX5_format, Cond.code yX5_format cX5_format 1 (some .int), Cond.methodLink RL 74 yX6_format, Cond.instanceMethod yX6_format, Cond.selects RX6 yX6_format yX6_format, Cond.code yX6_format cX6_format 1 (some .int), Cond.methodLink RL 75 yX5_arm, Cond.instanceMethod yX5_arm, Cond.selects RX5 yX5_arm yX5_arm, Cond.code yX5_arm cX5_arm 3 (some .boolean), Cond.methodLink RL 79 yX6_arm, Cond.instanceMethod yX6_arm, Cond.selects RX6 yX6_arm yX6_arm]
def wsL_law_r20 : List Cond := [Cond.code yX6_arm cX6_arm 3 (some .boolean), Cond.methodLink RL 80 yX5_recover, Cond.instanceMethod yX5_recover, Cond.selects RX5 yX5_recover yX5_recover, Cond.code yX5_recover cX5_recover 1 (some .int), Cond.methodLink RL 83 yX6_recover, Cond.instanceMethod yX6_recover, Cond.selects RX6 yX6_recover yX6_recover, Cond.code yX6_recover cX6_recover 1 (some .int), Cond.methodLink RL 84 yX5_node, Cond.instanceMethod yX5_node, Cond.selects RX5 yX5_node yX5_node, Cond.code yX5_node cX5_node 5 (some .int), Cond.methodLink RX5 180 yX5_treeOf, Cond.instanceMethod yX5_treeOf, Cond.selects RX5 yX5_treeOf yX5_treeOf, Cond.code yX5_treeOf cX5_treeOf 2 (some (.object "PointStore$Tree")), Cond.methodLink RX5 188 yX4_factOf, Cond.instanceMethod yX4_factOf, Cond.selects RX4 yX4_factOf yX4_factOf, Cond.code yX4_factOf cX4_factOf 3 (some .int), Cond.methodLink RL 87 yX6_node, Cond.instanceMethod yX6_node, Cond.selects RX6 yX6_node yX6_node]
def wsL_law_r21 : List Cond := [Cond.code yX6_node cX6_node 6 (some .int), Cond.methodLink RL 88 yX5_count, Cond.instanceMethod yX5_count, Cond.selects RX5 yX5_count yX5_count, Cond.code yX5_count cX5_count 2 (some .int), Cond.fieldLink RX5 194 "PointStore$Tree" "depth" "I", Cond.methodLink RL 92 yX6_count, Cond.instanceMethod yX6_count, Cond.selects RX6 yX6_count yX6_count, Cond.code yX6_count cX6_count 2 (some .int), Cond.methodLink RX6 153 yX6_depth, Cond.instanceMethod yX6_depth, Cond.selects RX6 yX6_depth yX6_depth, Cond.code yX6_depth cX6_depth 2 (some .int)]
def wsL_law : List Cond := (wsL_law_r1 ++ (wsL_law_r2 ++ (wsL_law_r3 ++ (wsL_law_r4 ++ (wsL_law_r5 ++ (wsL_law_r6 ++ (wsL_law_r7 ++ (wsL_law_r8 ++ (wsL_law_r9 ++ (wsL_law_r10 ++ (wsL_law_r11 ++ (wsL_law_r12 ++ (wsL_law_r13 ++ (wsL_law_r14 ++ (wsL_law_r15 ++ (wsL_law_r16 ++ (wsL_law_r17 ++ (wsL_law_r18 ++ (wsL_law_r19 ++ (wsL_law_r20 ++ wsL_law_r21)))))))))))))))))))) ++ wsX50 ++ wsX60 ++ wsX20 ++ wsX10 ++ wsX40 ++ wsX00 ++ wsX30 ++ ([] : List Cond)
theorem inlX0 : ∀ w ∈ wsX00, w ∈ wsL_law := fun _ h => List.mem_append_left _ (List.mem_append_left _ (List.mem_append_right _ h))
theorem inlX1 : ∀ w ∈ wsX10, w ∈ wsL_law := fun _ h => List.mem_append_left _ (List.mem_append_left _ (List.mem_append_left _ (List.mem_append_left _ (List.mem_append_right _ h))))
theorem inlX2 : ∀ w ∈ wsX20, w ∈ wsL_law := fun _ h => List.mem_append_left _ (List.mem_append_left _ (List.mem_append_left _ (List.mem_append_left _ (List.mem_append_left _ (List.mem_append_right _ h)))))
theorem inlX3 : ∀ w ∈ wsX30, w ∈ wsL_law := fun _ h => List.mem_append_left _ (List.mem_append_right _ h)
theorem inlX4 : ∀ w ∈ wsX40, w ∈ wsL_law := fun _ h => List.mem_append_left _ (List.mem_append_left _ (List.mem_append_left _ (List.mem_append_right _ h)))
theorem inlX5 : ∀ w ∈ wsX50, w ∈ wsL_law := fun _ h => List.mem_append_left _ (List.mem_append_left _ (List.mem_append_left _ (List.mem_append_left _ (List.mem_append_left _ (List.mem_append_left _ (List.mem_append_left _ (List.mem_append_right _ h)))))))
theorem inlX6 : ∀ w ∈ wsX60, w ∈ wsL_law := fun _ h => List.mem_append_left _ (List.mem_append_left _ (List.mem_append_left _ (List.mem_append_left _ (List.mem_append_left _ (List.mem_append_left _ (List.mem_append_right _ h))))))
theorem inJ9 : ∀ w ∈ wsJ90, w ∈ lw_tbl := by decide +kernel
theorem inJ10 : ∀ w ∈ wsJ100, w ∈ lw_tbl := by decide +kernel
theorem dX0_init_0 : decode cX0_init 0 = .ok (.aload_n 0, 1) := by decide +kernel
theorem dX0_init_1 : decode cX0_init 1 = .ok (.invokespecial 3, 3) := by decide +kernel
theorem dX0_init_4 : decode cX0_init 4 = .ok (.aload_n 0, 1) := by decide +kernel
theorem dX0_init_5 : decode cX0_init 5 = .ok (.bipush 60, 2) := by decide +kernel
theorem dX0_init_7 : decode cX0_init 7 = .ok (.newarray .int, 2) := by decide +kernel
theorem dX0_init_9 : decode cX0_init 9 = .ok (.putfield 9, 3) := by decide +kernel
theorem dX0_init_12 : decode cX0_init 12 = .ok (.aload_n 0, 1) := by decide +kernel
theorem dX0_init_13 : decode cX0_init 13 = .ok (.bipush 60, 2) := by decide +kernel
theorem dX0_init_15 : decode cX0_init 15 = .ok (.newarray .int, 2) := by decide +kernel
theorem dX0_init_17 : decode cX0_init 17 = .ok (.putfield 15, 3) := by decide +kernel
theorem dX0_init_20 : decode cX0_init 20 = .ok (.aload_n 0, 1) := by decide +kernel
theorem dX0_init_21 : decode cX0_init 21 = .ok (.iconst 0, 1) := by decide +kernel
theorem dX0_init_22 : decode cX0_init 22 = .ok (.putfield 18, 3) := by decide +kernel
theorem dX0_init_25 : decode cX0_init 25 = .ok (.return_, 1) := by decide +kernel
theorem dX0_isFull_0 : decode cX0_isFull 0 = .ok (.aload_n 0, 1) := by decide +kernel
theorem dX0_isFull_1 : decode cX0_isFull 1 = .ok (.getfield 18, 3) := by decide +kernel
theorem dX0_isFull_4 : decode cX0_isFull 4 = .ok (.bipush 60, 2) := by decide +kernel
theorem dX0_isFull_6 : decode cX0_isFull 6 = .ok (.if_icmp .lt 7, 3) := by decide +kernel
theorem dX0_isFull_9 : decode cX0_isFull 9 = .ok (.iconst 1, 1) := by decide +kernel
theorem dX0_isFull_10 : decode cX0_isFull 10 = .ok (.goto 4, 3) := by decide +kernel
theorem dX0_isFull_13 : decode cX0_isFull 13 = .ok (.iconst 0, 1) := by decide +kernel
theorem dX0_isFull_14 : decode cX0_isFull 14 = .ok (.ireturn, 1) := by decide +kernel
set_option maxRecDepth 20000 in
theorem ggX0_add_X0_isFull : GoodIn wsX0_add wsX0_isFull := goodIn_r _ [8, 2, 9, 10, 11] (by decide +kernel) (by decide +kernel)
set_option maxRecDepth 20000 in
theorem gX0_add_X0_isFull : GoodIn wsX0_add (wsV RX0 22 RX0 yX0_isFull wsX0_isFull) := goodIn_app (goodIn_of _ (by decide +kernel)) ggX0_add_X0_isFull
theorem dX0_add_0 : decode cX0_add 0 = .ok (.aload_n 0, 1) := by decide +kernel
theorem dX0_add_1 : decode cX0_add 1 = .ok (.invokevirtual 22, 3) := by decide +kernel
theorem dX0_add_4 : decode cX0_add 4 = .ok (.ifCond .eq 4, 3) := by decide +kernel
theorem dX0_add_7 : decode cX0_add 7 = .ok (.return_, 1) := by decide +kernel
theorem dX0_add_8 : decode cX0_add 8 = .ok (.aload_n 0, 1) := by decide +kernel
theorem dX0_add_9 : decode cX0_add 9 = .ok (.getfield 9, 3) := by decide +kernel
theorem dX0_add_12 : decode cX0_add 12 = .ok (.aload_n 0, 1) := by decide +kernel
theorem dX0_add_13 : decode cX0_add 13 = .ok (.getfield 18, 3) := by decide +kernel
theorem dX0_add_16 : decode cX0_add 16 = .ok (.iload_n 1, 1) := by decide +kernel
theorem dX0_add_17 : decode cX0_add 17 = .ok (.iastore, 1) := by decide +kernel
theorem dX0_add_18 : decode cX0_add 18 = .ok (.aload_n 0, 1) := by decide +kernel
theorem dX0_add_19 : decode cX0_add 19 = .ok (.getfield 15, 3) := by decide +kernel
theorem dX0_add_22 : decode cX0_add 22 = .ok (.aload_n 0, 1) := by decide +kernel
theorem dX0_add_23 : decode cX0_add 23 = .ok (.getfield 18, 3) := by decide +kernel
theorem dX0_add_26 : decode cX0_add 26 = .ok (.iload_n 2, 1) := by decide +kernel
theorem dX0_add_27 : decode cX0_add 27 = .ok (.iastore, 1) := by decide +kernel
theorem dX0_add_28 : decode cX0_add 28 = .ok (.aload_n 0, 1) := by decide +kernel
theorem dX0_add_29 : decode cX0_add 29 = .ok (.dup, 1) := by decide +kernel
theorem dX0_add_30 : decode cX0_add 30 = .ok (.getfield 18, 3) := by decide +kernel
theorem dX0_add_33 : decode cX0_add 33 = .ok (.iconst 1, 1) := by decide +kernel
theorem dX0_add_34 : decode cX0_add 34 = .ok (.iadd, 1) := by decide +kernel
theorem dX0_add_35 : decode cX0_add 35 = .ok (.putfield 18, 3) := by decide +kernel
theorem dX0_add_38 : decode cX0_add 38 = .ok (.return_, 1) := by decide +kernel
theorem dX0_clear_0 : decode cX0_clear 0 = .ok (.aload_n 0, 1) := by decide +kernel
theorem dX0_clear_1 : decode cX0_clear 1 = .ok (.iconst 0, 1) := by decide +kernel
theorem dX0_clear_2 : decode cX0_clear 2 = .ok (.putfield 18, 3) := by decide +kernel
theorem dX0_clear_5 : decode cX0_clear 5 = .ok (.return_, 1) := by decide +kernel
theorem dX1_init_0 : decode cX1_init 0 = .ok (.aload_n 0, 1) := by decide +kernel
theorem dX1_init_1 : decode cX1_init 1 = .ok (.invokespecial 3, 3) := by decide +kernel
theorem dX1_init_4 : decode cX1_init 4 = .ok (.aload_n 0, 1) := by decide +kernel
theorem dX1_init_5 : decode cX1_init 5 = .ok (.bipush 60, 2) := by decide +kernel
theorem dX1_init_7 : decode cX1_init 7 = .ok (.newarray .int, 2) := by decide +kernel
theorem dX1_init_9 : decode cX1_init 9 = .ok (.putfield 9, 3) := by decide +kernel
theorem dX1_init_12 : decode cX1_init 12 = .ok (.aload_n 0, 1) := by decide +kernel
theorem dX1_init_13 : decode cX1_init 13 = .ok (.bipush 60, 2) := by decide +kernel
theorem dX1_init_15 : decode cX1_init 15 = .ok (.newarray .int, 2) := by decide +kernel
theorem dX1_init_17 : decode cX1_init 17 = .ok (.putfield 15, 3) := by decide +kernel
theorem dX1_init_20 : decode cX1_init 20 = .ok (.aload_n 0, 1) := by decide +kernel
theorem dX1_init_21 : decode cX1_init 21 = .ok (.iconst 0, 1) := by decide +kernel
theorem dX1_init_22 : decode cX1_init 22 = .ok (.putfield 18, 3) := by decide +kernel
theorem dX1_init_25 : decode cX1_init 25 = .ok (.aload_n 0, 1) := by decide +kernel
theorem dX1_init_26 : decode cX1_init 26 = .ok (.aload_n 1, 1) := by decide +kernel
theorem dX1_init_27 : decode cX1_init 27 = .ok (.putfield 22, 3) := by decide +kernel
theorem dX1_init_30 : decode cX1_init 30 = .ok (.return_, 1) := by decide +kernel
theorem dX1_writeLog_0 : decode cX1_writeLog 0 = .ok (.aload_n 1, 1) := by decide +kernel
theorem dX1_writeLog_1 : decode cX1_writeLog 1 = .ok (.getfield 26, 3) := by decide +kernel
theorem dX1_writeLog_4 : decode cX1_writeLog 4 = .ok (.iload_n 2, 1) := by decide +kernel
theorem dX1_writeLog_5 : decode cX1_writeLog 5 = .ok (.imul, 1) := by decide +kernel
theorem dX1_writeLog_6 : decode cX1_writeLog 6 = .ok (.sipush 256, 3) := by decide +kernel
theorem dX1_writeLog_9 : decode cX1_writeLog 9 = .ok (.idiv, 1) := by decide +kernel
theorem dX1_writeLog_10 : decode cX1_writeLog 10 = .ok (.istore_n 3, 1) := by decide +kernel
theorem dX1_writeLog_11 : decode cX1_writeLog 11 = .ok (.aload_n 1, 1) := by decide +kernel
theorem dX1_writeLog_12 : decode cX1_writeLog 12 = .ok (.getfield 31, 3) := by decide +kernel
theorem dX1_writeLog_15 : decode cX1_writeLog 15 = .ok (.iconst 0, 1) := by decide +kernel
theorem dX1_writeLog_16 : decode cX1_writeLog 16 = .ok (.aload_n 0, 1) := by decide +kernel
theorem dX1_writeLog_17 : decode cX1_writeLog 17 = .ok (.getfield 9, 3) := by decide +kernel
theorem dX1_writeLog_20 : decode cX1_writeLog 20 = .ok (.iconst 0, 1) := by decide +kernel
theorem dX1_writeLog_21 : decode cX1_writeLog 21 = .ok (.iload_n 3, 1) := by decide +kernel
theorem dX1_writeLog_22 : decode cX1_writeLog 22 = .ok (.invokestatic 34, 3) := by decide +kernel
theorem dX1_writeLog_25 : decode cX1_writeLog 25 = .ok (.aload_n 1, 1) := by decide +kernel
theorem dX1_writeLog_26 : decode cX1_writeLog 26 = .ok (.getfield 40, 3) := by decide +kernel
theorem dX1_writeLog_29 : decode cX1_writeLog 29 = .ok (.iconst 0, 1) := by decide +kernel
theorem dX1_writeLog_30 : decode cX1_writeLog 30 = .ok (.aload_n 0, 1) := by decide +kernel
theorem dX1_writeLog_31 : decode cX1_writeLog 31 = .ok (.getfield 15, 3) := by decide +kernel
theorem dX1_writeLog_34 : decode cX1_writeLog 34 = .ok (.iconst 0, 1) := by decide +kernel
theorem dX1_writeLog_35 : decode cX1_writeLog 35 = .ok (.iload_n 3, 1) := by decide +kernel
theorem dX1_writeLog_36 : decode cX1_writeLog 36 = .ok (.invokestatic 34, 3) := by decide +kernel
theorem dX1_writeLog_39 : decode cX1_writeLog 39 = .ok (.iload_n 3, 1) := by decide +kernel
theorem dX1_writeLog_40 : decode cX1_writeLog 40 = .ok (.aload_n 1, 1) := by decide +kernel
theorem dX1_writeLog_41 : decode cX1_writeLog 41 = .ok (.getfield 26, 3) := by decide +kernel
theorem dX1_writeLog_44 : decode cX1_writeLog 44 = .ok (.if_icmp .ge 15, 3) := by decide +kernel
theorem dX1_writeLog_47 : decode cX1_writeLog 47 = .ok (.aload_n 0, 1) := by decide +kernel
theorem dX1_writeLog_48 : decode cX1_writeLog 48 = .ok (.getfield 9, 3) := by decide +kernel
theorem dX1_writeLog_51 : decode cX1_writeLog 51 = .ok (.iload_n 3, 1) := by decide +kernel
theorem dX1_writeLog_52 : decode cX1_writeLog 52 = .ok (.aload_n 1, 1) := by decide +kernel
theorem dX1_writeLog_53 : decode cX1_writeLog 53 = .ok (.getfield 31, 3) := by decide +kernel
theorem dX1_writeLog_56 : decode cX1_writeLog 56 = .ok (.iload_n 3, 1) := by decide +kernel
theorem dX1_writeLog_57 : decode cX1_writeLog 57 = .ok (.iaload, 1) := by decide +kernel
theorem dX1_writeLog_58 : decode cX1_writeLog 58 = .ok (.iastore, 1) := by decide +kernel
theorem dX1_writeLog_59 : decode cX1_writeLog 59 = .ok (.return_, 1) := by decide +kernel
theorem dX1_seal_0 : decode cX1_seal 0 = .ok (.aload_n 0, 1) := by decide +kernel
theorem dX1_seal_1 : decode cX1_seal 1 = .ok (.iload_n 1, 1) := by decide +kernel
theorem dX1_seal_2 : decode cX1_seal 2 = .ok (.putfield 18, 3) := by decide +kernel
theorem dX1_seal_5 : decode cX1_seal 5 = .ok (.return_, 1) := by decide +kernel
set_option maxRecDepth 20000 in
theorem ggX1_writeHome_X1_writeAtHome : GoodIn wsX1_writeHome wsX1_writeAtHome := goodIn_r _ [8, 9, 10, 11, 12, 13, 14, 15, 16, 17, 18, 19, 20, 21, 22, 23, 24, 25, 26, 27, 28, 29, 30, 31, 32, 33, 34, 35, 36, 37, 38, 39, 40, 41, 42, 43, 44, 45, 46, 47, 48, 49, 50, 51] (by decide +kernel) (by decide +kernel)
set_option maxRecDepth 20000 in
theorem gX1_writeHome_X1_writeAtHome : GoodIn wsX1_writeHome (wsV RX1 43 RX1 yX1_writeAtHome wsX1_writeAtHome) := goodIn_app (goodIn_of _ (by decide +kernel)) ggX1_writeHome_X1_writeAtHome
theorem dX1_writeHome_0 : decode cX1_writeHome 0 = .ok (.aload_n 0, 1) := by decide +kernel
theorem dX1_writeHome_1 : decode cX1_writeHome 1 = .ok (.getfield 18, 3) := by decide +kernel
theorem dX1_writeHome_4 : decode cX1_writeHome 4 = .ok (.iload_n 1, 1) := by decide +kernel
theorem dX1_writeHome_5 : decode cX1_writeHome 5 = .ok (.imul, 1) := by decide +kernel
theorem dX1_writeHome_6 : decode cX1_writeHome 6 = .ok (.sipush 256, 3) := by decide +kernel
theorem dX1_writeHome_9 : decode cX1_writeHome 9 = .ok (.idiv, 1) := by decide +kernel
theorem dX1_writeHome_10 : decode cX1_writeHome 10 = .ok (.istore_n 2, 1) := by decide +kernel
theorem dX1_writeHome_11 : decode cX1_writeHome 11 = .ok (.iconst 0, 1) := by decide +kernel
theorem dX1_writeHome_12 : decode cX1_writeHome 12 = .ok (.istore_n 3, 1) := by decide +kernel
theorem dX1_writeHome_13 : decode cX1_writeHome 13 = .ok (.iload_n 3, 1) := by decide +kernel
theorem dX1_writeHome_14 : decode cX1_writeHome 14 = .ok (.iload_n 2, 1) := by decide +kernel
theorem dX1_writeHome_15 : decode cX1_writeHome 15 = .ok (.if_icmp .ge 25, 3) := by decide +kernel
theorem dX1_writeHome_18 : decode cX1_writeHome 18 = .ok (.aload_n 0, 1) := by decide +kernel
theorem dX1_writeHome_19 : decode cX1_writeHome 19 = .ok (.aload_n 0, 1) := by decide +kernel
theorem dX1_writeHome_20 : decode cX1_writeHome 20 = .ok (.getfield 9, 3) := by decide +kernel
theorem dX1_writeHome_23 : decode cX1_writeHome 23 = .ok (.iload_n 3, 1) := by decide +kernel
theorem dX1_writeHome_24 : decode cX1_writeHome 24 = .ok (.iaload, 1) := by decide +kernel
theorem dX1_writeHome_25 : decode cX1_writeHome 25 = .ok (.aload_n 0, 1) := by decide +kernel
theorem dX1_writeHome_26 : decode cX1_writeHome 26 = .ok (.getfield 15, 3) := by decide +kernel
theorem dX1_writeHome_29 : decode cX1_writeHome 29 = .ok (.iload_n 3, 1) := by decide +kernel
theorem dX1_writeHome_30 : decode cX1_writeHome 30 = .ok (.iaload, 1) := by decide +kernel
theorem dX1_writeHome_31 : decode cX1_writeHome 31 = .ok (.invokevirtual 43, 3) := by decide +kernel
theorem dX1_writeHome_34 : decode cX1_writeHome 34 = .ok (.iinc 3 1, 3) := by decide +kernel
theorem dX1_writeHome_37 : decode cX1_writeHome 37 = .ok (.goto (-24), 3) := by decide +kernel
theorem dX1_writeHome_40 : decode cX1_writeHome 40 = .ok (.return_, 1) := by decide +kernel
theorem dX1_end_0 : decode cX1_end 0 = .ok (.aload_n 0, 1) := by decide +kernel
theorem dX1_end_1 : decode cX1_end 1 = .ok (.iconst 0, 1) := by decide +kernel
theorem dX1_end_2 : decode cX1_end 2 = .ok (.putfield 18, 3) := by decide +kernel
theorem dX1_end_5 : decode cX1_end 5 = .ok (.return_, 1) := by decide +kernel
set_option maxRecDepth 20000 in
theorem ggX1_writeAtHome_X2_clear : GoodIn wsX1_writeAtHome wsX2_clear := goodIn_r _ [6, 7, 8, 40, 41, 42, 43] (by decide +kernel) (by decide +kernel)
set_option maxRecDepth 20000 in
theorem gX1_writeAtHome_X2_clear : GoodIn wsX1_writeAtHome (wsV RX1 47 RX2 yX2_clear wsX2_clear) := goodIn_app (goodIn_of _ (by decide +kernel)) ggX1_writeAtHome_X2_clear
set_option maxRecDepth 20000 in
theorem ggX1_writeAtHome_X2_takeOut : GoodIn wsX1_writeAtHome wsX2_takeOut := goodIn_r _ [12, 13, 7, 14, 15, 16, 17, 18, 8, 19, 20, 21, 5, 22, 23, 24, 25, 26, 27, 40, 41, 42, 43] (by decide +kernel) (by decide +kernel)
set_option maxRecDepth 20000 in
theorem gX1_writeAtHome_X2_takeOut : GoodIn wsX1_writeAtHome (wsV RX1 52 RX2 yX2_takeOut wsX2_takeOut) := goodIn_app (goodIn_of _ (by decide +kernel)) ggX1_writeAtHome_X2_takeOut
set_option maxRecDepth 20000 in
theorem ggX1_writeAtHome_X2_put : GoodIn wsX1_writeAtHome wsX2_put := goodIn_r _ [31, 13, 7, 14, 15, 16, 17, 18, 8, 19, 20, 21, 5, 22, 23, 24, 25, 26, 27, 32, 33, 34, 35, 40, 41, 42, 43] (by decide +kernel) (by decide +kernel)
set_option maxRecDepth 20000 in
theorem gX1_writeAtHome_X2_put : GoodIn wsX1_writeAtHome (wsV RX1 56 RX2 yX2_put wsX2_put) := goodIn_app (goodIn_of _ (by decide +kernel)) ggX1_writeAtHome_X2_put
theorem dX1_writeAtHome_0 : decode cX1_writeAtHome 0 = .ok (.iload_n 1, 1) := by decide +kernel
theorem dX1_writeAtHome_1 : decode cX1_writeAtHome 1 = .ok (.iconst (-1), 1) := by decide +kernel
theorem dX1_writeAtHome_2 : decode cX1_writeAtHome 2 = .ok (.if_icmp .ne 13, 3) := by decide +kernel
theorem dX1_writeAtHome_5 : decode cX1_writeAtHome 5 = .ok (.aload_n 0, 1) := by decide +kernel
theorem dX1_writeAtHome_6 : decode cX1_writeAtHome 6 = .ok (.getfield 22, 3) := by decide +kernel
theorem dX1_writeAtHome_9 : decode cX1_writeAtHome 9 = .ok (.invokevirtual 47, 3) := by decide +kernel
theorem dX1_writeAtHome_12 : decode cX1_writeAtHome 12 = .ok (.goto 28, 3) := by decide +kernel
theorem dX1_writeAtHome_15 : decode cX1_writeAtHome 15 = .ok (.iload_n 2, 1) := by decide +kernel
theorem dX1_writeAtHome_16 : decode cX1_writeAtHome 16 = .ok (.iconst (-1), 1) := by decide +kernel
theorem dX1_writeAtHome_17 : decode cX1_writeAtHome 17 = .ok (.if_icmp .ne 14, 3) := by decide +kernel
theorem dX1_writeAtHome_20 : decode cX1_writeAtHome 20 = .ok (.aload_n 0, 1) := by decide +kernel
theorem dX1_writeAtHome_21 : decode cX1_writeAtHome 21 = .ok (.getfield 22, 3) := by decide +kernel
theorem dX1_writeAtHome_24 : decode cX1_writeAtHome 24 = .ok (.iload_n 1, 1) := by decide +kernel
theorem dX1_writeAtHome_25 : decode cX1_writeAtHome 25 = .ok (.invokevirtual 52, 3) := by decide +kernel
theorem dX1_writeAtHome_28 : decode cX1_writeAtHome 28 = .ok (.goto 12, 3) := by decide +kernel
theorem dX1_writeAtHome_31 : decode cX1_writeAtHome 31 = .ok (.aload_n 0, 1) := by decide +kernel
theorem dX1_writeAtHome_32 : decode cX1_writeAtHome 32 = .ok (.getfield 22, 3) := by decide +kernel
theorem dX1_writeAtHome_35 : decode cX1_writeAtHome 35 = .ok (.iload_n 1, 1) := by decide +kernel
theorem dX1_writeAtHome_36 : decode cX1_writeAtHome 36 = .ok (.iload_n 2, 1) := by decide +kernel
theorem dX1_writeAtHome_37 : decode cX1_writeAtHome 37 = .ok (.invokevirtual 56, 3) := by decide +kernel
theorem dX1_writeAtHome_40 : decode cX1_writeAtHome 40 = .ok (.return_, 1) := by decide +kernel
theorem dX2_init_0 : decode cX2_init 0 = .ok (.aload_n 0, 1) := by decide +kernel
theorem dX2_init_1 : decode cX2_init 1 = .ok (.invokespecial 3, 3) := by decide +kernel
theorem dX2_init_4 : decode cX2_init 4 = .ok (.aload_n 0, 1) := by decide +kernel
theorem dX2_init_5 : decode cX2_init 5 = .ok (.sipush 512, 3) := by decide +kernel
theorem dX2_init_8 : decode cX2_init 8 = .ok (.newarray .int, 2) := by decide +kernel
theorem dX2_init_10 : decode cX2_init 10 = .ok (.putfield 9, 3) := by decide +kernel
theorem dX2_init_13 : decode cX2_init 13 = .ok (.aload_n 0, 1) := by decide +kernel
theorem dX2_init_14 : decode cX2_init 14 = .ok (.sipush 512, 3) := by decide +kernel
theorem dX2_init_17 : decode cX2_init 17 = .ok (.newarray .int, 2) := by decide +kernel
theorem dX2_init_19 : decode cX2_init 19 = .ok (.putfield 15, 3) := by decide +kernel
theorem dX2_init_22 : decode cX2_init 22 = .ok (.aload_n 0, 1) := by decide +kernel
theorem dX2_init_23 : decode cX2_init 23 = .ok (.iconst 0, 1) := by decide +kernel
theorem dX2_init_24 : decode cX2_init 24 = .ok (.putfield 18, 3) := by decide +kernel
theorem dX2_init_27 : decode cX2_init 27 = .ok (.aload_n 0, 1) := by decide +kernel
theorem dX2_init_28 : decode cX2_init 28 = .ok (.iconst 0, 1) := by decide +kernel
theorem dX2_init_29 : decode cX2_init 29 = .ok (.putfield 22, 3) := by decide +kernel
theorem dX2_init_32 : decode cX2_init 32 = .ok (.return_, 1) := by decide +kernel
theorem dX2_isFull_0 : decode cX2_isFull 0 = .ok (.aload_n 0, 1) := by decide +kernel
theorem dX2_isFull_1 : decode cX2_isFull 1 = .ok (.getfield 18, 3) := by decide +kernel
theorem dX2_isFull_4 : decode cX2_isFull 4 = .ok (.sipush 512, 3) := by decide +kernel
theorem dX2_isFull_7 : decode cX2_isFull 7 = .ok (.if_icmp .lt 7, 3) := by decide +kernel
theorem dX2_isFull_10 : decode cX2_isFull 10 = .ok (.iconst 1, 1) := by decide +kernel
theorem dX2_isFull_11 : decode cX2_isFull 11 = .ok (.goto 4, 3) := by decide +kernel
theorem dX2_isFull_14 : decode cX2_isFull 14 = .ok (.iconst 0, 1) := by decide +kernel
theorem dX2_isFull_15 : decode cX2_isFull 15 = .ok (.ireturn, 1) := by decide +kernel
theorem dX2_keyAt_0 : decode cX2_keyAt 0 = .ok (.iload_n 1, 1) := by decide +kernel
theorem dX2_keyAt_1 : decode cX2_keyAt 1 = .ok (.ifCond .lt 20, 3) := by decide +kernel
theorem dX2_keyAt_4 : decode cX2_keyAt 4 = .ok (.iload_n 1, 1) := by decide +kernel
theorem dX2_keyAt_5 : decode cX2_keyAt 5 = .ok (.aload_n 0, 1) := by decide +kernel
theorem dX2_keyAt_6 : decode cX2_keyAt 6 = .ok (.getfield 18, 3) := by decide +kernel
theorem dX2_keyAt_9 : decode cX2_keyAt 9 = .ok (.if_icmp .ge 12, 3) := by decide +kernel
theorem dX2_keyAt_12 : decode cX2_keyAt 12 = .ok (.aload_n 0, 1) := by decide +kernel
theorem dX2_keyAt_13 : decode cX2_keyAt 13 = .ok (.getfield 9, 3) := by decide +kernel
theorem dX2_keyAt_16 : decode cX2_keyAt 16 = .ok (.iload_n 1, 1) := by decide +kernel
theorem dX2_keyAt_17 : decode cX2_keyAt 17 = .ok (.iaload, 1) := by decide +kernel
theorem dX2_keyAt_18 : decode cX2_keyAt 18 = .ok (.goto 5, 3) := by decide +kernel
theorem dX2_keyAt_21 : decode cX2_keyAt 21 = .ok (.ldc 25, 2) := by decide +kernel
theorem dX2_keyAt_23 : decode cX2_keyAt 23 = .ok (.ireturn, 1) := by decide +kernel
set_option maxRecDepth 20000 in
theorem ggX2_valueOf_X2_placeOf : GoodIn wsX2_valueOf wsX2_placeOf := goodIn_r _ [6, 7, 8, 14, 15, 16, 17] (by decide +kernel) (by decide +kernel)
set_option maxRecDepth 20000 in
theorem gX2_valueOf_X2_placeOf : GoodIn wsX2_valueOf (wsV RX2 26 RX2 yX2_placeOf wsX2_placeOf) := goodIn_app (goodIn_of _ (by decide +kernel)) ggX2_valueOf_X2_placeOf
set_option maxRecDepth 20000 in
theorem ggX2_valueOf_X2_keyAt : GoodIn wsX2_valueOf wsX2_keyAt := goodIn_r _ [12, 7, 8, 13, 14, 15, 16, 17] (by decide +kernel) (by decide +kernel)
set_option maxRecDepth 20000 in
theorem gX2_valueOf_X2_keyAt : GoodIn wsX2_valueOf (wsV RX2 30 RX2 yX2_keyAt wsX2_keyAt) := goodIn_app (goodIn_of _ (by decide +kernel)) ggX2_valueOf_X2_keyAt
theorem dX2_valueOf_0 : decode cX2_valueOf 0 = .ok (.aload_n 0, 1) := by decide +kernel
theorem dX2_valueOf_1 : decode cX2_valueOf 1 = .ok (.iload_n 1, 1) := by decide +kernel
theorem dX2_valueOf_2 : decode cX2_valueOf 2 = .ok (.invokevirtual 26, 3) := by decide +kernel
theorem dX2_valueOf_5 : decode cX2_valueOf 5 = .ok (.istore_n 2, 1) := by decide +kernel
theorem dX2_valueOf_6 : decode cX2_valueOf 6 = .ok (.aload_n 0, 1) := by decide +kernel
theorem dX2_valueOf_7 : decode cX2_valueOf 7 = .ok (.iload_n 2, 1) := by decide +kernel
theorem dX2_valueOf_8 : decode cX2_valueOf 8 = .ok (.invokevirtual 30, 3) := by decide +kernel
theorem dX2_valueOf_11 : decode cX2_valueOf 11 = .ok (.iload_n 1, 1) := by decide +kernel
theorem dX2_valueOf_12 : decode cX2_valueOf 12 = .ok (.if_icmp .ne 12, 3) := by decide +kernel
theorem dX2_valueOf_15 : decode cX2_valueOf 15 = .ok (.aload_n 0, 1) := by decide +kernel
theorem dX2_valueOf_16 : decode cX2_valueOf 16 = .ok (.getfield 15, 3) := by decide +kernel
theorem dX2_valueOf_19 : decode cX2_valueOf 19 = .ok (.iload_n 2, 1) := by decide +kernel
theorem dX2_valueOf_20 : decode cX2_valueOf 20 = .ok (.iaload, 1) := by decide +kernel
theorem dX2_valueOf_21 : decode cX2_valueOf 21 = .ok (.goto 4, 3) := by decide +kernel
theorem dX2_valueOf_24 : decode cX2_valueOf 24 = .ok (.iconst (-1), 1) := by decide +kernel
theorem dX2_valueOf_25 : decode cX2_valueOf 25 = .ok (.ireturn, 1) := by decide +kernel
set_option maxRecDepth 20000 in
theorem ggX2_put_X2_placeOf : GoodIn wsX2_put wsX2_placeOf := goodIn_r _ [13, 2, 1, 23, 24, 25, 26] (by decide +kernel) (by decide +kernel)
set_option maxRecDepth 20000 in
theorem gX2_put_X2_placeOf : GoodIn wsX2_put (wsV RX2 26 RX2 yX2_placeOf wsX2_placeOf) := goodIn_app (goodIn_of _ (by decide +kernel)) ggX2_put_X2_placeOf
set_option maxRecDepth 20000 in
theorem ggX2_put_X2_keyAt : GoodIn wsX2_put wsX2_keyAt := goodIn_r _ [17, 2, 1, 18, 23, 24, 25, 26] (by decide +kernel) (by decide +kernel)
set_option maxRecDepth 20000 in
theorem gX2_put_X2_keyAt : GoodIn wsX2_put (wsV RX2 30 RX2 yX2_keyAt wsX2_keyAt) := goodIn_app (goodIn_of _ (by decide +kernel)) ggX2_put_X2_keyAt
set_option maxRecDepth 20000 in
theorem ggX2_put_X2_isFull : GoodIn wsX2_put wsX2_isFull := goodIn_r _ [22, 2, 23, 24, 25, 26] (by decide +kernel) (by decide +kernel)
set_option maxRecDepth 20000 in
theorem gX2_put_X2_isFull : GoodIn wsX2_put (wsV RX2 33 RX2 yX2_isFull wsX2_isFull) := goodIn_app (goodIn_of _ (by decide +kernel)) ggX2_put_X2_isFull
theorem dX2_put_0 : decode cX2_put 0 = .ok (.aload_n 0, 1) := by decide +kernel
theorem dX2_put_1 : decode cX2_put 1 = .ok (.iload_n 1, 1) := by decide +kernel
theorem dX2_put_2 : decode cX2_put 2 = .ok (.invokevirtual 26, 3) := by decide +kernel
theorem dX2_put_5 : decode cX2_put 5 = .ok (.istore_n 3, 1) := by decide +kernel
theorem dX2_put_6 : decode cX2_put 6 = .ok (.aload_n 0, 1) := by decide +kernel
theorem dX2_put_7 : decode cX2_put 7 = .ok (.iload_n 3, 1) := by decide +kernel
theorem dX2_put_8 : decode cX2_put 8 = .ok (.invokevirtual 30, 3) := by decide +kernel
theorem dX2_put_11 : decode cX2_put 11 = .ok (.iload_n 1, 1) := by decide +kernel
theorem dX2_put_12 : decode cX2_put 12 = .ok (.if_icmp .eq 70, 3) := by decide +kernel
theorem dX2_put_15 : decode cX2_put 15 = .ok (.aload_n 0, 1) := by decide +kernel
theorem dX2_put_16 : decode cX2_put 16 = .ok (.invokevirtual 33, 3) := by decide +kernel
theorem dX2_put_19 : decode cX2_put 19 = .ok (.ifCond .eq 4, 3) := by decide +kernel
theorem dX2_put_22 : decode cX2_put 22 = .ok (.return_, 1) := by decide +kernel
theorem dX2_put_23 : decode cX2_put 23 = .ok (.aload_n 0, 1) := by decide +kernel
theorem dX2_put_24 : decode cX2_put 24 = .ok (.getfield 9, 3) := by decide +kernel
theorem dX2_put_27 : decode cX2_put 27 = .ok (.iload_n 3, 1) := by decide +kernel
theorem dX2_put_28 : decode cX2_put 28 = .ok (.aload_n 0, 1) := by decide +kernel
theorem dX2_put_29 : decode cX2_put 29 = .ok (.getfield 9, 3) := by decide +kernel
theorem dX2_put_32 : decode cX2_put 32 = .ok (.iload_n 3, 1) := by decide +kernel
theorem dX2_put_33 : decode cX2_put 33 = .ok (.iconst 1, 1) := by decide +kernel
theorem dX2_put_34 : decode cX2_put 34 = .ok (.iadd, 1) := by decide +kernel
theorem dX2_put_35 : decode cX2_put 35 = .ok (.aload_n 0, 1) := by decide +kernel
theorem dX2_put_36 : decode cX2_put 36 = .ok (.getfield 18, 3) := by decide +kernel
theorem dX2_put_39 : decode cX2_put 39 = .ok (.iload_n 3, 1) := by decide +kernel
theorem dX2_put_40 : decode cX2_put 40 = .ok (.isub, 1) := by decide +kernel
theorem dX2_put_41 : decode cX2_put 41 = .ok (.invokestatic 37, 3) := by decide +kernel
theorem dX2_put_44 : decode cX2_put 44 = .ok (.aload_n 0, 1) := by decide +kernel
theorem dX2_put_45 : decode cX2_put 45 = .ok (.getfield 15, 3) := by decide +kernel
theorem dX2_put_48 : decode cX2_put 48 = .ok (.iload_n 3, 1) := by decide +kernel
theorem dX2_put_49 : decode cX2_put 49 = .ok (.aload_n 0, 1) := by decide +kernel
theorem dX2_put_50 : decode cX2_put 50 = .ok (.getfield 15, 3) := by decide +kernel
theorem dX2_put_53 : decode cX2_put 53 = .ok (.iload_n 3, 1) := by decide +kernel
theorem dX2_put_54 : decode cX2_put 54 = .ok (.iconst 1, 1) := by decide +kernel
theorem dX2_put_55 : decode cX2_put 55 = .ok (.iadd, 1) := by decide +kernel
theorem dX2_put_56 : decode cX2_put 56 = .ok (.aload_n 0, 1) := by decide +kernel
theorem dX2_put_57 : decode cX2_put 57 = .ok (.getfield 18, 3) := by decide +kernel
theorem dX2_put_60 : decode cX2_put 60 = .ok (.iload_n 3, 1) := by decide +kernel
theorem dX2_put_61 : decode cX2_put 61 = .ok (.isub, 1) := by decide +kernel
theorem dX2_put_62 : decode cX2_put 62 = .ok (.invokestatic 37, 3) := by decide +kernel
theorem dX2_put_65 : decode cX2_put 65 = .ok (.aload_n 0, 1) := by decide +kernel
theorem dX2_put_66 : decode cX2_put 66 = .ok (.getfield 9, 3) := by decide +kernel
theorem dX2_put_69 : decode cX2_put 69 = .ok (.iload_n 3, 1) := by decide +kernel
theorem dX2_put_70 : decode cX2_put 70 = .ok (.iload_n 1, 1) := by decide +kernel
theorem dX2_put_71 : decode cX2_put 71 = .ok (.iastore, 1) := by decide +kernel
theorem dX2_put_72 : decode cX2_put 72 = .ok (.aload_n 0, 1) := by decide +kernel
theorem dX2_put_73 : decode cX2_put 73 = .ok (.dup, 1) := by decide +kernel
theorem dX2_put_74 : decode cX2_put 74 = .ok (.getfield 18, 3) := by decide +kernel
theorem dX2_put_77 : decode cX2_put 77 = .ok (.iconst 1, 1) := by decide +kernel
theorem dX2_put_78 : decode cX2_put 78 = .ok (.iadd, 1) := by decide +kernel
theorem dX2_put_79 : decode cX2_put 79 = .ok (.putfield 18, 3) := by decide +kernel
theorem dX2_put_82 : decode cX2_put 82 = .ok (.aload_n 0, 1) := by decide +kernel
theorem dX2_put_83 : decode cX2_put 83 = .ok (.getfield 15, 3) := by decide +kernel
theorem dX2_put_86 : decode cX2_put 86 = .ok (.iload_n 3, 1) := by decide +kernel
theorem dX2_put_87 : decode cX2_put 87 = .ok (.iload_n 2, 1) := by decide +kernel
theorem dX2_put_88 : decode cX2_put 88 = .ok (.iastore, 1) := by decide +kernel
theorem dX2_put_89 : decode cX2_put 89 = .ok (.aload_n 0, 1) := by decide +kernel
theorem dX2_put_90 : decode cX2_put 90 = .ok (.dup, 1) := by decide +kernel
theorem dX2_put_91 : decode cX2_put 91 = .ok (.getfield 22, 3) := by decide +kernel
theorem dX2_put_94 : decode cX2_put 94 = .ok (.iconst 1, 1) := by decide +kernel
theorem dX2_put_95 : decode cX2_put 95 = .ok (.iadd, 1) := by decide +kernel
theorem dX2_put_96 : decode cX2_put 96 = .ok (.putfield 22, 3) := by decide +kernel
theorem dX2_put_99 : decode cX2_put 99 = .ok (.return_, 1) := by decide +kernel
set_option maxRecDepth 20000 in
theorem ggX2_takeOut_X2_placeOf : GoodIn wsX2_takeOut wsX2_placeOf := goodIn_r _ [13, 2, 1, 19, 20, 21, 22] (by decide +kernel) (by decide +kernel)
set_option maxRecDepth 20000 in
theorem gX2_takeOut_X2_placeOf : GoodIn wsX2_takeOut (wsV RX2 26 RX2 yX2_placeOf wsX2_placeOf) := goodIn_app (goodIn_of _ (by decide +kernel)) ggX2_takeOut_X2_placeOf
set_option maxRecDepth 20000 in
theorem ggX2_takeOut_X2_keyAt : GoodIn wsX2_takeOut wsX2_keyAt := goodIn_r _ [17, 2, 1, 18, 19, 20, 21, 22] (by decide +kernel) (by decide +kernel)
set_option maxRecDepth 20000 in
theorem gX2_takeOut_X2_keyAt : GoodIn wsX2_takeOut (wsV RX2 30 RX2 yX2_keyAt wsX2_keyAt) := goodIn_app (goodIn_of _ (by decide +kernel)) ggX2_takeOut_X2_keyAt
theorem dX2_takeOut_0 : decode cX2_takeOut 0 = .ok (.aload_n 0, 1) := by decide +kernel
theorem dX2_takeOut_1 : decode cX2_takeOut 1 = .ok (.iload_n 1, 1) := by decide +kernel
theorem dX2_takeOut_2 : decode cX2_takeOut 2 = .ok (.invokevirtual 26, 3) := by decide +kernel
theorem dX2_takeOut_5 : decode cX2_takeOut 5 = .ok (.istore_n 2, 1) := by decide +kernel
theorem dX2_takeOut_6 : decode cX2_takeOut 6 = .ok (.aload_n 0, 1) := by decide +kernel
theorem dX2_takeOut_7 : decode cX2_takeOut 7 = .ok (.iload_n 2, 1) := by decide +kernel
theorem dX2_takeOut_8 : decode cX2_takeOut 8 = .ok (.invokevirtual 30, 3) := by decide +kernel
theorem dX2_takeOut_11 : decode cX2_takeOut 11 = .ok (.iload_n 1, 1) := by decide +kernel
theorem dX2_takeOut_12 : decode cX2_takeOut 12 = .ok (.if_icmp .eq 4, 3) := by decide +kernel
theorem dX2_takeOut_15 : decode cX2_takeOut 15 = .ok (.return_, 1) := by decide +kernel
theorem dX2_takeOut_16 : decode cX2_takeOut 16 = .ok (.aload_n 0, 1) := by decide +kernel
theorem dX2_takeOut_17 : decode cX2_takeOut 17 = .ok (.getfield 9, 3) := by decide +kernel
theorem dX2_takeOut_20 : decode cX2_takeOut 20 = .ok (.iload_n 2, 1) := by decide +kernel
theorem dX2_takeOut_21 : decode cX2_takeOut 21 = .ok (.iconst 1, 1) := by decide +kernel
theorem dX2_takeOut_22 : decode cX2_takeOut 22 = .ok (.iadd, 1) := by decide +kernel
theorem dX2_takeOut_23 : decode cX2_takeOut 23 = .ok (.aload_n 0, 1) := by decide +kernel
theorem dX2_takeOut_24 : decode cX2_takeOut 24 = .ok (.getfield 9, 3) := by decide +kernel
theorem dX2_takeOut_27 : decode cX2_takeOut 27 = .ok (.iload_n 2, 1) := by decide +kernel
theorem dX2_takeOut_28 : decode cX2_takeOut 28 = .ok (.aload_n 0, 1) := by decide +kernel
theorem dX2_takeOut_29 : decode cX2_takeOut 29 = .ok (.getfield 18, 3) := by decide +kernel
theorem dX2_takeOut_32 : decode cX2_takeOut 32 = .ok (.iload_n 2, 1) := by decide +kernel
theorem dX2_takeOut_33 : decode cX2_takeOut 33 = .ok (.isub, 1) := by decide +kernel
theorem dX2_takeOut_34 : decode cX2_takeOut 34 = .ok (.iconst 1, 1) := by decide +kernel
theorem dX2_takeOut_35 : decode cX2_takeOut 35 = .ok (.isub, 1) := by decide +kernel
theorem dX2_takeOut_36 : decode cX2_takeOut 36 = .ok (.invokestatic 37, 3) := by decide +kernel
theorem dX2_takeOut_39 : decode cX2_takeOut 39 = .ok (.aload_n 0, 1) := by decide +kernel
theorem dX2_takeOut_40 : decode cX2_takeOut 40 = .ok (.getfield 15, 3) := by decide +kernel
theorem dX2_takeOut_43 : decode cX2_takeOut 43 = .ok (.iload_n 2, 1) := by decide +kernel
theorem dX2_takeOut_44 : decode cX2_takeOut 44 = .ok (.iconst 1, 1) := by decide +kernel
theorem dX2_takeOut_45 : decode cX2_takeOut 45 = .ok (.iadd, 1) := by decide +kernel
theorem dX2_takeOut_46 : decode cX2_takeOut 46 = .ok (.aload_n 0, 1) := by decide +kernel
theorem dX2_takeOut_47 : decode cX2_takeOut 47 = .ok (.getfield 15, 3) := by decide +kernel
theorem dX2_takeOut_50 : decode cX2_takeOut 50 = .ok (.iload_n 2, 1) := by decide +kernel
theorem dX2_takeOut_51 : decode cX2_takeOut 51 = .ok (.aload_n 0, 1) := by decide +kernel
theorem dX2_takeOut_52 : decode cX2_takeOut 52 = .ok (.getfield 18, 3) := by decide +kernel
theorem dX2_takeOut_55 : decode cX2_takeOut 55 = .ok (.iload_n 2, 1) := by decide +kernel
theorem dX2_takeOut_56 : decode cX2_takeOut 56 = .ok (.isub, 1) := by decide +kernel
theorem dX2_takeOut_57 : decode cX2_takeOut 57 = .ok (.iconst 1, 1) := by decide +kernel
theorem dX2_takeOut_58 : decode cX2_takeOut 58 = .ok (.isub, 1) := by decide +kernel
theorem dX2_takeOut_59 : decode cX2_takeOut 59 = .ok (.invokestatic 37, 3) := by decide +kernel
theorem dX2_takeOut_62 : decode cX2_takeOut 62 = .ok (.aload_n 0, 1) := by decide +kernel
theorem dX2_takeOut_63 : decode cX2_takeOut 63 = .ok (.dup, 1) := by decide +kernel
theorem dX2_takeOut_64 : decode cX2_takeOut 64 = .ok (.getfield 18, 3) := by decide +kernel
theorem dX2_takeOut_67 : decode cX2_takeOut 67 = .ok (.iconst 1, 1) := by decide +kernel
theorem dX2_takeOut_68 : decode cX2_takeOut 68 = .ok (.isub, 1) := by decide +kernel
theorem dX2_takeOut_69 : decode cX2_takeOut 69 = .ok (.putfield 18, 3) := by decide +kernel
theorem dX2_takeOut_72 : decode cX2_takeOut 72 = .ok (.aload_n 0, 1) := by decide +kernel
theorem dX2_takeOut_73 : decode cX2_takeOut 73 = .ok (.dup, 1) := by decide +kernel
theorem dX2_takeOut_74 : decode cX2_takeOut 74 = .ok (.getfield 22, 3) := by decide +kernel
theorem dX2_takeOut_77 : decode cX2_takeOut 77 = .ok (.iconst 1, 1) := by decide +kernel
theorem dX2_takeOut_78 : decode cX2_takeOut 78 = .ok (.iadd, 1) := by decide +kernel
theorem dX2_takeOut_79 : decode cX2_takeOut 79 = .ok (.putfield 22, 3) := by decide +kernel
theorem dX2_takeOut_82 : decode cX2_takeOut 82 = .ok (.return_, 1) := by decide +kernel
theorem dX2_clear_0 : decode cX2_clear 0 = .ok (.aload_n 0, 1) := by decide +kernel
theorem dX2_clear_1 : decode cX2_clear 1 = .ok (.iconst 0, 1) := by decide +kernel
theorem dX2_clear_2 : decode cX2_clear 2 = .ok (.putfield 18, 3) := by decide +kernel
theorem dX2_clear_5 : decode cX2_clear 5 = .ok (.aload_n 0, 1) := by decide +kernel
theorem dX2_clear_6 : decode cX2_clear 6 = .ok (.dup, 1) := by decide +kernel
theorem dX2_clear_7 : decode cX2_clear 7 = .ok (.getfield 22, 3) := by decide +kernel
theorem dX2_clear_10 : decode cX2_clear 10 = .ok (.iconst 1, 1) := by decide +kernel
theorem dX2_clear_11 : decode cX2_clear 11 = .ok (.iadd, 1) := by decide +kernel
theorem dX2_clear_12 : decode cX2_clear 12 = .ok (.putfield 22, 3) := by decide +kernel
theorem dX2_clear_15 : decode cX2_clear 15 = .ok (.return_, 1) := by decide +kernel
theorem dX2_copyFrom_0 : decode cX2_copyFrom 0 = .ok (.aload_n 1, 1) := by decide +kernel
theorem dX2_copyFrom_1 : decode cX2_copyFrom 1 = .ok (.getfield 9, 3) := by decide +kernel
theorem dX2_copyFrom_4 : decode cX2_copyFrom 4 = .ok (.iconst 0, 1) := by decide +kernel
theorem dX2_copyFrom_5 : decode cX2_copyFrom 5 = .ok (.aload_n 0, 1) := by decide +kernel
theorem dX2_copyFrom_6 : decode cX2_copyFrom 6 = .ok (.getfield 9, 3) := by decide +kernel
theorem dX2_copyFrom_9 : decode cX2_copyFrom 9 = .ok (.iconst 0, 1) := by decide +kernel
theorem dX2_copyFrom_10 : decode cX2_copyFrom 10 = .ok (.aload_n 1, 1) := by decide +kernel
theorem dX2_copyFrom_11 : decode cX2_copyFrom 11 = .ok (.getfield 18, 3) := by decide +kernel
theorem dX2_copyFrom_14 : decode cX2_copyFrom 14 = .ok (.invokestatic 37, 3) := by decide +kernel
theorem dX2_copyFrom_17 : decode cX2_copyFrom 17 = .ok (.aload_n 1, 1) := by decide +kernel
theorem dX2_copyFrom_18 : decode cX2_copyFrom 18 = .ok (.getfield 15, 3) := by decide +kernel
theorem dX2_copyFrom_21 : decode cX2_copyFrom 21 = .ok (.iconst 0, 1) := by decide +kernel
theorem dX2_copyFrom_22 : decode cX2_copyFrom 22 = .ok (.aload_n 0, 1) := by decide +kernel
theorem dX2_copyFrom_23 : decode cX2_copyFrom 23 = .ok (.getfield 15, 3) := by decide +kernel
theorem dX2_copyFrom_26 : decode cX2_copyFrom 26 = .ok (.iconst 0, 1) := by decide +kernel
theorem dX2_copyFrom_27 : decode cX2_copyFrom 27 = .ok (.aload_n 1, 1) := by decide +kernel
theorem dX2_copyFrom_28 : decode cX2_copyFrom 28 = .ok (.getfield 18, 3) := by decide +kernel
theorem dX2_copyFrom_31 : decode cX2_copyFrom 31 = .ok (.invokestatic 37, 3) := by decide +kernel
theorem dX2_copyFrom_34 : decode cX2_copyFrom 34 = .ok (.aload_n 0, 1) := by decide +kernel
theorem dX2_copyFrom_35 : decode cX2_copyFrom 35 = .ok (.aload_n 1, 1) := by decide +kernel
theorem dX2_copyFrom_36 : decode cX2_copyFrom 36 = .ok (.getfield 18, 3) := by decide +kernel
theorem dX2_copyFrom_39 : decode cX2_copyFrom 39 = .ok (.putfield 18, 3) := by decide +kernel
theorem dX2_copyFrom_42 : decode cX2_copyFrom 42 = .ok (.aload_n 0, 1) := by decide +kernel
theorem dX2_copyFrom_43 : decode cX2_copyFrom 43 = .ok (.dup, 1) := by decide +kernel
theorem dX2_copyFrom_44 : decode cX2_copyFrom 44 = .ok (.getfield 22, 3) := by decide +kernel
theorem dX2_copyFrom_47 : decode cX2_copyFrom 47 = .ok (.iconst 1, 1) := by decide +kernel
theorem dX2_copyFrom_48 : decode cX2_copyFrom 48 = .ok (.iadd, 1) := by decide +kernel
theorem dX2_copyFrom_49 : decode cX2_copyFrom 49 = .ok (.putfield 22, 3) := by decide +kernel
theorem dX2_copyFrom_52 : decode cX2_copyFrom 52 = .ok (.return_, 1) := by decide +kernel
theorem dX2_placeOf_0 : decode cX2_placeOf 0 = .ok (.iconst 0, 1) := by decide +kernel
theorem dX2_placeOf_1 : decode cX2_placeOf 1 = .ok (.istore_n 2, 1) := by decide +kernel
theorem dX2_placeOf_2 : decode cX2_placeOf 2 = .ok (.sipush 512, 3) := by decide +kernel
theorem dX2_placeOf_5 : decode cX2_placeOf 5 = .ok (.istore_n 3, 1) := by decide +kernel
theorem dX2_placeOf_6 : decode cX2_placeOf 6 = .ok (.iload_n 3, 1) := by decide +kernel
theorem dX2_placeOf_7 : decode cX2_placeOf 7 = .ok (.ifCond .le 38, 3) := by decide +kernel
theorem dX2_placeOf_10 : decode cX2_placeOf 10 = .ok (.iload_n 2, 1) := by decide +kernel
theorem dX2_placeOf_11 : decode cX2_placeOf 11 = .ok (.iload_n 3, 1) := by decide +kernel
theorem dX2_placeOf_12 : decode cX2_placeOf 12 = .ok (.iadd, 1) := by decide +kernel
theorem dX2_placeOf_13 : decode cX2_placeOf 13 = .ok (.aload_n 0, 1) := by decide +kernel
theorem dX2_placeOf_14 : decode cX2_placeOf 14 = .ok (.getfield 18, 3) := by decide +kernel
theorem dX2_placeOf_17 : decode cX2_placeOf 17 = .ok (.if_icmp .gt 21, 3) := by decide +kernel
theorem dX2_placeOf_20 : decode cX2_placeOf 20 = .ok (.aload_n 0, 1) := by decide +kernel
theorem dX2_placeOf_21 : decode cX2_placeOf 21 = .ok (.getfield 9, 3) := by decide +kernel
theorem dX2_placeOf_24 : decode cX2_placeOf 24 = .ok (.iload_n 2, 1) := by decide +kernel
theorem dX2_placeOf_25 : decode cX2_placeOf 25 = .ok (.iload_n 3, 1) := by decide +kernel
theorem dX2_placeOf_26 : decode cX2_placeOf 26 = .ok (.iadd, 1) := by decide +kernel
theorem dX2_placeOf_27 : decode cX2_placeOf 27 = .ok (.iconst 1, 1) := by decide +kernel
theorem dX2_placeOf_28 : decode cX2_placeOf 28 = .ok (.isub, 1) := by decide +kernel
theorem dX2_placeOf_29 : decode cX2_placeOf 29 = .ok (.iaload, 1) := by decide +kernel
theorem dX2_placeOf_30 : decode cX2_placeOf 30 = .ok (.iload_n 1, 1) := by decide +kernel
theorem dX2_placeOf_31 : decode cX2_placeOf 31 = .ok (.if_icmp .ge 7, 3) := by decide +kernel
theorem dX2_placeOf_34 : decode cX2_placeOf 34 = .ok (.iload_n 2, 1) := by decide +kernel
theorem dX2_placeOf_35 : decode cX2_placeOf 35 = .ok (.iload_n 3, 1) := by decide +kernel
theorem dX2_placeOf_36 : decode cX2_placeOf 36 = .ok (.iadd, 1) := by decide +kernel
theorem dX2_placeOf_37 : decode cX2_placeOf 37 = .ok (.istore_n 2, 1) := by decide +kernel
theorem dX2_placeOf_38 : decode cX2_placeOf 38 = .ok (.iload_n 3, 1) := by decide +kernel
theorem dX2_placeOf_39 : decode cX2_placeOf 39 = .ok (.iconst 1, 1) := by decide +kernel
theorem dX2_placeOf_40 : decode cX2_placeOf 40 = .ok (.ishr, 1) := by decide +kernel
theorem dX2_placeOf_41 : decode cX2_placeOf 41 = .ok (.istore_n 3, 1) := by decide +kernel
theorem dX2_placeOf_42 : decode cX2_placeOf 42 = .ok (.goto (-36), 3) := by decide +kernel
theorem dX2_placeOf_45 : decode cX2_placeOf 45 = .ok (.iload_n 2, 1) := by decide +kernel
theorem dX2_placeOf_46 : decode cX2_placeOf 46 = .ok (.ireturn, 1) := by decide +kernel
theorem dX3_init_0 : decode cX3_init 0 = .ok (.aload_n 0, 1) := by decide +kernel
theorem dX3_init_1 : decode cX3_init 1 = .ok (.invokespecial 3, 3) := by decide +kernel
theorem dX3_init_4 : decode cX3_init 4 = .ok (.aload_n 0, 1) := by decide +kernel
theorem dX3_init_5 : decode cX3_init 5 = .ok (.sipush 150, 3) := by decide +kernel
theorem dX3_init_8 : decode cX3_init 8 = .ok (.newarray .int, 2) := by decide +kernel
theorem dX3_init_10 : decode cX3_init 10 = .ok (.putfield 9, 3) := by decide +kernel
theorem dX3_init_13 : decode cX3_init 13 = .ok (.aload_n 0, 1) := by decide +kernel
theorem dX3_init_14 : decode cX3_init 14 = .ok (.sipush 150, 3) := by decide +kernel
theorem dX3_init_17 : decode cX3_init 17 = .ok (.newarray .int, 2) := by decide +kernel
theorem dX3_init_19 : decode cX3_init 19 = .ok (.putfield 15, 3) := by decide +kernel
theorem dX3_init_22 : decode cX3_init 22 = .ok (.aload_n 0, 1) := by decide +kernel
theorem dX3_init_23 : decode cX3_init 23 = .ok (.sipush 150, 3) := by decide +kernel
theorem dX3_init_26 : decode cX3_init 26 = .ok (.newarray .long, 2) := by decide +kernel
theorem dX3_init_28 : decode cX3_init 28 = .ok (.putfield 18, 3) := by decide +kernel
theorem dX3_init_31 : decode cX3_init 31 = .ok (.aload_n 0, 1) := by decide +kernel
theorem dX3_init_32 : decode cX3_init 32 = .ok (.iconst 0, 1) := by decide +kernel
theorem dX3_init_33 : decode cX3_init 33 = .ok (.putfield 22, 3) := by decide +kernel
theorem dX3_init_36 : decode cX3_init 36 = .ok (.return_, 1) := by decide +kernel
theorem dX3_clear_0 : decode cX3_clear 0 = .ok (.aload_n 0, 1) := by decide +kernel
theorem dX3_clear_1 : decode cX3_clear 1 = .ok (.iconst 0, 1) := by decide +kernel
theorem dX3_clear_2 : decode cX3_clear 2 = .ok (.putfield 22, 3) := by decide +kernel
theorem dX3_clear_5 : decode cX3_clear 5 = .ok (.return_, 1) := by decide +kernel
theorem dX3_add_0 : decode cX3_add 0 = .ok (.aload_n 0, 1) := by decide +kernel
theorem dX3_add_1 : decode cX3_add 1 = .ok (.getfield 22, 3) := by decide +kernel
theorem dX3_add_4 : decode cX3_add 4 = .ok (.sipush 150, 3) := by decide +kernel
theorem dX3_add_7 : decode cX3_add 7 = .ok (.if_icmp .ge 33, 3) := by decide +kernel
theorem dX3_add_10 : decode cX3_add 10 = .ok (.aload_n 0, 1) := by decide +kernel
theorem dX3_add_11 : decode cX3_add 11 = .ok (.getfield 9, 3) := by decide +kernel
theorem dX3_add_14 : decode cX3_add 14 = .ok (.aload_n 0, 1) := by decide +kernel
theorem dX3_add_15 : decode cX3_add 15 = .ok (.getfield 22, 3) := by decide +kernel
theorem dX3_add_18 : decode cX3_add 18 = .ok (.iload_n 1, 1) := by decide +kernel
theorem dX3_add_19 : decode cX3_add 19 = .ok (.iastore, 1) := by decide +kernel
theorem dX3_add_20 : decode cX3_add 20 = .ok (.aload_n 0, 1) := by decide +kernel
theorem dX3_add_21 : decode cX3_add 21 = .ok (.getfield 15, 3) := by decide +kernel
theorem dX3_add_24 : decode cX3_add 24 = .ok (.aload_n 0, 1) := by decide +kernel
theorem dX3_add_25 : decode cX3_add 25 = .ok (.getfield 22, 3) := by decide +kernel
theorem dX3_add_28 : decode cX3_add 28 = .ok (.iload_n 2, 1) := by decide +kernel
theorem dX3_add_29 : decode cX3_add 29 = .ok (.iastore, 1) := by decide +kernel
theorem dX3_add_30 : decode cX3_add 30 = .ok (.aload_n 0, 1) := by decide +kernel
theorem dX3_add_31 : decode cX3_add 31 = .ok (.dup, 1) := by decide +kernel
theorem dX3_add_32 : decode cX3_add 32 = .ok (.getfield 22, 3) := by decide +kernel
theorem dX3_add_35 : decode cX3_add 35 = .ok (.iconst 1, 1) := by decide +kernel
theorem dX3_add_36 : decode cX3_add 36 = .ok (.iadd, 1) := by decide +kernel
theorem dX3_add_37 : decode cX3_add 37 = .ok (.putfield 22, 3) := by decide +kernel
theorem dX3_add_40 : decode cX3_add 40 = .ok (.return_, 1) := by decide +kernel
theorem dX3_addByDistance_0 : decode cX3_addByDistance 0 = .ok (.aload_n 0, 1) := by decide +kernel
theorem dX3_addByDistance_1 : decode cX3_addByDistance 1 = .ok (.getfield 22, 3) := by decide +kernel
theorem dX3_addByDistance_4 : decode cX3_addByDistance 4 = .ok (.istore 6, 2) := by decide +kernel
theorem dX3_addByDistance_6 : decode cX3_addByDistance 6 = .ok (.aload_n 0, 1) := by decide +kernel
theorem dX3_addByDistance_7 : decode cX3_addByDistance 7 = .ok (.getfield 22, 3) := by decide +kernel
theorem dX3_addByDistance_10 : decode cX3_addByDistance 10 = .ok (.iconst 1, 1) := by decide +kernel
theorem dX3_addByDistance_11 : decode cX3_addByDistance 11 = .ok (.isub, 1) := by decide +kernel
theorem dX3_addByDistance_12 : decode cX3_addByDistance 12 = .ok (.istore 7, 2) := by decide +kernel
theorem dX3_addByDistance_14 : decode cX3_addByDistance 14 = .ok (.iload 7, 2) := by decide +kernel
theorem dX3_addByDistance_16 : decode cX3_addByDistance 16 = .ok (.ifCond .lt 25, 3) := by decide +kernel
theorem dX3_addByDistance_19 : decode cX3_addByDistance 19 = .ok (.aload_n 0, 1) := by decide +kernel
theorem dX3_addByDistance_20 : decode cX3_addByDistance 20 = .ok (.getfield 18, 3) := by decide +kernel
theorem dX3_addByDistance_23 : decode cX3_addByDistance 23 = .ok (.iload 7, 2) := by decide +kernel
theorem dX3_addByDistance_25 : decode cX3_addByDistance 25 = .ok (.laload, 1) := by decide +kernel
theorem dX3_addByDistance_26 : decode cX3_addByDistance 26 = .ok (.lload_n 3, 1) := by decide +kernel
theorem dX3_addByDistance_27 : decode cX3_addByDistance 27 = .ok (.lcmp, 1) := by decide +kernel
theorem dX3_addByDistance_28 : decode cX3_addByDistance 28 = .ok (.ifCond .le 13, 3) := by decide +kernel
theorem dX3_addByDistance_31 : decode cX3_addByDistance 31 = .ok (.iload 7, 2) := by decide +kernel
theorem dX3_addByDistance_33 : decode cX3_addByDistance 33 = .ok (.istore 6, 2) := by decide +kernel
theorem dX3_addByDistance_35 : decode cX3_addByDistance 35 = .ok (.iinc 7 (-1), 3) := by decide +kernel
theorem dX3_addByDistance_38 : decode cX3_addByDistance 38 = .ok (.goto (-24), 3) := by decide +kernel
theorem dX3_addByDistance_41 : decode cX3_addByDistance 41 = .ok (.iload 6, 2) := by decide +kernel
theorem dX3_addByDistance_43 : decode cX3_addByDistance 43 = .ok (.iload 5, 2) := by decide +kernel
theorem dX3_addByDistance_45 : decode cX3_addByDistance 45 = .ok (.if_icmp .ge 11, 3) := by decide +kernel
theorem dX3_addByDistance_48 : decode cX3_addByDistance 48 = .ok (.iload 6, 2) := by decide +kernel
theorem dX3_addByDistance_50 : decode cX3_addByDistance 50 = .ok (.sipush 150, 3) := by decide +kernel
theorem dX3_addByDistance_53 : decode cX3_addByDistance 53 = .ok (.if_icmp .lt 4, 3) := by decide +kernel
theorem dX3_addByDistance_56 : decode cX3_addByDistance 56 = .ok (.return_, 1) := by decide +kernel
theorem dX3_addByDistance_57 : decode cX3_addByDistance 57 = .ok (.aload_n 0, 1) := by decide +kernel
theorem dX3_addByDistance_58 : decode cX3_addByDistance 58 = .ok (.getfield 22, 3) := by decide +kernel
theorem dX3_addByDistance_61 : decode cX3_addByDistance 61 = .ok (.iload 5, 2) := by decide +kernel
theorem dX3_addByDistance_63 : decode cX3_addByDistance 63 = .ok (.sipush 150, 3) := by decide +kernel
theorem dX3_addByDistance_66 : decode cX3_addByDistance 66 = .ok (.invokestatic 26, 3) := by decide +kernel
theorem dX3_addByDistance_69 : decode cX3_addByDistance 69 = .ok (.iconst 1, 1) := by decide +kernel
theorem dX3_addByDistance_70 : decode cX3_addByDistance 70 = .ok (.isub, 1) := by decide +kernel
theorem dX3_addByDistance_71 : decode cX3_addByDistance 71 = .ok (.invokestatic 26, 3) := by decide +kernel
theorem dX3_addByDistance_74 : decode cX3_addByDistance 74 = .ok (.istore 7, 2) := by decide +kernel
theorem dX3_addByDistance_76 : decode cX3_addByDistance 76 = .ok (.aload_n 0, 1) := by decide +kernel
theorem dX3_addByDistance_77 : decode cX3_addByDistance 77 = .ok (.getfield 9, 3) := by decide +kernel
theorem dX3_addByDistance_80 : decode cX3_addByDistance 80 = .ok (.iload 6, 2) := by decide +kernel
theorem dX3_addByDistance_82 : decode cX3_addByDistance 82 = .ok (.aload_n 0, 1) := by decide +kernel
theorem dX3_addByDistance_83 : decode cX3_addByDistance 83 = .ok (.getfield 9, 3) := by decide +kernel
theorem dX3_addByDistance_86 : decode cX3_addByDistance 86 = .ok (.iload 6, 2) := by decide +kernel
theorem dX3_addByDistance_88 : decode cX3_addByDistance 88 = .ok (.iconst 1, 1) := by decide +kernel
theorem dX3_addByDistance_89 : decode cX3_addByDistance 89 = .ok (.iadd, 1) := by decide +kernel
theorem dX3_addByDistance_90 : decode cX3_addByDistance 90 = .ok (.iload 7, 2) := by decide +kernel
theorem dX3_addByDistance_92 : decode cX3_addByDistance 92 = .ok (.iload 6, 2) := by decide +kernel
theorem dX3_addByDistance_94 : decode cX3_addByDistance 94 = .ok (.isub, 1) := by decide +kernel
theorem dX3_addByDistance_95 : decode cX3_addByDistance 95 = .ok (.invokestatic 32, 3) := by decide +kernel
theorem dX3_addByDistance_98 : decode cX3_addByDistance 98 = .ok (.aload_n 0, 1) := by decide +kernel
theorem dX3_addByDistance_99 : decode cX3_addByDistance 99 = .ok (.getfield 15, 3) := by decide +kernel
theorem dX3_addByDistance_102 : decode cX3_addByDistance 102 = .ok (.iload 6, 2) := by decide +kernel
theorem dX3_addByDistance_104 : decode cX3_addByDistance 104 = .ok (.aload_n 0, 1) := by decide +kernel
theorem dX3_addByDistance_105 : decode cX3_addByDistance 105 = .ok (.getfield 15, 3) := by decide +kernel
theorem dX3_addByDistance_108 : decode cX3_addByDistance 108 = .ok (.iload 6, 2) := by decide +kernel
theorem dX3_addByDistance_110 : decode cX3_addByDistance 110 = .ok (.iconst 1, 1) := by decide +kernel
theorem dX3_addByDistance_111 : decode cX3_addByDistance 111 = .ok (.iadd, 1) := by decide +kernel
theorem dX3_addByDistance_112 : decode cX3_addByDistance 112 = .ok (.iload 7, 2) := by decide +kernel
theorem dX3_addByDistance_114 : decode cX3_addByDistance 114 = .ok (.iload 6, 2) := by decide +kernel
theorem dX3_addByDistance_116 : decode cX3_addByDistance 116 = .ok (.isub, 1) := by decide +kernel
theorem dX3_addByDistance_117 : decode cX3_addByDistance 117 = .ok (.invokestatic 32, 3) := by decide +kernel
theorem dX3_addByDistance_120 : decode cX3_addByDistance 120 = .ok (.aload_n 0, 1) := by decide +kernel
theorem dX3_addByDistance_121 : decode cX3_addByDistance 121 = .ok (.getfield 18, 3) := by decide +kernel
theorem dX3_addByDistance_124 : decode cX3_addByDistance 124 = .ok (.iload 6, 2) := by decide +kernel
theorem dX3_addByDistance_126 : decode cX3_addByDistance 126 = .ok (.aload_n 0, 1) := by decide +kernel
theorem dX3_addByDistance_127 : decode cX3_addByDistance 127 = .ok (.getfield 18, 3) := by decide +kernel
theorem dX3_addByDistance_130 : decode cX3_addByDistance 130 = .ok (.iload 6, 2) := by decide +kernel
theorem dX3_addByDistance_132 : decode cX3_addByDistance 132 = .ok (.iconst 1, 1) := by decide +kernel
theorem dX3_addByDistance_133 : decode cX3_addByDistance 133 = .ok (.iadd, 1) := by decide +kernel
theorem dX3_addByDistance_134 : decode cX3_addByDistance 134 = .ok (.iload 7, 2) := by decide +kernel
theorem dX3_addByDistance_136 : decode cX3_addByDistance 136 = .ok (.iload 6, 2) := by decide +kernel
theorem dX3_addByDistance_138 : decode cX3_addByDistance 138 = .ok (.isub, 1) := by decide +kernel
theorem dX3_addByDistance_139 : decode cX3_addByDistance 139 = .ok (.invokestatic 32, 3) := by decide +kernel
theorem dX3_addByDistance_142 : decode cX3_addByDistance 142 = .ok (.aload_n 0, 1) := by decide +kernel
theorem dX3_addByDistance_143 : decode cX3_addByDistance 143 = .ok (.getfield 9, 3) := by decide +kernel
theorem dX3_addByDistance_146 : decode cX3_addByDistance 146 = .ok (.iload 6, 2) := by decide +kernel
theorem dX3_addByDistance_148 : decode cX3_addByDistance 148 = .ok (.iload_n 1, 1) := by decide +kernel
theorem dX3_addByDistance_149 : decode cX3_addByDistance 149 = .ok (.iastore, 1) := by decide +kernel
theorem dX3_addByDistance_150 : decode cX3_addByDistance 150 = .ok (.aload_n 0, 1) := by decide +kernel
theorem dX3_addByDistance_151 : decode cX3_addByDistance 151 = .ok (.getfield 15, 3) := by decide +kernel
theorem dX3_addByDistance_154 : decode cX3_addByDistance 154 = .ok (.iload 6, 2) := by decide +kernel
theorem dX3_addByDistance_156 : decode cX3_addByDistance 156 = .ok (.iload_n 2, 1) := by decide +kernel
theorem dX3_addByDistance_157 : decode cX3_addByDistance 157 = .ok (.iastore, 1) := by decide +kernel
theorem dX3_addByDistance_158 : decode cX3_addByDistance 158 = .ok (.aload_n 0, 1) := by decide +kernel
theorem dX3_addByDistance_159 : decode cX3_addByDistance 159 = .ok (.getfield 18, 3) := by decide +kernel
theorem dX3_addByDistance_162 : decode cX3_addByDistance 162 = .ok (.iload 6, 2) := by decide +kernel
theorem dX3_addByDistance_164 : decode cX3_addByDistance 164 = .ok (.lload_n 3, 1) := by decide +kernel
theorem dX3_addByDistance_165 : decode cX3_addByDistance 165 = .ok (.lastore, 1) := by decide +kernel
theorem dX3_addByDistance_166 : decode cX3_addByDistance 166 = .ok (.aload_n 0, 1) := by decide +kernel
theorem dX3_addByDistance_167 : decode cX3_addByDistance 167 = .ok (.iload 7, 2) := by decide +kernel
theorem dX3_addByDistance_169 : decode cX3_addByDistance 169 = .ok (.iconst 1, 1) := by decide +kernel
theorem dX3_addByDistance_170 : decode cX3_addByDistance 170 = .ok (.iadd, 1) := by decide +kernel
theorem dX3_addByDistance_171 : decode cX3_addByDistance 171 = .ok (.putfield 22, 3) := by decide +kernel
theorem dX3_addByDistance_174 : decode cX3_addByDistance 174 = .ok (.return_, 1) := by decide +kernel
theorem dX4_init_0 : decode cX4_init 0 = .ok (.aload_n 0, 1) := by decide +kernel
theorem dX4_init_1 : decode cX4_init 1 = .ok (.invokespecial 3, 3) := by decide +kernel
theorem dX4_init_4 : decode cX4_init 4 = .ok (.aload_n 0, 1) := by decide +kernel
theorem dX4_init_5 : decode cX4_init 5 = .ok (.sipush 512, 3) := by decide +kernel
theorem dX4_init_8 : decode cX4_init 8 = .ok (.newarray .int, 2) := by decide +kernel
theorem dX4_init_10 : decode cX4_init 10 = .ok (.putfield 9, 3) := by decide +kernel
theorem dX4_init_13 : decode cX4_init 13 = .ok (.aload_n 0, 1) := by decide +kernel
theorem dX4_init_14 : decode cX4_init 14 = .ok (.iconst 0, 1) := by decide +kernel
theorem dX4_init_15 : decode cX4_init 15 = .ok (.putfield 15, 3) := by decide +kernel
theorem dX4_init_18 : decode cX4_init 18 = .ok (.aload_n 0, 1) := by decide +kernel
theorem dX4_init_19 : decode cX4_init 19 = .ok (.iconst 0, 1) := by decide +kernel
theorem dX4_init_20 : decode cX4_init 20 = .ok (.putfield 19, 3) := by decide +kernel
theorem dX4_init_23 : decode cX4_init 23 = .ok (.aload_n 0, 1) := by decide +kernel
theorem dX4_init_24 : decode cX4_init 24 = .ok (.iconst (-1), 1) := by decide +kernel
theorem dX4_init_25 : decode cX4_init 25 = .ok (.putfield 22, 3) := by decide +kernel
theorem dX4_init_28 : decode cX4_init 28 = .ok (.aload_n 0, 1) := by decide +kernel
theorem dX4_init_29 : decode cX4_init 29 = .ok (.aload_n 1, 1) := by decide +kernel
theorem dX4_init_30 : decode cX4_init 30 = .ok (.putfield 25, 3) := by decide +kernel
theorem dX4_init_33 : decode cX4_init 33 = .ok (.aload_n 0, 1) := by decide +kernel
theorem dX4_init_34 : decode cX4_init 34 = .ok (.iload_n 3, 1) := by decide +kernel
theorem dX4_init_35 : decode cX4_init 35 = .ok (.putfield 29, 3) := by decide +kernel
theorem dX4_init_38 : decode cX4_init 38 = .ok (.aload_n 0, 1) := by decide +kernel
theorem dX4_init_39 : decode cX4_init 39 = .ok (.iload 4, 2) := by decide +kernel
theorem dX4_init_41 : decode cX4_init 41 = .ok (.putfield 32, 3) := by decide +kernel
theorem dX4_init_44 : decode cX4_init 44 = .ok (.aload_n 0, 1) := by decide +kernel
theorem dX4_init_45 : decode cX4_init 45 = .ok (.iload_n 2, 1) := by decide +kernel
theorem dX4_init_46 : decode cX4_init 46 = .ok (.iconst 1, 1) := by decide +kernel
theorem dX4_init_47 : decode cX4_init 47 = .ok (.iadd, 1) := by decide +kernel
theorem dX4_init_48 : decode cX4_init 48 = .ok (.putfield 35, 3) := by decide +kernel
theorem dX4_init_51 : decode cX4_init 51 = .ok (.aload_n 0, 1) := by decide +kernel
theorem dX4_init_52 : decode cX4_init 52 = .ok (.bipush 6, 2) := by decide +kernel
theorem dX4_init_54 : decode cX4_init 54 = .ok (.iload_n 2, 1) := by decide +kernel
theorem dX4_init_55 : decode cX4_init 55 = .ok (.iconst 1, 1) := by decide +kernel
theorem dX4_init_56 : decode cX4_init 56 = .ok (.iadd, 1) := by decide +kernel
theorem dX4_init_57 : decode cX4_init 57 = .ok (.imul, 1) := by decide +kernel
theorem dX4_init_58 : decode cX4_init 58 = .ok (.newarray .int, 2) := by decide +kernel
theorem dX4_init_60 : decode cX4_init 60 = .ok (.putfield 38, 3) := by decide +kernel
theorem dX4_init_63 : decode cX4_init 63 = .ok (.return_, 1) := by decide +kernel
set_option maxRecDepth 20000 in
theorem ggX4_upToDate_X4_grow : GoodIn wsX4_upToDate wsX4_grow := goodIn_r _ [11, 12, 6, 13, 7, 14, 15, 16, 17, 18, 19, 20, 21, 22, 10, 23, 2, 24, 5, 25, 26, 27, 28, 29, 30, 31, 32, 33, 34, 35, 36, 37, 38, 39, 8, 9, 40, 41, 42, 43, 44, 45, 46, 47, 48, 49, 50, 51, 52] (by decide +kernel) (by decide +kernel)
set_option maxRecDepth 20000 in
theorem gX4_upToDate_X4_grow : GoodIn wsX4_upToDate (va_wsS RX4 49 yX4_grow wsX4_grow) := goodIn_app (goodIn_of _ (by decide +kernel)) ggX4_upToDate_X4_grow
theorem dX4_upToDate_0 : decode cX4_upToDate 0 = .ok (.aload_n 0, 1) := by decide +kernel
theorem dX4_upToDate_1 : decode cX4_upToDate 1 = .ok (.getfield 22, 3) := by decide +kernel
theorem dX4_upToDate_4 : decode cX4_upToDate 4 = .ok (.aload_n 0, 1) := by decide +kernel
theorem dX4_upToDate_5 : decode cX4_upToDate 5 = .ok (.getfield 25, 3) := by decide +kernel
theorem dX4_upToDate_8 : decode cX4_upToDate 8 = .ok (.getfield 41, 3) := by decide +kernel
theorem dX4_upToDate_11 : decode cX4_upToDate 11 = .ok (.if_icmp .eq 65, 3) := by decide +kernel
theorem dX4_upToDate_14 : decode cX4_upToDate 14 = .ok (.iconst 0, 1) := by decide +kernel
theorem dX4_upToDate_15 : decode cX4_upToDate 15 = .ok (.istore_n 1, 1) := by decide +kernel
theorem dX4_upToDate_16 : decode cX4_upToDate 16 = .ok (.iload_n 1, 1) := by decide +kernel
theorem dX4_upToDate_17 : decode cX4_upToDate 17 = .ok (.aload_n 0, 1) := by decide +kernel
theorem dX4_upToDate_18 : decode cX4_upToDate 18 = .ok (.getfield 25, 3) := by decide +kernel
theorem dX4_upToDate_21 : decode cX4_upToDate 21 = .ok (.getfield 46, 3) := by decide +kernel
theorem dX4_upToDate_24 : decode cX4_upToDate 24 = .ok (.if_icmp .ge 16, 3) := by decide +kernel
theorem dX4_upToDate_27 : decode cX4_upToDate 27 = .ok (.aload_n 0, 1) := by decide +kernel
theorem dX4_upToDate_28 : decode cX4_upToDate 28 = .ok (.getfield 9, 3) := by decide +kernel
theorem dX4_upToDate_31 : decode cX4_upToDate 31 = .ok (.iload_n 1, 1) := by decide +kernel
theorem dX4_upToDate_32 : decode cX4_upToDate 32 = .ok (.iload_n 1, 1) := by decide +kernel
theorem dX4_upToDate_33 : decode cX4_upToDate 33 = .ok (.iastore, 1) := by decide +kernel
theorem dX4_upToDate_34 : decode cX4_upToDate 34 = .ok (.iinc 1 1, 3) := by decide +kernel
theorem dX4_upToDate_37 : decode cX4_upToDate 37 = .ok (.goto (-21), 3) := by decide +kernel
theorem dX4_upToDate_40 : decode cX4_upToDate 40 = .ok (.aload_n 0, 1) := by decide +kernel
theorem dX4_upToDate_41 : decode cX4_upToDate 41 = .ok (.iconst 0, 1) := by decide +kernel
theorem dX4_upToDate_42 : decode cX4_upToDate 42 = .ok (.putfield 15, 3) := by decide +kernel
theorem dX4_upToDate_45 : decode cX4_upToDate 45 = .ok (.aload_n 0, 1) := by decide +kernel
theorem dX4_upToDate_46 : decode cX4_upToDate 46 = .ok (.iconst 0, 1) := by decide +kernel
theorem dX4_upToDate_47 : decode cX4_upToDate 47 = .ok (.putfield 19, 3) := by decide +kernel
theorem dX4_upToDate_50 : decode cX4_upToDate 50 = .ok (.aload_n 0, 1) := by decide +kernel
theorem dX4_upToDate_51 : decode cX4_upToDate 51 = .ok (.iconst 0, 1) := by decide +kernel
theorem dX4_upToDate_52 : decode cX4_upToDate 52 = .ok (.aload_n 0, 1) := by decide +kernel
theorem dX4_upToDate_53 : decode cX4_upToDate 53 = .ok (.getfield 25, 3) := by decide +kernel
theorem dX4_upToDate_56 : decode cX4_upToDate 56 = .ok (.getfield 46, 3) := by decide +kernel
theorem dX4_upToDate_59 : decode cX4_upToDate 59 = .ok (.iconst 0, 1) := by decide +kernel
theorem dX4_upToDate_60 : decode cX4_upToDate 60 = .ok (.iconst 0, 1) := by decide +kernel
theorem dX4_upToDate_61 : decode cX4_upToDate 61 = .ok (.iconst 0, 1) := by decide +kernel
theorem dX4_upToDate_62 : decode cX4_upToDate 62 = .ok (.invokestatic 49, 3) := by decide +kernel
theorem dX4_upToDate_65 : decode cX4_upToDate 65 = .ok (.aload_n 0, 1) := by decide +kernel
theorem dX4_upToDate_66 : decode cX4_upToDate 66 = .ok (.aload_n 0, 1) := by decide +kernel
theorem dX4_upToDate_67 : decode cX4_upToDate 67 = .ok (.getfield 25, 3) := by decide +kernel
theorem dX4_upToDate_70 : decode cX4_upToDate 70 = .ok (.getfield 41, 3) := by decide +kernel
theorem dX4_upToDate_73 : decode cX4_upToDate 73 = .ok (.putfield 22, 3) := by decide +kernel
theorem dX4_upToDate_76 : decode cX4_upToDate 76 = .ok (.aload_n 0, 1) := by decide +kernel
theorem dX4_upToDate_77 : decode cX4_upToDate 77 = .ok (.areturn, 1) := by decide +kernel
theorem dX4_factOf_0 : decode cX4_factOf 0 = .ok (.iload_n 1, 1) := by decide +kernel
theorem dX4_factOf_1 : decode cX4_factOf 1 = .ok (.ifCond .lt 21, 3) := by decide +kernel
theorem dX4_factOf_4 : decode cX4_factOf 4 = .ok (.iload_n 1, 1) := by decide +kernel
theorem dX4_factOf_5 : decode cX4_factOf 5 = .ok (.aload_n 0, 1) := by decide +kernel
theorem dX4_factOf_6 : decode cX4_factOf 6 = .ok (.getfield 15, 3) := by decide +kernel
theorem dX4_factOf_9 : decode cX4_factOf 9 = .ok (.if_icmp .ge 13, 3) := by decide +kernel
theorem dX4_factOf_12 : decode cX4_factOf 12 = .ok (.iload_n 2, 1) := by decide +kernel
theorem dX4_factOf_13 : decode cX4_factOf 13 = .ok (.ifCond .lt 9, 3) := by decide +kernel
theorem dX4_factOf_16 : decode cX4_factOf 16 = .ok (.iload_n 2, 1) := by decide +kernel
theorem dX4_factOf_17 : decode cX4_factOf 17 = .ok (.bipush 6, 2) := by decide +kernel
theorem dX4_factOf_19 : decode cX4_factOf 19 = .ok (.if_icmp .lt 5, 3) := by decide +kernel
theorem dX4_factOf_22 : decode cX4_factOf 22 = .ok (.iconst (-1), 1) := by decide +kernel
theorem dX4_factOf_23 : decode cX4_factOf 23 = .ok (.ireturn, 1) := by decide +kernel
theorem dX4_factOf_24 : decode cX4_factOf 24 = .ok (.aload_n 0, 1) := by decide +kernel
theorem dX4_factOf_25 : decode cX4_factOf 25 = .ok (.getfield 38, 3) := by decide +kernel
theorem dX4_factOf_28 : decode cX4_factOf 28 = .ok (.iload_n 1, 1) := by decide +kernel
theorem dX4_factOf_29 : decode cX4_factOf 29 = .ok (.bipush 6, 2) := by decide +kernel
theorem dX4_factOf_31 : decode cX4_factOf 31 = .ok (.imul, 1) := by decide +kernel
theorem dX4_factOf_32 : decode cX4_factOf 32 = .ok (.iload_n 2, 1) := by decide +kernel
theorem dX4_factOf_33 : decode cX4_factOf 33 = .ok (.iadd, 1) := by decide +kernel
theorem dX4_factOf_34 : decode cX4_factOf 34 = .ok (.iaload, 1) := by decide +kernel
theorem dX4_factOf_35 : decode cX4_factOf 35 = .ok (.ireturn, 1) := by decide +kernel
set_option maxRecDepth 20000 in
theorem ggX4_grow_X4_lowBitsOf : GoodIn wsX4_grow wsX4_lowBitsOf := goodIn_r _ [15, 16, 17, 18, 19, 36, 37, 38, 39, 40, 41, 42, 43, 44, 45, 46, 47, 48] (by decide +kernel) (by decide +kernel)
set_option maxRecDepth 20000 in
theorem gX4_grow_X4_lowBitsOf : GoodIn wsX4_grow (wsV RX4 59 RX4 yX4_lowBitsOf wsX4_lowBitsOf) := goodIn_app (goodIn_of _ (by decide +kernel)) ggX4_grow_X4_lowBitsOf
set_option maxRecDepth 20000 in
theorem ggX4_grow_X4_gather : GoodIn wsX4_grow wsX4_gather := goodIn_r _ [23, 18, 16, 24, 25, 26, 27, 28, 29, 30, 31, 32, 33, 36, 37, 38, 39, 40, 41, 42, 43, 44, 45, 46, 47, 48] (by decide +kernel) (by decide +kernel)
set_option maxRecDepth 20000 in
theorem gX4_grow_X4_gather : GoodIn wsX4_grow (wsV RX4 62 RX4 yX4_gather wsX4_gather) := goodIn_app (goodIn_of _ (by decide +kernel)) ggX4_grow_X4_gather
set_option maxRecDepth 20000 in
theorem ggX4_grow_X4_grow : GoodIn wsX4_grow wsX4_grow := goodIn_r _ [0, 1, 2, 3, 4, 5, 6, 7, 8, 9, 10, 11, 12, 13, 14, 15, 16, 17, 18, 19, 20, 21, 22, 23, 24, 25, 26, 27, 28, 29, 30, 31, 32, 33, 34, 35, 36, 37, 38, 39, 40, 41, 42, 43, 44, 45, 46, 47, 48] (by decide +kernel) (by decide +kernel)
set_option maxRecDepth 20000 in
theorem gX4_grow_X4_grow : GoodIn wsX4_grow (va_wsS RX4 49 yX4_grow wsX4_grow) := goodIn_app (goodIn_of _ (by decide +kernel)) ggX4_grow_X4_grow
theorem dX4_grow_0 : decode cX4_grow 0 = .ok (.iload 5, 2) := by decide +kernel
theorem dX4_grow_2 : decode cX4_grow 2 = .ok (.aload_n 0, 1) := by decide +kernel
theorem dX4_grow_3 : decode cX4_grow 3 = .ok (.getfield 32, 3) := by decide +kernel
theorem dX4_grow_6 : decode cX4_grow 6 = .ok (.if_icmp .gt 14, 3) := by decide +kernel
theorem dX4_grow_9 : decode cX4_grow 9 = .ok (.aload_n 0, 1) := by decide +kernel
theorem dX4_grow_10 : decode cX4_grow 10 = .ok (.getfield 15, 3) := by decide +kernel
theorem dX4_grow_13 : decode cX4_grow 13 = .ok (.aload_n 0, 1) := by decide +kernel
theorem dX4_grow_14 : decode cX4_grow 14 = .ok (.getfield 35, 3) := by decide +kernel
theorem dX4_grow_17 : decode cX4_grow 17 = .ok (.if_icmp .lt 4, 3) := by decide +kernel
theorem dX4_grow_20 : decode cX4_grow 20 = .ok (.return_, 1) := by decide +kernel
theorem dX4_grow_21 : decode cX4_grow 21 = .ok (.iconst 1, 1) := by decide +kernel
theorem dX4_grow_22 : decode cX4_grow 22 = .ok (.aload_n 0, 1) := by decide +kernel
theorem dX4_grow_23 : decode cX4_grow 23 = .ok (.getfield 32, 3) := by decide +kernel
theorem dX4_grow_26 : decode cX4_grow 26 = .ok (.iload 5, 2) := by decide +kernel
theorem dX4_grow_28 : decode cX4_grow 28 = .ok (.isub, 1) := by decide +kernel
theorem dX4_grow_29 : decode cX4_grow 29 = .ok (.ishl, 1) := by decide +kernel
theorem dX4_grow_30 : decode cX4_grow 30 = .ok (.istore 6, 2) := by decide +kernel
theorem dX4_grow_32 : decode cX4_grow 32 = .ok (.aload_n 0, 1) := by decide +kernel
theorem dX4_grow_33 : decode cX4_grow 33 = .ok (.getfield 15, 3) := by decide +kernel
theorem dX4_grow_36 : decode cX4_grow 36 = .ok (.bipush 6, 2) := by decide +kernel
theorem dX4_grow_38 : decode cX4_grow 38 = .ok (.imul, 1) := by decide +kernel
theorem dX4_grow_39 : decode cX4_grow 39 = .ok (.istore 7, 2) := by decide +kernel
theorem dX4_grow_41 : decode cX4_grow 41 = .ok (.aload_n 0, 1) := by decide +kernel
theorem dX4_grow_42 : decode cX4_grow 42 = .ok (.dup, 1) := by decide +kernel
theorem dX4_grow_43 : decode cX4_grow 43 = .ok (.getfield 15, 3) := by decide +kernel
theorem dX4_grow_46 : decode cX4_grow 46 = .ok (.iconst 1, 1) := by decide +kernel
theorem dX4_grow_47 : decode cX4_grow 47 = .ok (.iadd, 1) := by decide +kernel
theorem dX4_grow_48 : decode cX4_grow 48 = .ok (.putfield 15, 3) := by decide +kernel
theorem dX4_grow_51 : decode cX4_grow 51 = .ok (.aload_n 0, 1) := by decide +kernel
theorem dX4_grow_52 : decode cX4_grow 52 = .ok (.aload_n 0, 1) := by decide +kernel
theorem dX4_grow_53 : decode cX4_grow 53 = .ok (.getfield 19, 3) := by decide +kernel
theorem dX4_grow_56 : decode cX4_grow 56 = .ok (.iload 5, 2) := by decide +kernel
theorem dX4_grow_58 : decode cX4_grow 58 = .ok (.invokestatic 53, 3) := by decide +kernel
theorem dX4_grow_61 : decode cX4_grow 61 = .ok (.putfield 19, 3) := by decide +kernel
theorem dX4_grow_64 : decode cX4_grow 64 = .ok (.aload_n 0, 1) := by decide +kernel
theorem dX4_grow_65 : decode cX4_grow 65 = .ok (.getfield 38, 3) := by decide +kernel
theorem dX4_grow_68 : decode cX4_grow 68 = .ok (.iload 7, 2) := by decide +kernel
theorem dX4_grow_70 : decode cX4_grow 70 = .ok (.iload 6, 2) := by decide +kernel
theorem dX4_grow_72 : decode cX4_grow 72 = .ok (.iastore, 1) := by decide +kernel
theorem dX4_grow_73 : decode cX4_grow 73 = .ok (.aload_n 0, 1) := by decide +kernel
theorem dX4_grow_74 : decode cX4_grow 74 = .ok (.getfield 38, 3) := by decide +kernel
theorem dX4_grow_77 : decode cX4_grow 77 = .ok (.iload 7, 2) := by decide +kernel
theorem dX4_grow_79 : decode cX4_grow 79 = .ok (.iconst 1, 1) := by decide +kernel
theorem dX4_grow_80 : decode cX4_grow 80 = .ok (.iadd, 1) := by decide +kernel
theorem dX4_grow_81 : decode cX4_grow 81 = .ok (.iload_n 3, 1) := by decide +kernel
theorem dX4_grow_82 : decode cX4_grow 82 = .ok (.iastore, 1) := by decide +kernel
theorem dX4_grow_83 : decode cX4_grow 83 = .ok (.aload_n 0, 1) := by decide +kernel
theorem dX4_grow_84 : decode cX4_grow 84 = .ok (.getfield 38, 3) := by decide +kernel
theorem dX4_grow_87 : decode cX4_grow 87 = .ok (.iload 7, 2) := by decide +kernel
theorem dX4_grow_89 : decode cX4_grow 89 = .ok (.iconst 2, 1) := by decide +kernel
theorem dX4_grow_90 : decode cX4_grow 90 = .ok (.iadd, 1) := by decide +kernel
theorem dX4_grow_91 : decode cX4_grow 91 = .ok (.iload 4, 2) := by decide +kernel
theorem dX4_grow_93 : decode cX4_grow 93 = .ok (.iastore, 1) := by decide +kernel
theorem dX4_grow_94 : decode cX4_grow 94 = .ok (.aload_n 0, 1) := by decide +kernel
theorem dX4_grow_95 : decode cX4_grow 95 = .ok (.getfield 38, 3) := by decide +kernel
theorem dX4_grow_98 : decode cX4_grow 98 = .ok (.iload 7, 2) := by decide +kernel
theorem dX4_grow_100 : decode cX4_grow 100 = .ok (.iconst 3, 1) := by decide +kernel
theorem dX4_grow_101 : decode cX4_grow 101 = .ok (.iadd, 1) := by decide +kernel
theorem dX4_grow_102 : decode cX4_grow 102 = .ok (.iload_n 2, 1) := by decide +kernel
theorem dX4_grow_103 : decode cX4_grow 103 = .ok (.iload_n 1, 1) := by decide +kernel
theorem dX4_grow_104 : decode cX4_grow 104 = .ok (.isub, 1) := by decide +kernel
theorem dX4_grow_105 : decode cX4_grow 105 = .ok (.iastore, 1) := by decide +kernel
theorem dX4_grow_106 : decode cX4_grow 106 = .ok (.aload_n 0, 1) := by decide +kernel
theorem dX4_grow_107 : decode cX4_grow 107 = .ok (.getfield 38, 3) := by decide +kernel
theorem dX4_grow_110 : decode cX4_grow 110 = .ok (.iload 7, 2) := by decide +kernel
theorem dX4_grow_112 : decode cX4_grow 112 = .ok (.iconst 4, 1) := by decide +kernel
theorem dX4_grow_113 : decode cX4_grow 113 = .ok (.iadd, 1) := by decide +kernel
theorem dX4_grow_114 : decode cX4_grow 114 = .ok (.iconst 0, 1) := by decide +kernel
theorem dX4_grow_115 : decode cX4_grow 115 = .ok (.iastore, 1) := by decide +kernel
theorem dX4_grow_116 : decode cX4_grow 116 = .ok (.aload_n 0, 1) := by decide +kernel
theorem dX4_grow_117 : decode cX4_grow 117 = .ok (.getfield 38, 3) := by decide +kernel
theorem dX4_grow_120 : decode cX4_grow 120 = .ok (.iload 7, 2) := by decide +kernel
theorem dX4_grow_122 : decode cX4_grow 122 = .ok (.iconst 5, 1) := by decide +kernel
theorem dX4_grow_123 : decode cX4_grow 123 = .ok (.iadd, 1) := by decide +kernel
theorem dX4_grow_124 : decode cX4_grow 124 = .ok (.aload_n 0, 1) := by decide +kernel
theorem dX4_grow_125 : decode cX4_grow 125 = .ok (.iload_n 1, 1) := by decide +kernel
theorem dX4_grow_126 : decode cX4_grow 126 = .ok (.iload_n 2, 1) := by decide +kernel
theorem dX4_grow_127 : decode cX4_grow 127 = .ok (.invokevirtual 59, 3) := by decide +kernel
theorem dX4_grow_130 : decode cX4_grow 130 = .ok (.iastore, 1) := by decide +kernel
theorem dX4_grow_131 : decode cX4_grow 131 = .ok (.iload_n 2, 1) := by decide +kernel
theorem dX4_grow_132 : decode cX4_grow 132 = .ok (.iload_n 1, 1) := by decide +kernel
theorem dX4_grow_133 : decode cX4_grow 133 = .ok (.isub, 1) := by decide +kernel
theorem dX4_grow_134 : decode cX4_grow 134 = .ok (.aload_n 0, 1) := by decide +kernel
theorem dX4_grow_135 : decode cX4_grow 135 = .ok (.getfield 29, 3) := by decide +kernel
theorem dX4_grow_138 : decode cX4_grow 138 = .ok (.if_icmp .gt 4, 3) := by decide +kernel
theorem dX4_grow_141 : decode cX4_grow 141 = .ok (.return_, 1) := by decide +kernel
theorem dX4_grow_142 : decode cX4_grow 142 = .ok (.iload 6, 2) := by decide +kernel
theorem dX4_grow_144 : decode cX4_grow 144 = .ok (.iconst 1, 1) := by decide +kernel
theorem dX4_grow_145 : decode cX4_grow 145 = .ok (.ishr, 1) := by decide +kernel
theorem dX4_grow_146 : decode cX4_grow 146 = .ok (.istore 8, 2) := by decide +kernel
theorem dX4_grow_148 : decode cX4_grow 148 = .ok (.iload_n 1, 1) := by decide +kernel
theorem dX4_grow_149 : decode cX4_grow 149 = .ok (.istore 9, 2) := by decide +kernel
theorem dX4_grow_151 : decode cX4_grow 151 = .ok (.iconst 0, 1) := by decide +kernel
theorem dX4_grow_152 : decode cX4_grow 152 = .ok (.istore 10, 2) := by decide +kernel
theorem dX4_grow_154 : decode cX4_grow 154 = .ok (.iload 10, 2) := by decide +kernel
theorem dX4_grow_156 : decode cX4_grow 156 = .ok (.iconst 4, 1) := by decide +kernel
theorem dX4_grow_157 : decode cX4_grow 157 = .ok (.if_icmp .ge 90, 3) := by decide +kernel
theorem dX4_grow_160 : decode cX4_grow 160 = .ok (.iload_n 3, 1) := by decide +kernel
theorem dX4_grow_161 : decode cX4_grow 161 = .ok (.iload 10, 2) := by decide +kernel
theorem dX4_grow_163 : decode cX4_grow 163 = .ok (.iconst 1, 1) := by decide +kernel
theorem dX4_grow_164 : decode cX4_grow 164 = .ok (.iand, 1) := by decide +kernel
theorem dX4_grow_165 : decode cX4_grow 165 = .ok (.iload 8, 2) := by decide +kernel
theorem dX4_grow_167 : decode cX4_grow 167 = .ok (.imul, 1) := by decide +kernel
theorem dX4_grow_168 : decode cX4_grow 168 = .ok (.iadd, 1) := by decide +kernel
theorem dX4_grow_169 : decode cX4_grow 169 = .ok (.istore 11, 2) := by decide +kernel
theorem dX4_grow_171 : decode cX4_grow 171 = .ok (.iload 4, 2) := by decide +kernel
theorem dX4_grow_173 : decode cX4_grow 173 = .ok (.iload 10, 2) := by decide +kernel
theorem dX4_grow_175 : decode cX4_grow 175 = .ok (.iconst 1, 1) := by decide +kernel
theorem dX4_grow_176 : decode cX4_grow 176 = .ok (.ishr, 1) := by decide +kernel
theorem dX4_grow_177 : decode cX4_grow 177 = .ok (.iload 8, 2) := by decide +kernel
theorem dX4_grow_179 : decode cX4_grow 179 = .ok (.imul, 1) := by decide +kernel
theorem dX4_grow_180 : decode cX4_grow 180 = .ok (.iadd, 1) := by decide +kernel
theorem dX4_grow_181 : decode cX4_grow 181 = .ok (.istore 12, 2) := by decide +kernel
theorem dX4_grow_183 : decode cX4_grow 183 = .ok (.aload_n 0, 1) := by decide +kernel
theorem dX4_grow_184 : decode cX4_grow 184 = .ok (.iload 9, 2) := by decide +kernel
theorem dX4_grow_186 : decode cX4_grow 186 = .ok (.iload_n 2, 1) := by decide +kernel
theorem dX4_grow_187 : decode cX4_grow 187 = .ok (.iload 11, 2) := by decide +kernel
theorem dX4_grow_189 : decode cX4_grow 189 = .ok (.iload 12, 2) := by decide +kernel
theorem dX4_grow_191 : decode cX4_grow 191 = .ok (.iload 8, 2) := by decide +kernel
theorem dX4_grow_193 : decode cX4_grow 193 = .ok (.invokevirtual 62, 3) := by decide +kernel
theorem dX4_grow_196 : decode cX4_grow 196 = .ok (.istore 13, 2) := by decide +kernel
theorem dX4_grow_198 : decode cX4_grow 198 = .ok (.iload 13, 2) := by decide +kernel
theorem dX4_grow_200 : decode cX4_grow 200 = .ok (.iload 9, 2) := by decide +kernel
theorem dX4_grow_202 : decode cX4_grow 202 = .ok (.if_icmp .le 35, 3) := by decide +kernel
theorem dX4_grow_205 : decode cX4_grow 205 = .ok (.aload_n 0, 1) := by decide +kernel
theorem dX4_grow_206 : decode cX4_grow 206 = .ok (.getfield 38, 3) := by decide +kernel
theorem dX4_grow_209 : decode cX4_grow 209 = .ok (.iload 7, 2) := by decide +kernel
theorem dX4_grow_211 : decode cX4_grow 211 = .ok (.iconst 4, 1) := by decide +kernel
theorem dX4_grow_212 : decode cX4_grow 212 = .ok (.iadd, 1) := by decide +kernel
theorem dX4_grow_213 : decode cX4_grow 213 = .ok (.dup2, 1) := by decide +kernel
theorem dX4_grow_214 : decode cX4_grow 214 = .ok (.iaload, 1) := by decide +kernel
theorem dX4_grow_215 : decode cX4_grow 215 = .ok (.iconst 1, 1) := by decide +kernel
theorem dX4_grow_216 : decode cX4_grow 216 = .ok (.iload 10, 2) := by decide +kernel
theorem dX4_grow_218 : decode cX4_grow 218 = .ok (.ishl, 1) := by decide +kernel
theorem dX4_grow_219 : decode cX4_grow 219 = .ok (.ior, 1) := by decide +kernel
theorem dX4_grow_220 : decode cX4_grow 220 = .ok (.iastore, 1) := by decide +kernel
theorem dX4_grow_221 : decode cX4_grow 221 = .ok (.aload_n 0, 1) := by decide +kernel
theorem dX4_grow_222 : decode cX4_grow 222 = .ok (.iload 9, 2) := by decide +kernel
theorem dX4_grow_224 : decode cX4_grow 224 = .ok (.iload 13, 2) := by decide +kernel
theorem dX4_grow_226 : decode cX4_grow 226 = .ok (.iload 11, 2) := by decide +kernel
theorem dX4_grow_228 : decode cX4_grow 228 = .ok (.iload 12, 2) := by decide +kernel
theorem dX4_grow_230 : decode cX4_grow 230 = .ok (.iload 5, 2) := by decide +kernel
theorem dX4_grow_232 : decode cX4_grow 232 = .ok (.iconst 1, 1) := by decide +kernel
theorem dX4_grow_233 : decode cX4_grow 233 = .ok (.iadd, 1) := by decide +kernel
theorem dX4_grow_234 : decode cX4_grow 234 = .ok (.invokestatic 49, 3) := by decide +kernel
theorem dX4_grow_237 : decode cX4_grow 237 = .ok (.iload 13, 2) := by decide +kernel
theorem dX4_grow_239 : decode cX4_grow 239 = .ok (.istore 9, 2) := by decide +kernel
theorem dX4_grow_241 : decode cX4_grow 241 = .ok (.iinc 10 1, 3) := by decide +kernel
theorem dX4_grow_244 : decode cX4_grow 244 = .ok (.goto (-90), 3) := by decide +kernel
theorem dX4_grow_247 : decode cX4_grow 247 = .ok (.return_, 1) := by decide +kernel
set_option maxRecDepth 20000 in
theorem ggX4_gather_X5_isWithin : GoodIn wsX4_gather wsX5_isWithin := goodIn_r _ [6, 7, 8, 5, 9, 10, 11, 12] (by decide +kernel) (by decide +kernel)
set_option maxRecDepth 20000 in
theorem gX4_gather_X5_isWithin_n69 : GoodIn wsX4_gather (wsX5_isWithin) := ggX4_gather_X5_isWithin
theorem dX4_gather_0 : decode cX4_gather 0 = .ok (.iload_n 1, 1) := by decide +kernel
theorem dX4_gather_1 : decode cX4_gather 1 = .ok (.istore 6, 2) := by decide +kernel
theorem dX4_gather_3 : decode cX4_gather 3 = .ok (.iload_n 1, 1) := by decide +kernel
theorem dX4_gather_4 : decode cX4_gather 4 = .ok (.istore 7, 2) := by decide +kernel
theorem dX4_gather_6 : decode cX4_gather 6 = .ok (.iload 7, 2) := by decide +kernel
theorem dX4_gather_8 : decode cX4_gather 8 = .ok (.iload_n 2, 1) := by decide +kernel
theorem dX4_gather_9 : decode cX4_gather 9 = .ok (.if_icmp .ge 76, 3) := by decide +kernel
theorem dX4_gather_12 : decode cX4_gather 12 = .ok (.aload_n 0, 1) := by decide +kernel
theorem dX4_gather_13 : decode cX4_gather 13 = .ok (.getfield 9, 3) := by decide +kernel
theorem dX4_gather_16 : decode cX4_gather 16 = .ok (.iload 7, 2) := by decide +kernel
theorem dX4_gather_18 : decode cX4_gather 18 = .ok (.iaload, 1) := by decide +kernel
theorem dX4_gather_19 : decode cX4_gather 19 = .ok (.istore 8, 2) := by decide +kernel
theorem dX4_gather_21 : decode cX4_gather 21 = .ok (.aload_n 0, 1) := by decide +kernel
theorem dX4_gather_22 : decode cX4_gather 22 = .ok (.getfield 25, 3) := by decide +kernel
theorem dX4_gather_25 : decode cX4_gather 25 = .ok (.getfield 66, 3) := by decide +kernel
theorem dX4_gather_28 : decode cX4_gather 28 = .ok (.iload 8, 2) := by decide +kernel
theorem dX4_gather_30 : decode cX4_gather 30 = .ok (.iaload, 1) := by decide +kernel
theorem dX4_gather_31 : decode cX4_gather 31 = .ok (.iload_n 3, 1) := by decide +kernel
theorem dX4_gather_32 : decode cX4_gather 32 = .ok (.iload 4, 2) := by decide +kernel
theorem dX4_gather_34 : decode cX4_gather 34 = .ok (.iload_n 3, 1) := by decide +kernel
theorem dX4_gather_35 : decode cX4_gather 35 = .ok (.iload 5, 2) := by decide +kernel
theorem dX4_gather_37 : decode cX4_gather 37 = .ok (.iadd, 1) := by decide +kernel
theorem dX4_gather_38 : decode cX4_gather 38 = .ok (.iconst 1, 1) := by decide +kernel
theorem dX4_gather_39 : decode cX4_gather 39 = .ok (.isub, 1) := by decide +kernel
theorem dX4_gather_40 : decode cX4_gather 40 = .ok (.iload 4, 2) := by decide +kernel
theorem dX4_gather_42 : decode cX4_gather 42 = .ok (.iload 5, 2) := by decide +kernel
theorem dX4_gather_44 : decode cX4_gather 44 = .ok (.iadd, 1) := by decide +kernel
theorem dX4_gather_45 : decode cX4_gather 45 = .ok (.iconst 1, 1) := by decide +kernel
theorem dX4_gather_46 : decode cX4_gather 46 = .ok (.isub, 1) := by decide +kernel
theorem dX4_gather_47 : decode cX4_gather 47 = .ok (.invokestatic 69, 3) := by decide +kernel
theorem dX4_gather_50 : decode cX4_gather 50 = .ok (.ifCond .eq 29, 3) := by decide +kernel
theorem dX4_gather_53 : decode cX4_gather 53 = .ok (.aload_n 0, 1) := by decide +kernel
theorem dX4_gather_54 : decode cX4_gather 54 = .ok (.getfield 9, 3) := by decide +kernel
theorem dX4_gather_57 : decode cX4_gather 57 = .ok (.iload 7, 2) := by decide +kernel
theorem dX4_gather_59 : decode cX4_gather 59 = .ok (.aload_n 0, 1) := by decide +kernel
theorem dX4_gather_60 : decode cX4_gather 60 = .ok (.getfield 9, 3) := by decide +kernel
theorem dX4_gather_63 : decode cX4_gather 63 = .ok (.iload 6, 2) := by decide +kernel
theorem dX4_gather_65 : decode cX4_gather 65 = .ok (.iaload, 1) := by decide +kernel
theorem dX4_gather_66 : decode cX4_gather 66 = .ok (.iastore, 1) := by decide +kernel
theorem dX4_gather_67 : decode cX4_gather 67 = .ok (.aload_n 0, 1) := by decide +kernel
theorem dX4_gather_68 : decode cX4_gather 68 = .ok (.getfield 9, 3) := by decide +kernel
theorem dX4_gather_71 : decode cX4_gather 71 = .ok (.iload 6, 2) := by decide +kernel
theorem dX4_gather_73 : decode cX4_gather 73 = .ok (.iload 8, 2) := by decide +kernel
theorem dX4_gather_75 : decode cX4_gather 75 = .ok (.iastore, 1) := by decide +kernel
theorem dX4_gather_76 : decode cX4_gather 76 = .ok (.iinc 6 1, 3) := by decide +kernel
theorem dX4_gather_79 : decode cX4_gather 79 = .ok (.iinc 7 1, 3) := by decide +kernel
theorem dX4_gather_82 : decode cX4_gather 82 = .ok (.goto (-76), 3) := by decide +kernel
theorem dX4_gather_85 : decode cX4_gather 85 = .ok (.iload 6, 2) := by decide +kernel
theorem dX4_gather_87 : decode cX4_gather 87 = .ok (.ireturn, 1) := by decide +kernel
theorem dX4_lowBitsOf_0 : decode cX4_lowBitsOf 0 = .ok (.iconst 0, 1) := by decide +kernel
theorem dX4_lowBitsOf_1 : decode cX4_lowBitsOf 1 = .ok (.istore_n 3, 1) := by decide +kernel
theorem dX4_lowBitsOf_2 : decode cX4_lowBitsOf 2 = .ok (.iload_n 1, 1) := by decide +kernel
theorem dX4_lowBitsOf_3 : decode cX4_lowBitsOf 3 = .ok (.istore 4, 2) := by decide +kernel
theorem dX4_lowBitsOf_5 : decode cX4_lowBitsOf 5 = .ok (.iload 4, 2) := by decide +kernel
theorem dX4_lowBitsOf_7 : decode cX4_lowBitsOf 7 = .ok (.iload_n 2, 1) := by decide +kernel
theorem dX4_lowBitsOf_8 : decode cX4_lowBitsOf 8 = .ok (.if_icmp .ge 30, 3) := by decide +kernel
theorem dX4_lowBitsOf_11 : decode cX4_lowBitsOf 11 = .ok (.iload_n 3, 1) := by decide +kernel
theorem dX4_lowBitsOf_12 : decode cX4_lowBitsOf 12 = .ok (.aload_n 0, 1) := by decide +kernel
theorem dX4_lowBitsOf_13 : decode cX4_lowBitsOf 13 = .ok (.getfield 25, 3) := by decide +kernel
theorem dX4_lowBitsOf_16 : decode cX4_lowBitsOf 16 = .ok (.getfield 73, 3) := by decide +kernel
theorem dX4_lowBitsOf_19 : decode cX4_lowBitsOf 19 = .ok (.aload_n 0, 1) := by decide +kernel
theorem dX4_lowBitsOf_20 : decode cX4_lowBitsOf 20 = .ok (.getfield 9, 3) := by decide +kernel
theorem dX4_lowBitsOf_23 : decode cX4_lowBitsOf 23 = .ok (.iload 4, 2) := by decide +kernel
theorem dX4_lowBitsOf_25 : decode cX4_lowBitsOf 25 = .ok (.iaload, 1) := by decide +kernel
theorem dX4_lowBitsOf_26 : decode cX4_lowBitsOf 26 = .ok (.iaload, 1) := by decide +kernel
theorem dX4_lowBitsOf_27 : decode cX4_lowBitsOf 27 = .ok (.ldc 76, 2) := by decide +kernel
theorem dX4_lowBitsOf_29 : decode cX4_lowBitsOf 29 = .ok (.iand, 1) := by decide +kernel
theorem dX4_lowBitsOf_30 : decode cX4_lowBitsOf 30 = .ok (.iadd, 1) := by decide +kernel
theorem dX4_lowBitsOf_31 : decode cX4_lowBitsOf 31 = .ok (.istore_n 3, 1) := by decide +kernel
theorem dX4_lowBitsOf_32 : decode cX4_lowBitsOf 32 = .ok (.iinc 4 1, 3) := by decide +kernel
theorem dX4_lowBitsOf_35 : decode cX4_lowBitsOf 35 = .ok (.goto (-30), 3) := by decide +kernel
theorem dX4_lowBitsOf_38 : decode cX4_lowBitsOf 38 = .ok (.iload_n 3, 1) := by decide +kernel
theorem dX4_lowBitsOf_39 : decode cX4_lowBitsOf 39 = .ok (.ireturn, 1) := by decide +kernel
set_option maxRecDepth 20000 in
theorem ggX5_init_X5_fromOneTo : GoodIn wsX5_init wsX5_fromOneTo := goodIn_r _ [34] (by decide +kernel) (by decide +kernel)
set_option maxRecDepth 20000 in
theorem gX5_init_X5_fromOneTo : GoodIn wsX5_init (va_wsS RX5 9 yX5_fromOneTo wsX5_fromOneTo) := goodIn_app (goodIn_of _ (by decide +kernel)) ggX5_init_X5_fromOneTo
set_option maxRecDepth 20000 in
theorem ggX5_init_X2_init : GoodIn wsX5_init wsX2_init := goodIn_r _ [36, 37, 2, 3, 38, 39, 40, 41, 42, 78, 79, 80, 81] (by decide +kernel) (by decide +kernel)
set_option maxRecDepth 20000 in
theorem gX5_init_X2_init_n15 : GoodIn wsX5_init (wsX2_init) := ggX5_init_X2_init
set_option maxRecDepth 20000 in
theorem ggX5_init_X1_init : GoodIn wsX5_init wsX1_init := goodIn_r _ [45, 46, 2, 3, 38, 47, 48, 49, 50, 94, 95, 96, 97] (by decide +kernel) (by decide +kernel)
set_option maxRecDepth 20000 in
theorem gX5_init_X1_init : GoodIn wsX5_init (wsX1_init) := ggX5_init_X1_init
set_option maxRecDepth 20000 in
theorem ggX5_init_X4_init : GoodIn wsX5_init wsX4_init := goodIn_r _ [53, 54, 2, 3, 38, 55, 56, 57, 58, 59, 60, 61, 62, 63, 98, 99, 100, 101, 102, 103, 104, 105, 106] (by decide +kernel) (by decide +kernel)
set_option maxRecDepth 20000 in
theorem gX5_init_X4_init : GoodIn wsX5_init (wsX4_init) := ggX5_init_X4_init
set_option maxRecDepth 20000 in
theorem ggX5_init_X0_init : GoodIn wsX5_init wsX0_init := goodIn_r _ [65, 66, 2, 3, 38, 67, 68, 69, 107, 108, 109] (by decide +kernel) (by decide +kernel)
set_option maxRecDepth 20000 in
theorem gX5_init_X0_init_n53 : GoodIn wsX5_init (wsX0_init) := ggX5_init_X0_init
set_option maxRecDepth 20000 in
theorem ggX5_init_X3_init : GoodIn wsX5_init wsX3_init := goodIn_r _ [71, 72, 2, 3, 38, 73, 74, 75, 76, 77, 110, 111, 112, 113] (by decide +kernel) (by decide +kernel)
set_option maxRecDepth 20000 in
theorem gX5_init_X3_init_n60 : GoodIn wsX5_init (wsX3_init) := ggX5_init_X3_init
theorem dX5_init_0 : decode cX5_init 0 = .ok (.aload_n 0, 1) := by decide +kernel
theorem dX5_init_1 : decode cX5_init 1 = .ok (.invokespecial 3, 3) := by decide +kernel
theorem dX5_init_4 : decode cX5_init 4 = .ok (.sipush 400, 3) := by decide +kernel
theorem dX5_init_7 : decode cX5_init 7 = .ok (.iload_n 1, 1) := by decide +kernel
theorem dX5_init_8 : decode cX5_init 8 = .ok (.bipush 64, 2) := by decide +kernel
theorem dX5_init_10 : decode cX5_init 10 = .ok (.invokestatic 9, 3) := by decide +kernel
theorem dX5_init_13 : decode cX5_init 13 = .ok (.istore 4, 2) := by decide +kernel
theorem dX5_init_15 : decode cX5_init 15 = .ok (.bipush 8, 2) := by decide +kernel
theorem dX5_init_17 : decode cX5_init 17 = .ok (.iload_n 2, 1) := by decide +kernel
theorem dX5_init_18 : decode cX5_init 18 = .ok (.iconst 4, 1) := by decide +kernel
theorem dX5_init_19 : decode cX5_init 19 = .ok (.invokestatic 9, 3) := by decide +kernel
theorem dX5_init_22 : decode cX5_init 22 = .ok (.istore 5, 2) := by decide +kernel
theorem dX5_init_24 : decode cX5_init 24 = .ok (.bipush 15, 2) := by decide +kernel
theorem dX5_init_26 : decode cX5_init 26 = .ok (.iload_n 3, 1) := by decide +kernel
theorem dX5_init_27 : decode cX5_init 27 = .ok (.bipush 8, 2) := by decide +kernel
theorem dX5_init_29 : decode cX5_init 29 = .ok (.invokestatic 9, 3) := by decide +kernel
theorem dX5_init_32 : decode cX5_init 32 = .ok (.istore 6, 2) := by decide +kernel
theorem dX5_init_34 : decode cX5_init 34 = .ok (.new 13, 3) := by decide +kernel
theorem dX5_init_37 : decode cX5_init 37 = .ok (.dup, 1) := by decide +kernel
theorem dX5_init_38 : decode cX5_init 38 = .ok (.invokespecial 15, 3) := by decide +kernel
theorem dX5_init_41 : decode cX5_init 41 = .ok (.astore 7, 2) := by decide +kernel
theorem dX5_init_43 : decode cX5_init 43 = .ok (.new 13, 3) := by decide +kernel
theorem dX5_init_46 : decode cX5_init 46 = .ok (.dup, 1) := by decide +kernel
theorem dX5_init_47 : decode cX5_init 47 = .ok (.invokespecial 15, 3) := by decide +kernel
theorem dX5_init_50 : decode cX5_init 50 = .ok (.astore 8, 2) := by decide +kernel
theorem dX5_init_52 : decode cX5_init 52 = .ok (.aload_n 0, 1) := by decide +kernel
theorem dX5_init_53 : decode cX5_init 53 = .ok (.iload 4, 2) := by decide +kernel
theorem dX5_init_55 : decode cX5_init 55 = .ok (.putfield 16, 3) := by decide +kernel
theorem dX5_init_58 : decode cX5_init 58 = .ok (.aload_n 0, 1) := by decide +kernel
theorem dX5_init_59 : decode cX5_init 59 = .ok (.iload 5, 2) := by decide +kernel
theorem dX5_init_61 : decode cX5_init 61 = .ok (.putfield 20, 3) := by decide +kernel
theorem dX5_init_64 : decode cX5_init 64 = .ok (.aload_n 0, 1) := by decide +kernel
theorem dX5_init_65 : decode cX5_init 65 = .ok (.iconst 1, 1) := by decide +kernel
theorem dX5_init_66 : decode cX5_init 66 = .ok (.iload 6, 2) := by decide +kernel
theorem dX5_init_68 : decode cX5_init 68 = .ok (.ishl, 1) := by decide +kernel
theorem dX5_init_69 : decode cX5_init 69 = .ok (.putfield 23, 3) := by decide +kernel
theorem dX5_init_72 : decode cX5_init 72 = .ok (.aload_n 0, 1) := by decide +kernel
theorem dX5_init_73 : decode cX5_init 73 = .ok (.new 26, 3) := by decide +kernel
theorem dX5_init_76 : decode cX5_init 76 = .ok (.dup, 1) := by decide +kernel
theorem dX5_init_77 : decode cX5_init 77 = .ok (.aload 8, 2) := by decide +kernel
theorem dX5_init_79 : decode cX5_init 79 = .ok (.invokespecial 28, 3) := by decide +kernel
theorem dX5_init_82 : decode cX5_init 82 = .ok (.putfield 31, 3) := by decide +kernel
theorem dX5_init_85 : decode cX5_init 85 = .ok (.aload_n 0, 1) := by decide +kernel
theorem dX5_init_86 : decode cX5_init 86 = .ok (.aload 7, 2) := by decide +kernel
theorem dX5_init_88 : decode cX5_init 88 = .ok (.putfield 35, 3) := by decide +kernel
theorem dX5_init_91 : decode cX5_init 91 = .ok (.aload_n 0, 1) := by decide +kernel
theorem dX5_init_92 : decode cX5_init 92 = .ok (.new 39, 3) := by decide +kernel
theorem dX5_init_95 : decode cX5_init 95 = .ok (.dup, 1) := by decide +kernel
theorem dX5_init_96 : decode cX5_init 96 = .ok (.aload 7, 2) := by decide +kernel
theorem dX5_init_98 : decode cX5_init 98 = .ok (.iload 4, 2) := by decide +kernel
theorem dX5_init_100 : decode cX5_init 100 = .ok (.iload 5, 2) := by decide +kernel
theorem dX5_init_102 : decode cX5_init 102 = .ok (.iload 6, 2) := by decide +kernel
theorem dX5_init_104 : decode cX5_init 104 = .ok (.invokespecial 41, 3) := by decide +kernel
theorem dX5_init_107 : decode cX5_init 107 = .ok (.putfield 44, 3) := by decide +kernel
theorem dX5_init_110 : decode cX5_init 110 = .ok (.aload_n 0, 1) := by decide +kernel
theorem dX5_init_111 : decode cX5_init 111 = .ok (.new 39, 3) := by decide +kernel
theorem dX5_init_114 : decode cX5_init 114 = .ok (.dup, 1) := by decide +kernel
theorem dX5_init_115 : decode cX5_init 115 = .ok (.aload 8, 2) := by decide +kernel
theorem dX5_init_117 : decode cX5_init 117 = .ok (.iload 4, 2) := by decide +kernel
theorem dX5_init_119 : decode cX5_init 119 = .ok (.iload 5, 2) := by decide +kernel
theorem dX5_init_121 : decode cX5_init 121 = .ok (.iload 6, 2) := by decide +kernel
theorem dX5_init_123 : decode cX5_init 123 = .ok (.invokespecial 41, 3) := by decide +kernel
theorem dX5_init_126 : decode cX5_init 126 = .ok (.putfield 48, 3) := by decide +kernel
theorem dX5_init_129 : decode cX5_init 129 = .ok (.aload_n 0, 1) := by decide +kernel
theorem dX5_init_130 : decode cX5_init 130 = .ok (.new 51, 3) := by decide +kernel
theorem dX5_init_133 : decode cX5_init 133 = .ok (.dup, 1) := by decide +kernel
theorem dX5_init_134 : decode cX5_init 134 = .ok (.invokespecial 53, 3) := by decide +kernel
theorem dX5_init_137 : decode cX5_init 137 = .ok (.putfield 54, 3) := by decide +kernel
theorem dX5_init_140 : decode cX5_init 140 = .ok (.aload_n 0, 1) := by decide +kernel
theorem dX5_init_141 : decode cX5_init 141 = .ok (.new 58, 3) := by decide +kernel
theorem dX5_init_144 : decode cX5_init 144 = .ok (.dup, 1) := by decide +kernel
theorem dX5_init_145 : decode cX5_init 145 = .ok (.invokespecial 60, 3) := by decide +kernel
theorem dX5_init_148 : decode cX5_init 148 = .ok (.putfield 61, 3) := by decide +kernel
theorem dX5_init_151 : decode cX5_init 151 = .ok (.aload_n 0, 1) := by decide +kernel
theorem dX5_init_152 : decode cX5_init 152 = .ok (.iconst 1, 1) := by decide +kernel
theorem dX5_init_153 : decode cX5_init 153 = .ok (.putfield 65, 3) := by decide +kernel
theorem dX5_init_156 : decode cX5_init 156 = .ok (.aload_n 0, 1) := by decide +kernel
theorem dX5_init_157 : decode cX5_init 157 = .ok (.iconst (-1), 1) := by decide +kernel
theorem dX5_init_158 : decode cX5_init 158 = .ok (.putfield 69, 3) := by decide +kernel
theorem dX5_init_161 : decode cX5_init 161 = .ok (.aload_n 0, 1) := by decide +kernel
theorem dX5_init_162 : decode cX5_init 162 = .ok (.iconst 0, 1) := by decide +kernel
theorem dX5_init_163 : decode cX5_init 163 = .ok (.putfield 72, 3) := by decide +kernel
theorem dX5_init_166 : decode cX5_init 166 = .ok (.return_, 1) := by decide +kernel
set_option maxRecDepth 20000 in
theorem ggX5_insert_X5_isOnPlane : GoodIn wsX5_insert wsX5_isOnPlane := goodIn_r _ [8, 9, 110, 111, 112, 113, 114, 115, 116, 117, 118, 119, 120, 121] (by decide +kernel) (by decide +kernel)
set_option maxRecDepth 20000 in
theorem gX5_insert_X5_isOnPlane : GoodIn wsX5_insert (wsV RX5 75 RX5 yX5_isOnPlane wsX5_isOnPlane) := goodIn_app (goodIn_of _ (by decide +kernel)) ggX5_insert_X5_isOnPlane
set_option maxRecDepth 20000 in
theorem ggX5_insert_X0_isFull : GoodIn wsX5_insert wsX0_isFull := goodIn_r _ [14, 15, 122, 123, 124] (by decide +kernel) (by decide +kernel)
set_option maxRecDepth 20000 in
theorem gX5_insert_X0_isFull : GoodIn wsX5_insert (wsV RX5 79 RX0 yX0_isFull wsX0_isFull) := goodIn_app (goodIn_of _ (by decide +kernel)) ggX5_insert_X0_isFull
set_option maxRecDepth 20000 in
theorem ggX5_insert_X5_keyOf : GoodIn wsX5_insert wsX5_keyOf := goodIn_r _ [18] (by decide +kernel) (by decide +kernel)
set_option maxRecDepth 20000 in
theorem gX5_insert_X5_keyOf : GoodIn wsX5_insert (va_wsS RX5 83 yX5_keyOf wsX5_keyOf) := goodIn_app (goodIn_of _ (by decide +kernel)) ggX5_insert_X5_keyOf
set_option maxRecDepth 20000 in
theorem ggX5_insert_X2_valueOf : GoodIn wsX5_insert wsX2_valueOf := goodIn_r _ [23, 24, 25, 26, 27, 22, 28, 29, 30, 31, 32, 33, 34, 35, 125, 126, 127, 128] (by decide +kernel) (by decide +kernel)
set_option maxRecDepth 20000 in
theorem gX5_insert_X2_valueOf : GoodIn wsX5_insert (wsV RX5 87 RX2 yX2_valueOf wsX2_valueOf) := goodIn_app (goodIn_of _ (by decide +kernel)) ggX5_insert_X2_valueOf
set_option maxRecDepth 20000 in
theorem ggX5_insert_X2_put : GoodIn wsX5_insert wsX2_put := goodIn_r _ [39, 30, 29, 40, 41, 42, 43, 24, 44, 25, 26, 27, 22, 28, 31, 32, 33, 34, 35, 45, 46, 47, 48, 125, 126, 127, 128] (by decide +kernel) (by decide +kernel)
set_option maxRecDepth 20000 in
theorem gX5_insert_X2_put : GoodIn wsX5_insert (wsV RX5 91 RX2 yX2_put wsX2_put) := goodIn_app (goodIn_of _ (by decide +kernel)) ggX5_insert_X2_put
set_option maxRecDepth 20000 in
theorem ggX5_insert_X5_comesIn : GoodIn wsX5_insert wsX5_comesIn := goodIn_r _ [52, 3, 53, 54, 55, 56, 46, 47, 22, 48, 29, 36, 37, 38, 39, 30, 40, 41, 42, 43, 24, 44, 25, 26, 27, 28, 31, 32, 33, 34, 35, 45, 57, 58, 59, 60, 61, 62, 63, 64, 65, 66, 67, 68, 69, 70, 71, 72, 73, 74, 75, 76, 77, 78, 79, 80, 81, 82, 83, 84, 85, 86, 87, 88, 89, 90, 91, 7, 92, 93, 94, 95, 96, 97, 98, 99, 100, 101, 102, 110, 111, 112, 113, 114, 115, 116, 117, 118, 119, 120, 121, 129, 130, 131, 132, 133, 134, 135, 136, 137, 125, 126, 127, 128] (by decide +kernel) (by decide +kernel)
set_option maxRecDepth 20000 in
theorem gX5_insert_X5_comesIn : GoodIn wsX5_insert (wsV RX5 95 RX5 yX5_comesIn wsX5_comesIn) := goodIn_app (goodIn_of _ (by decide +kernel)) ggX5_insert_X5_comesIn
set_option maxRecDepth 20000 in
theorem ggX5_insert_X0_add : GoodIn wsX5_insert wsX0_add := goodIn_r _ [106, 107, 15, 108, 109, 11, 12, 13, 14, 122, 123, 124] (by decide +kernel) (by decide +kernel)
set_option maxRecDepth 20000 in
theorem gX5_insert_X0_add : GoodIn wsX5_insert (wsV RX5 98 RX0 yX0_add wsX0_add) := goodIn_app (goodIn_of _ (by decide +kernel)) ggX5_insert_X0_add
theorem dX5_insert_0 : decode cX5_insert 0 = .ok (.aload_n 0, 1) := by decide +kernel
theorem dX5_insert_1 : decode cX5_insert 1 = .ok (.getfield 65, 3) := by decide +kernel
theorem dX5_insert_4 : decode cX5_insert 4 = .ok (.ifCond .ne 6, 3) := by decide +kernel
theorem dX5_insert_7 : decode cX5_insert 7 = .ok (.bipush (-2), 2) := by decide +kernel
theorem dX5_insert_9 : decode cX5_insert 9 = .ok (.ireturn, 1) := by decide +kernel
theorem dX5_insert_10 : decode cX5_insert 10 = .ok (.aload_n 0, 1) := by decide +kernel
theorem dX5_insert_11 : decode cX5_insert 11 = .ok (.iload_n 1, 1) := by decide +kernel
theorem dX5_insert_12 : decode cX5_insert 12 = .ok (.iload_n 2, 1) := by decide +kernel
theorem dX5_insert_13 : decode cX5_insert 13 = .ok (.invokevirtual 75, 3) := by decide +kernel
theorem dX5_insert_16 : decode cX5_insert 16 = .ok (.ifCond .eq 7, 3) := by decide +kernel
theorem dX5_insert_19 : decode cX5_insert 19 = .ok (.iload_n 3, 1) := by decide +kernel
theorem dX5_insert_20 : decode cX5_insert 20 = .ok (.ifCond .ge 5, 3) := by decide +kernel
theorem dX5_insert_23 : decode cX5_insert 23 = .ok (.iconst 2, 1) := by decide +kernel
theorem dX5_insert_24 : decode cX5_insert 24 = .ok (.ireturn, 1) := by decide +kernel
theorem dX5_insert_25 : decode cX5_insert 25 = .ok (.aload_n 0, 1) := by decide +kernel
theorem dX5_insert_26 : decode cX5_insert 26 = .ok (.getfield 54, 3) := by decide +kernel
theorem dX5_insert_29 : decode cX5_insert 29 = .ok (.invokevirtual 79, 3) := by decide +kernel
theorem dX5_insert_32 : decode cX5_insert 32 = .ok (.ifCond .eq 5, 3) := by decide +kernel
theorem dX5_insert_35 : decode cX5_insert 35 = .ok (.iconst 3, 1) := by decide +kernel
theorem dX5_insert_36 : decode cX5_insert 36 = .ok (.ireturn, 1) := by decide +kernel
theorem dX5_insert_37 : decode cX5_insert 37 = .ok (.iload_n 1, 1) := by decide +kernel
theorem dX5_insert_38 : decode cX5_insert 38 = .ok (.iload_n 2, 1) := by decide +kernel
theorem dX5_insert_39 : decode cX5_insert 39 = .ok (.invokestatic 83, 3) := by decide +kernel
theorem dX5_insert_42 : decode cX5_insert 42 = .ok (.istore 4, 2) := by decide +kernel
theorem dX5_insert_44 : decode cX5_insert 44 = .ok (.aload_n 0, 1) := by decide +kernel
theorem dX5_insert_45 : decode cX5_insert 45 = .ok (.getfield 35, 3) := by decide +kernel
theorem dX5_insert_48 : decode cX5_insert 48 = .ok (.iload 4, 2) := by decide +kernel
theorem dX5_insert_50 : decode cX5_insert 50 = .ok (.invokevirtual 87, 3) := by decide +kernel
theorem dX5_insert_53 : decode cX5_insert 53 = .ok (.iconst (-1), 1) := by decide +kernel
theorem dX5_insert_54 : decode cX5_insert 54 = .ok (.if_icmp .eq 7, 3) := by decide +kernel
theorem dX5_insert_57 : decode cX5_insert 57 = .ok (.iconst 1, 1) := by decide +kernel
theorem dX5_insert_58 : decode cX5_insert 58 = .ok (.goto 4, 3) := by decide +kernel
theorem dX5_insert_61 : decode cX5_insert 61 = .ok (.iconst 0, 1) := by decide +kernel
theorem dX5_insert_62 : decode cX5_insert 62 = .ok (.istore 5, 2) := by decide +kernel
theorem dX5_insert_64 : decode cX5_insert 64 = .ok (.iload 5, 2) := by decide +kernel
theorem dX5_insert_66 : decode cX5_insert 66 = .ok (.ifCond .eq 16, 3) := by decide +kernel
theorem dX5_insert_69 : decode cX5_insert 69 = .ok (.aload_n 0, 1) := by decide +kernel
theorem dX5_insert_70 : decode cX5_insert 70 = .ok (.getfield 35, 3) := by decide +kernel
theorem dX5_insert_73 : decode cX5_insert 73 = .ok (.iload 4, 2) := by decide +kernel
theorem dX5_insert_75 : decode cX5_insert 75 = .ok (.iload_n 3, 1) := by decide +kernel
theorem dX5_insert_76 : decode cX5_insert 76 = .ok (.invokevirtual 91, 3) := by decide +kernel
theorem dX5_insert_79 : decode cX5_insert 79 = .ok (.goto 15, 3) := by decide +kernel
theorem dX5_insert_82 : decode cX5_insert 82 = .ok (.aload_n 0, 1) := by decide +kernel
theorem dX5_insert_83 : decode cX5_insert 83 = .ok (.iload 4, 2) := by decide +kernel
theorem dX5_insert_85 : decode cX5_insert 85 = .ok (.iload_n 3, 1) := by decide +kernel
theorem dX5_insert_86 : decode cX5_insert 86 = .ok (.invokevirtual 95, 3) := by decide +kernel
theorem dX5_insert_89 : decode cX5_insert 89 = .ok (.ifCond .ne 5, 3) := by decide +kernel
theorem dX5_insert_92 : decode cX5_insert 92 = .ok (.iconst 4, 1) := by decide +kernel
theorem dX5_insert_93 : decode cX5_insert 93 = .ok (.ireturn, 1) := by decide +kernel
theorem dX5_insert_94 : decode cX5_insert 94 = .ok (.aload_n 0, 1) := by decide +kernel
theorem dX5_insert_95 : decode cX5_insert 95 = .ok (.getfield 54, 3) := by decide +kernel
theorem dX5_insert_98 : decode cX5_insert 98 = .ok (.iload 4, 2) := by decide +kernel
theorem dX5_insert_100 : decode cX5_insert 100 = .ok (.iload_n 3, 1) := by decide +kernel
theorem dX5_insert_101 : decode cX5_insert 101 = .ok (.invokevirtual 98, 3) := by decide +kernel
theorem dX5_insert_104 : decode cX5_insert 104 = .ok (.iload 5, 2) := by decide +kernel
theorem dX5_insert_106 : decode cX5_insert 106 = .ok (.ifCond .eq 7, 3) := by decide +kernel
theorem dX5_insert_109 : decode cX5_insert 109 = .ok (.iconst 1, 1) := by decide +kernel
theorem dX5_insert_110 : decode cX5_insert 110 = .ok (.goto 4, 3) := by decide +kernel
theorem dX5_insert_113 : decode cX5_insert 113 = .ok (.iconst 0, 1) := by decide +kernel
theorem dX5_insert_114 : decode cX5_insert 114 = .ok (.ireturn, 1) := by decide +kernel
set_option maxRecDepth 20000 in
theorem ggX5_delete_X5_isOnPlane : GoodIn wsX5_delete wsX5_isOnPlane := goodIn_r _ [8, 9, 52, 53, 54, 55, 56, 57, 58, 59, 60, 61, 62, 63] (by decide +kernel) (by decide +kernel)
set_option maxRecDepth 20000 in
theorem gX5_delete_X5_isOnPlane : GoodIn wsX5_delete (wsV RX5 75 RX5 yX5_isOnPlane wsX5_isOnPlane) := goodIn_app (goodIn_of _ (by decide +kernel)) ggX5_delete_X5_isOnPlane
set_option maxRecDepth 20000 in
theorem ggX5_delete_X5_keyOf : GoodIn wsX5_delete wsX5_keyOf := goodIn_r _ [12] (by decide +kernel) (by decide +kernel)
set_option maxRecDepth 20000 in
theorem gX5_delete_X5_keyOf : GoodIn wsX5_delete (va_wsS RX5 83 yX5_keyOf wsX5_keyOf) := goodIn_app (goodIn_of _ (by decide +kernel)) ggX5_delete_X5_keyOf
set_option maxRecDepth 20000 in
theorem ggX5_delete_X2_valueOf : GoodIn wsX5_delete wsX2_valueOf := goodIn_r _ [17, 18, 19, 20, 21, 16, 22, 23, 24, 25, 26, 27, 28, 29, 64, 65, 66, 67] (by decide +kernel) (by decide +kernel)
set_option maxRecDepth 20000 in
theorem gX5_delete_X2_valueOf : GoodIn wsX5_delete (wsV RX5 87 RX2 yX2_valueOf wsX2_valueOf) := goodIn_app (goodIn_of _ (by decide +kernel)) ggX5_delete_X2_valueOf
set_option maxRecDepth 20000 in
theorem ggX5_delete_X0_isFull : GoodIn wsX5_delete wsX0_isFull := goodIn_r _ [34, 35, 68, 69, 70] (by decide +kernel) (by decide +kernel)
set_option maxRecDepth 20000 in
theorem gX5_delete_X0_isFull : GoodIn wsX5_delete (wsV RX5 79 RX0 yX0_isFull wsX0_isFull) := goodIn_app (goodIn_of _ (by decide +kernel)) ggX5_delete_X0_isFull
set_option maxRecDepth 20000 in
theorem ggX5_delete_X2_takeOut : GoodIn wsX5_delete wsX2_takeOut := goodIn_r _ [39, 24, 23, 40, 41, 42, 43, 18, 44, 19, 20, 21, 16, 22, 25, 26, 27, 28, 29, 64, 65, 66, 67] (by decide +kernel) (by decide +kernel)
set_option maxRecDepth 20000 in
theorem gX5_delete_X2_takeOut : GoodIn wsX5_delete (wsV RX5 101 RX2 yX2_takeOut wsX2_takeOut) := goodIn_app (goodIn_of _ (by decide +kernel)) ggX5_delete_X2_takeOut
set_option maxRecDepth 20000 in
theorem ggX5_delete_X0_add : GoodIn wsX5_delete wsX0_add := goodIn_r _ [48, 49, 35, 50, 51, 31, 32, 33, 34, 68, 69, 70] (by decide +kernel) (by decide +kernel)
set_option maxRecDepth 20000 in
theorem gX5_delete_X0_add : GoodIn wsX5_delete (wsV RX5 98 RX0 yX0_add wsX0_add) := goodIn_app (goodIn_of _ (by decide +kernel)) ggX5_delete_X0_add
theorem dX5_delete_0 : decode cX5_delete 0 = .ok (.aload_n 0, 1) := by decide +kernel
theorem dX5_delete_1 : decode cX5_delete 1 = .ok (.getfield 65, 3) := by decide +kernel
theorem dX5_delete_4 : decode cX5_delete 4 = .ok (.ifCond .ne 6, 3) := by decide +kernel
theorem dX5_delete_7 : decode cX5_delete 7 = .ok (.bipush (-2), 2) := by decide +kernel
theorem dX5_delete_9 : decode cX5_delete 9 = .ok (.ireturn, 1) := by decide +kernel
theorem dX5_delete_10 : decode cX5_delete 10 = .ok (.aload_n 0, 1) := by decide +kernel
theorem dX5_delete_11 : decode cX5_delete 11 = .ok (.iload_n 1, 1) := by decide +kernel
theorem dX5_delete_12 : decode cX5_delete 12 = .ok (.iload_n 2, 1) := by decide +kernel
theorem dX5_delete_13 : decode cX5_delete 13 = .ok (.invokevirtual 75, 3) := by decide +kernel
theorem dX5_delete_16 : decode cX5_delete 16 = .ok (.ifCond .ne 5, 3) := by decide +kernel
theorem dX5_delete_19 : decode cX5_delete 19 = .ok (.iconst 2, 1) := by decide +kernel
theorem dX5_delete_20 : decode cX5_delete 20 = .ok (.ireturn, 1) := by decide +kernel
theorem dX5_delete_21 : decode cX5_delete 21 = .ok (.iload_n 1, 1) := by decide +kernel
theorem dX5_delete_22 : decode cX5_delete 22 = .ok (.iload_n 2, 1) := by decide +kernel
theorem dX5_delete_23 : decode cX5_delete 23 = .ok (.invokestatic 83, 3) := by decide +kernel
theorem dX5_delete_26 : decode cX5_delete 26 = .ok (.istore_n 3, 1) := by decide +kernel
theorem dX5_delete_27 : decode cX5_delete 27 = .ok (.aload_n 0, 1) := by decide +kernel
theorem dX5_delete_28 : decode cX5_delete 28 = .ok (.getfield 35, 3) := by decide +kernel
theorem dX5_delete_31 : decode cX5_delete 31 = .ok (.iload_n 3, 1) := by decide +kernel
theorem dX5_delete_32 : decode cX5_delete 32 = .ok (.invokevirtual 87, 3) := by decide +kernel
theorem dX5_delete_35 : decode cX5_delete 35 = .ok (.iconst (-1), 1) := by decide +kernel
theorem dX5_delete_36 : decode cX5_delete 36 = .ok (.if_icmp .ne 5, 3) := by decide +kernel
theorem dX5_delete_39 : decode cX5_delete 39 = .ok (.iconst 5, 1) := by decide +kernel
theorem dX5_delete_40 : decode cX5_delete 40 = .ok (.ireturn, 1) := by decide +kernel
theorem dX5_delete_41 : decode cX5_delete 41 = .ok (.aload_n 0, 1) := by decide +kernel
theorem dX5_delete_42 : decode cX5_delete 42 = .ok (.getfield 54, 3) := by decide +kernel
theorem dX5_delete_45 : decode cX5_delete 45 = .ok (.invokevirtual 79, 3) := by decide +kernel
theorem dX5_delete_48 : decode cX5_delete 48 = .ok (.ifCond .eq 5, 3) := by decide +kernel
theorem dX5_delete_51 : decode cX5_delete 51 = .ok (.iconst 3, 1) := by decide +kernel
theorem dX5_delete_52 : decode cX5_delete 52 = .ok (.ireturn, 1) := by decide +kernel
theorem dX5_delete_53 : decode cX5_delete 53 = .ok (.aload_n 0, 1) := by decide +kernel
theorem dX5_delete_54 : decode cX5_delete 54 = .ok (.getfield 35, 3) := by decide +kernel
theorem dX5_delete_57 : decode cX5_delete 57 = .ok (.iload_n 3, 1) := by decide +kernel
theorem dX5_delete_58 : decode cX5_delete 58 = .ok (.invokevirtual 101, 3) := by decide +kernel
theorem dX5_delete_61 : decode cX5_delete 61 = .ok (.aload_n 0, 1) := by decide +kernel
theorem dX5_delete_62 : decode cX5_delete 62 = .ok (.getfield 54, 3) := by decide +kernel
theorem dX5_delete_65 : decode cX5_delete 65 = .ok (.iload_n 3, 1) := by decide +kernel
theorem dX5_delete_66 : decode cX5_delete 66 = .ok (.iconst (-1), 1) := by decide +kernel
theorem dX5_delete_67 : decode cX5_delete 67 = .ok (.invokevirtual 98, 3) := by decide +kernel
theorem dX5_delete_70 : decode cX5_delete 70 = .ok (.iconst 0, 1) := by decide +kernel
theorem dX5_delete_71 : decode cX5_delete 71 = .ok (.ireturn, 1) := by decide +kernel
set_option maxRecDepth 20000 in
theorem ggX5_get_X5_pointsOf : GoodIn wsX5_get wsX5_pointsOf := goodIn_r _ [6, 7, 8, 9, 35, 36, 37, 38, 39, 40, 41, 42, 43, 44, 45, 46, 47, 48, 49, 50] (by decide +kernel) (by decide +kernel)
set_option maxRecDepth 20000 in
theorem gX5_get_X5_pointsOf : GoodIn wsX5_get (wsV RX5 105 RX5 yX5_pointsOf wsX5_pointsOf) := goodIn_app (goodIn_of _ (by decide +kernel)) ggX5_get_X5_pointsOf
set_option maxRecDepth 20000 in
theorem ggX5_get_X5_isOnPlane : GoodIn wsX5_get wsX5_isOnPlane := goodIn_r _ [13, 14, 35, 36, 37, 38, 39, 40, 41, 42, 43, 44, 45, 46] (by decide +kernel) (by decide +kernel)
set_option maxRecDepth 20000 in
theorem gX5_get_X5_isOnPlane : GoodIn wsX5_get (wsV RX5 75 RX5 yX5_isOnPlane wsX5_isOnPlane) := goodIn_app (goodIn_of _ (by decide +kernel)) ggX5_get_X5_isOnPlane
set_option maxRecDepth 20000 in
theorem ggX5_get_X5_keyOf : GoodIn wsX5_get wsX5_keyOf := goodIn_r _ [17] (by decide +kernel) (by decide +kernel)
set_option maxRecDepth 20000 in
theorem gX5_get_X5_keyOf : GoodIn wsX5_get (va_wsS RX5 83 yX5_keyOf wsX5_keyOf) := goodIn_app (goodIn_of _ (by decide +kernel)) ggX5_get_X5_keyOf
set_option maxRecDepth 20000 in
theorem ggX5_get_X2_valueOf : GoodIn wsX5_get wsX2_valueOf := goodIn_r _ [22, 23, 24, 25, 26, 21, 27, 28, 29, 30, 31, 32, 33, 34, 51, 52, 53, 54] (by decide +kernel) (by decide +kernel)
set_option maxRecDepth 20000 in
theorem gX5_get_X2_valueOf : GoodIn wsX5_get (wsV RX5 87 RX2 yX2_valueOf wsX2_valueOf) := goodIn_app (goodIn_of _ (by decide +kernel)) ggX5_get_X2_valueOf
theorem dX5_get_0 : decode cX5_get 0 = .ok (.aload_n 0, 1) := by decide +kernel
theorem dX5_get_1 : decode cX5_get 1 = .ok (.getfield 65, 3) := by decide +kernel
theorem dX5_get_4 : decode cX5_get 4 = .ok (.ifCond .ne 6, 3) := by decide +kernel
theorem dX5_get_7 : decode cX5_get 7 = .ok (.bipush (-2), 2) := by decide +kernel
theorem dX5_get_9 : decode cX5_get 9 = .ok (.ireturn, 1) := by decide +kernel
theorem dX5_get_10 : decode cX5_get 10 = .ok (.aload_n 0, 1) := by decide +kernel
theorem dX5_get_11 : decode cX5_get 11 = .ok (.iload_n 1, 1) := by decide +kernel
theorem dX5_get_12 : decode cX5_get 12 = .ok (.invokevirtual 105, 3) := by decide +kernel
theorem dX5_get_15 : decode cX5_get 15 = .ok (.astore 4, 2) := by decide +kernel
theorem dX5_get_17 : decode cX5_get 17 = .ok (.aload 4, 2) := by decide +kernel
theorem dX5_get_19 : decode cX5_get 19 = .ok (.ifnull 12, 3) := by decide +kernel
theorem dX5_get_22 : decode cX5_get 22 = .ok (.aload_n 0, 1) := by decide +kernel
theorem dX5_get_23 : decode cX5_get 23 = .ok (.iload_n 2, 1) := by decide +kernel
theorem dX5_get_24 : decode cX5_get 24 = .ok (.iload_n 3, 1) := by decide +kernel
theorem dX5_get_25 : decode cX5_get 25 = .ok (.invokevirtual 75, 3) := by decide +kernel
theorem dX5_get_28 : decode cX5_get 28 = .ok (.ifCond .ne 5, 3) := by decide +kernel
theorem dX5_get_31 : decode cX5_get 31 = .ok (.iconst (-1), 1) := by decide +kernel
theorem dX5_get_32 : decode cX5_get 32 = .ok (.ireturn, 1) := by decide +kernel
theorem dX5_get_33 : decode cX5_get 33 = .ok (.aload 4, 2) := by decide +kernel
theorem dX5_get_35 : decode cX5_get 35 = .ok (.iload_n 2, 1) := by decide +kernel
theorem dX5_get_36 : decode cX5_get 36 = .ok (.iload_n 3, 1) := by decide +kernel
theorem dX5_get_37 : decode cX5_get 37 = .ok (.invokestatic 83, 3) := by decide +kernel
theorem dX5_get_40 : decode cX5_get 40 = .ok (.invokevirtual 87, 3) := by decide +kernel
theorem dX5_get_43 : decode cX5_get 43 = .ok (.ireturn, 1) := by decide +kernel
set_option maxRecDepth 20000 in
theorem ggX5_window_X5_pointsOf : GoodIn wsX5_window wsX5_pointsOf := goodIn_r _ [10, 11, 12, 13, 35, 36, 37, 38, 39, 40, 41, 42, 43, 44, 45, 46, 51, 52, 53, 54] (by decide +kernel) (by decide +kernel)
set_option maxRecDepth 20000 in
theorem gX5_window_X5_pointsOf : GoodIn wsX5_window (wsV RX5 105 RX5 yX5_pointsOf wsX5_pointsOf) := goodIn_app (goodIn_of _ (by decide +kernel)) ggX5_window_X5_pointsOf
set_option maxRecDepth 20000 in
theorem ggX5_window_X3_clear : GoodIn wsX5_window wsX3_clear := goodIn_r _ [18, 19, 55, 56, 57, 58] (by decide +kernel) (by decide +kernel)
set_option maxRecDepth 20000 in
theorem gX5_window_X3_clear : GoodIn wsX5_window (wsV RX5 109 RX3 yX3_clear wsX3_clear) := goodIn_app (goodIn_of _ (by decide +kernel)) ggX5_window_X3_clear
set_option maxRecDepth 20000 in
theorem ggX5_window_X5_isWithin : GoodIn wsX5_window wsX5_isWithin := goodIn_r _ [22, 23, 24, 9, 25, 26, 27, 28] (by decide +kernel) (by decide +kernel)
set_option maxRecDepth 20000 in
theorem gX5_window_X5_isWithin : GoodIn wsX5_window (va_wsS RX5 119 yX5_isWithin wsX5_isWithin) := goodIn_app (goodIn_of _ (by decide +kernel)) ggX5_window_X5_isWithin
set_option maxRecDepth 20000 in
theorem ggX5_window_X3_add : GoodIn wsX5_window wsX3_add := goodIn_r _ [32, 19, 33, 34, 55, 56, 57, 58] (by decide +kernel) (by decide +kernel)
set_option maxRecDepth 20000 in
theorem gX5_window_X3_add : GoodIn wsX5_window (wsV RX5 126 RX3 yX3_add wsX3_add) := goodIn_app (goodIn_of _ (by decide +kernel)) ggX5_window_X3_add
theorem dX5_window_0 : decode cX5_window 0 = .ok (.aload_n 0, 1) := by decide +kernel
theorem dX5_window_1 : decode cX5_window 1 = .ok (.getfield 65, 3) := by decide +kernel
theorem dX5_window_4 : decode cX5_window 4 = .ok (.ifCond .ne 6, 3) := by decide +kernel
theorem dX5_window_7 : decode cX5_window 7 = .ok (.bipush (-2), 2) := by decide +kernel
theorem dX5_window_9 : decode cX5_window 9 = .ok (.ireturn, 1) := by decide +kernel
theorem dX5_window_10 : decode cX5_window 10 = .ok (.aload_n 0, 1) := by decide +kernel
theorem dX5_window_11 : decode cX5_window 11 = .ok (.iload_n 1, 1) := by decide +kernel
theorem dX5_window_12 : decode cX5_window 12 = .ok (.invokevirtual 105, 3) := by decide +kernel
theorem dX5_window_15 : decode cX5_window 15 = .ok (.astore 6, 2) := by decide +kernel
theorem dX5_window_17 : decode cX5_window 17 = .ok (.aload 6, 2) := by decide +kernel
theorem dX5_window_19 : decode cX5_window 19 = .ok (.ifnonnull 5, 3) := by decide +kernel
theorem dX5_window_22 : decode cX5_window 22 = .ok (.iconst (-1), 1) := by decide +kernel
theorem dX5_window_23 : decode cX5_window 23 = .ok (.ireturn, 1) := by decide +kernel
theorem dX5_window_24 : decode cX5_window 24 = .ok (.aload_n 0, 1) := by decide +kernel
theorem dX5_window_25 : decode cX5_window 25 = .ok (.getfield 61, 3) := by decide +kernel
theorem dX5_window_28 : decode cX5_window 28 = .ok (.invokevirtual 109, 3) := by decide +kernel
theorem dX5_window_31 : decode cX5_window 31 = .ok (.iconst 0, 1) := by decide +kernel
theorem dX5_window_32 : decode cX5_window 32 = .ok (.istore 7, 2) := by decide +kernel
theorem dX5_window_34 : decode cX5_window 34 = .ok (.iconst 0, 1) := by decide +kernel
theorem dX5_window_35 : decode cX5_window 35 = .ok (.istore 8, 2) := by decide +kernel
theorem dX5_window_37 : decode cX5_window 37 = .ok (.iload 8, 2) := by decide +kernel
theorem dX5_window_39 : decode cX5_window 39 = .ok (.aload 6, 2) := by decide +kernel
theorem dX5_window_41 : decode cX5_window 41 = .ok (.getfield 112, 3) := by decide +kernel
theorem dX5_window_44 : decode cX5_window 44 = .ok (.if_icmp .ge 55, 3) := by decide +kernel
theorem dX5_window_47 : decode cX5_window 47 = .ok (.aload 6, 2) := by decide +kernel
theorem dX5_window_49 : decode cX5_window 49 = .ok (.getfield 115, 3) := by decide +kernel
theorem dX5_window_52 : decode cX5_window 52 = .ok (.iload 8, 2) := by decide +kernel
theorem dX5_window_54 : decode cX5_window 54 = .ok (.iaload, 1) := by decide +kernel
theorem dX5_window_55 : decode cX5_window 55 = .ok (.iload_n 2, 1) := by decide +kernel
theorem dX5_window_56 : decode cX5_window 56 = .ok (.iload_n 3, 1) := by decide +kernel
theorem dX5_window_57 : decode cX5_window 57 = .ok (.iload 4, 2) := by decide +kernel
theorem dX5_window_59 : decode cX5_window 59 = .ok (.iload 5, 2) := by decide +kernel
theorem dX5_window_61 : decode cX5_window 61 = .ok (.invokestatic 119, 3) := by decide +kernel
theorem dX5_window_64 : decode cX5_window 64 = .ok (.ifCond .eq 29, 3) := by decide +kernel
theorem dX5_window_67 : decode cX5_window 67 = .ok (.aload_n 0, 1) := by decide +kernel
theorem dX5_window_68 : decode cX5_window 68 = .ok (.getfield 61, 3) := by decide +kernel
theorem dX5_window_71 : decode cX5_window 71 = .ok (.aload 6, 2) := by decide +kernel
theorem dX5_window_73 : decode cX5_window 73 = .ok (.getfield 115, 3) := by decide +kernel
theorem dX5_window_76 : decode cX5_window 76 = .ok (.iload 8, 2) := by decide +kernel
theorem dX5_window_78 : decode cX5_window 78 = .ok (.iaload, 1) := by decide +kernel
theorem dX5_window_79 : decode cX5_window 79 = .ok (.aload 6, 2) := by decide +kernel
theorem dX5_window_81 : decode cX5_window 81 = .ok (.getfield 123, 3) := by decide +kernel
theorem dX5_window_84 : decode cX5_window 84 = .ok (.iload 8, 2) := by decide +kernel
theorem dX5_window_86 : decode cX5_window 86 = .ok (.iaload, 1) := by decide +kernel
theorem dX5_window_87 : decode cX5_window 87 = .ok (.invokevirtual 126, 3) := by decide +kernel
theorem dX5_window_90 : decode cX5_window 90 = .ok (.iinc 7 1, 3) := by decide +kernel
theorem dX5_window_93 : decode cX5_window 93 = .ok (.iinc 8 1, 3) := by decide +kernel
theorem dX5_window_96 : decode cX5_window 96 = .ok (.goto (-59), 3) := by decide +kernel
theorem dX5_window_99 : decode cX5_window 99 = .ok (.iload 7, 2) := by decide +kernel
theorem dX5_window_101 : decode cX5_window 101 = .ok (.ireturn, 1) := by decide +kernel
set_option maxRecDepth 20000 in
theorem ggX5_nearest_X5_pointsOf : GoodIn wsX5_nearest wsX5_pointsOf := goodIn_r _ [11, 12, 13, 14, 49, 50, 51, 52, 53, 54, 55, 56, 57, 58, 59, 60, 69, 70, 71, 72] (by decide +kernel) (by decide +kernel)
set_option maxRecDepth 20000 in
theorem gX5_nearest_X5_pointsOf : GoodIn wsX5_nearest (wsV RX5 105 RX5 yX5_pointsOf wsX5_pointsOf) := goodIn_app (goodIn_of _ (by decide +kernel)) ggX5_nearest_X5_pointsOf
set_option maxRecDepth 20000 in
theorem ggX5_nearest_X5_isPlace : GoodIn wsX5_nearest wsX5_isPlace := goodIn_r _ [17, 18] (by decide +kernel) (by decide +kernel)
set_option maxRecDepth 20000 in
theorem gX5_nearest_X5_isPlace : GoodIn wsX5_nearest (va_wsS RX5 127 yX5_isPlace wsX5_isPlace) := goodIn_app (goodIn_of _ (by decide +kernel)) ggX5_nearest_X5_isPlace
set_option maxRecDepth 20000 in
theorem ggX5_nearest_X3_clear : GoodIn wsX5_nearest wsX3_clear := goodIn_r _ [23, 24, 65, 66, 67, 68] (by decide +kernel) (by decide +kernel)
set_option maxRecDepth 20000 in
theorem gX5_nearest_X3_clear : GoodIn wsX5_nearest (wsV RX5 109 RX3 yX3_clear wsX3_clear) := goodIn_app (goodIn_of _ (by decide +kernel)) ggX5_nearest_X3_clear
set_option maxRecDepth 20000 in
theorem ggX5_nearest_X5_distance : GoodIn wsX5_nearest wsX5_distance := goodIn_r _ [27, 28, 29, 10, 30, 31, 32, 33] (by decide +kernel) (by decide +kernel)
set_option maxRecDepth 20000 in
theorem gX5_nearest_X5_distance : GoodIn wsX5_nearest (va_wsS RX5 131 yX5_distance wsX5_distance) := goodIn_app (goodIn_of _ (by decide +kernel)) ggX5_nearest_X5_distance
set_option maxRecDepth 20000 in
theorem ggX5_nearest_X3_addByDistance : GoodIn wsX5_nearest wsX3_addByDistance := goodIn_r _ [37, 24, 38, 39, 40, 41, 42, 43, 44, 45, 46, 47, 48, 65, 66, 67, 68] (by decide +kernel) (by decide +kernel)
set_option maxRecDepth 20000 in
theorem gX5_nearest_X3_addByDistance : GoodIn wsX5_nearest (wsV RX5 135 RX3 yX3_addByDistance wsX3_addByDistance) := goodIn_app (goodIn_of _ (by decide +kernel)) ggX5_nearest_X3_addByDistance
theorem dX5_nearest_0 : decode cX5_nearest 0 = .ok (.aload_n 0, 1) := by decide +kernel
theorem dX5_nearest_1 : decode cX5_nearest 1 = .ok (.getfield 65, 3) := by decide +kernel
theorem dX5_nearest_4 : decode cX5_nearest 4 = .ok (.ifCond .ne 6, 3) := by decide +kernel
theorem dX5_nearest_7 : decode cX5_nearest 7 = .ok (.bipush (-2), 2) := by decide +kernel
theorem dX5_nearest_9 : decode cX5_nearest 9 = .ok (.ireturn, 1) := by decide +kernel
theorem dX5_nearest_10 : decode cX5_nearest 10 = .ok (.aload_n 0, 1) := by decide +kernel
theorem dX5_nearest_11 : decode cX5_nearest 11 = .ok (.iload_n 1, 1) := by decide +kernel
theorem dX5_nearest_12 : decode cX5_nearest 12 = .ok (.invokevirtual 105, 3) := by decide +kernel
theorem dX5_nearest_15 : decode cX5_nearest 15 = .ok (.astore 5, 2) := by decide +kernel
theorem dX5_nearest_17 : decode cX5_nearest 17 = .ok (.aload 5, 2) := by decide +kernel
theorem dX5_nearest_19 : decode cX5_nearest 19 = .ok (.ifnull 31, 3) := by decide +kernel
theorem dX5_nearest_22 : decode cX5_nearest 22 = .ok (.iload_n 2, 1) := by decide +kernel
theorem dX5_nearest_23 : decode cX5_nearest 23 = .ok (.invokestatic 127, 3) := by decide +kernel
theorem dX5_nearest_26 : decode cX5_nearest 26 = .ok (.ifCond .eq 24, 3) := by decide +kernel
theorem dX5_nearest_29 : decode cX5_nearest 29 = .ok (.iload_n 3, 1) := by decide +kernel
theorem dX5_nearest_30 : decode cX5_nearest 30 = .ok (.invokestatic 127, 3) := by decide +kernel
theorem dX5_nearest_33 : decode cX5_nearest 33 = .ok (.ifCond .eq 17, 3) := by decide +kernel
theorem dX5_nearest_36 : decode cX5_nearest 36 = .ok (.iload 4, 2) := by decide +kernel
theorem dX5_nearest_38 : decode cX5_nearest 38 = .ok (.iconst 1, 1) := by decide +kernel
theorem dX5_nearest_39 : decode cX5_nearest 39 = .ok (.if_icmp .lt 11, 3) := by decide +kernel
theorem dX5_nearest_42 : decode cX5_nearest 42 = .ok (.iload 4, 2) := by decide +kernel
theorem dX5_nearest_44 : decode cX5_nearest 44 = .ok (.sipush 150, 3) := by decide +kernel
theorem dX5_nearest_47 : decode cX5_nearest 47 = .ok (.if_icmp .le 5, 3) := by decide +kernel
theorem dX5_nearest_50 : decode cX5_nearest 50 = .ok (.iconst (-1), 1) := by decide +kernel
theorem dX5_nearest_51 : decode cX5_nearest 51 = .ok (.ireturn, 1) := by decide +kernel
theorem dX5_nearest_52 : decode cX5_nearest 52 = .ok (.aload_n 0, 1) := by decide +kernel
theorem dX5_nearest_53 : decode cX5_nearest 53 = .ok (.getfield 61, 3) := by decide +kernel
theorem dX5_nearest_56 : decode cX5_nearest 56 = .ok (.invokevirtual 109, 3) := by decide +kernel
theorem dX5_nearest_59 : decode cX5_nearest 59 = .ok (.iconst 0, 1) := by decide +kernel
theorem dX5_nearest_60 : decode cX5_nearest 60 = .ok (.istore 6, 2) := by decide +kernel
theorem dX5_nearest_62 : decode cX5_nearest 62 = .ok (.iload 6, 2) := by decide +kernel
theorem dX5_nearest_64 : decode cX5_nearest 64 = .ok (.aload 5, 2) := by decide +kernel
theorem dX5_nearest_66 : decode cX5_nearest 66 = .ok (.getfield 112, 3) := by decide +kernel
theorem dX5_nearest_69 : decode cX5_nearest 69 = .ok (.if_icmp .ge 45, 3) := by decide +kernel
theorem dX5_nearest_72 : decode cX5_nearest 72 = .ok (.aload 5, 2) := by decide +kernel
theorem dX5_nearest_74 : decode cX5_nearest 74 = .ok (.getfield 115, 3) := by decide +kernel
theorem dX5_nearest_77 : decode cX5_nearest 77 = .ok (.iload 6, 2) := by decide +kernel
theorem dX5_nearest_79 : decode cX5_nearest 79 = .ok (.iaload, 1) := by decide +kernel
theorem dX5_nearest_80 : decode cX5_nearest 80 = .ok (.istore 7, 2) := by decide +kernel
theorem dX5_nearest_82 : decode cX5_nearest 82 = .ok (.aload_n 0, 1) := by decide +kernel
theorem dX5_nearest_83 : decode cX5_nearest 83 = .ok (.getfield 61, 3) := by decide +kernel
theorem dX5_nearest_86 : decode cX5_nearest 86 = .ok (.iload 7, 2) := by decide +kernel
theorem dX5_nearest_88 : decode cX5_nearest 88 = .ok (.aload 5, 2) := by decide +kernel
theorem dX5_nearest_90 : decode cX5_nearest 90 = .ok (.getfield 123, 3) := by decide +kernel
theorem dX5_nearest_93 : decode cX5_nearest 93 = .ok (.iload 6, 2) := by decide +kernel
theorem dX5_nearest_95 : decode cX5_nearest 95 = .ok (.iaload, 1) := by decide +kernel
theorem dX5_nearest_96 : decode cX5_nearest 96 = .ok (.iload 7, 2) := by decide +kernel
theorem dX5_nearest_98 : decode cX5_nearest 98 = .ok (.iload_n 2, 1) := by decide +kernel
theorem dX5_nearest_99 : decode cX5_nearest 99 = .ok (.iload_n 3, 1) := by decide +kernel
theorem dX5_nearest_100 : decode cX5_nearest 100 = .ok (.invokestatic 131, 3) := by decide +kernel
theorem dX5_nearest_103 : decode cX5_nearest 103 = .ok (.iload 4, 2) := by decide +kernel
theorem dX5_nearest_105 : decode cX5_nearest 105 = .ok (.invokevirtual 135, 3) := by decide +kernel
theorem dX5_nearest_108 : decode cX5_nearest 108 = .ok (.iinc 6 1, 3) := by decide +kernel
theorem dX5_nearest_111 : decode cX5_nearest 111 = .ok (.goto (-49), 3) := by decide +kernel
theorem dX5_nearest_114 : decode cX5_nearest 114 = .ok (.aload_n 0, 1) := by decide +kernel
theorem dX5_nearest_115 : decode cX5_nearest 115 = .ok (.getfield 61, 3) := by decide +kernel
theorem dX5_nearest_118 : decode cX5_nearest 118 = .ok (.getfield 139, 3) := by decide +kernel
theorem dX5_nearest_121 : decode cX5_nearest 121 = .ok (.ireturn, 1) := by decide +kernel
set_option maxRecDepth 20000 in
theorem ggX5_differs_X3_clear : GoodIn wsX5_differs wsX3_clear := goodIn_r _ [17, 18, 53, 54, 55, 56] (by decide +kernel) (by decide +kernel)
set_option maxRecDepth 20000 in
theorem gX5_differs_X3_clear : GoodIn wsX5_differs (wsV RX5 109 RX3 yX3_clear wsX3_clear) := goodIn_app (goodIn_of _ (by decide +kernel)) ggX5_differs_X3_clear
set_option maxRecDepth 20000 in
theorem ggX5_differs_X2_keyAt : GoodIn wsX5_differs wsX2_keyAt := goodIn_r _ [23, 24, 25, 26, 49, 50, 51, 52] (by decide +kernel) (by decide +kernel)
set_option maxRecDepth 20000 in
theorem gX5_differs_X2_keyAt : GoodIn wsX5_differs (wsV RX5 143 RX2 yX2_keyAt wsX2_keyAt) := goodIn_app (goodIn_of _ (by decide +kernel)) ggX5_differs_X2_keyAt
set_option maxRecDepth 20000 in
theorem ggX5_differs_X3_add : GoodIn wsX5_differs wsX3_add := goodIn_r _ [30, 18, 31, 32, 53, 54, 55, 56] (by decide +kernel) (by decide +kernel)
set_option maxRecDepth 20000 in
theorem gX5_differs_X3_add : GoodIn wsX5_differs (wsV RX5 126 RX3 yX3_add wsX3_add) := goodIn_app (goodIn_of _ (by decide +kernel)) ggX5_differs_X3_add
theorem dX5_differs_0 : decode cX5_differs 0 = .ok (.aload_n 0, 1) := by decide +kernel
theorem dX5_differs_1 : decode cX5_differs 1 = .ok (.getfield 65, 3) := by decide +kernel
theorem dX5_differs_4 : decode cX5_differs 4 = .ok (.ifCond .ne 6, 3) := by decide +kernel
theorem dX5_differs_7 : decode cX5_differs 7 = .ok (.bipush (-2), 2) := by decide +kernel
theorem dX5_differs_9 : decode cX5_differs 9 = .ok (.ireturn, 1) := by decide +kernel
theorem dX5_differs_10 : decode cX5_differs 10 = .ok (.aload_n 0, 1) := by decide +kernel
theorem dX5_differs_11 : decode cX5_differs 11 = .ok (.getfield 31, 3) := by decide +kernel
theorem dX5_differs_14 : decode cX5_differs 14 = .ok (.getfield 140, 3) := by decide +kernel
theorem dX5_differs_17 : decode cX5_differs 17 = .ok (.astore_n 1, 1) := by decide +kernel
theorem dX5_differs_18 : decode cX5_differs 18 = .ok (.aload_n 0, 1) := by decide +kernel
theorem dX5_differs_19 : decode cX5_differs 19 = .ok (.getfield 61, 3) := by decide +kernel
theorem dX5_differs_22 : decode cX5_differs 22 = .ok (.invokevirtual 109, 3) := by decide +kernel
theorem dX5_differs_25 : decode cX5_differs 25 = .ok (.iconst 0, 1) := by decide +kernel
theorem dX5_differs_26 : decode cX5_differs 26 = .ok (.istore_n 2, 1) := by decide +kernel
theorem dX5_differs_27 : decode cX5_differs 27 = .ok (.iconst 0, 1) := by decide +kernel
theorem dX5_differs_28 : decode cX5_differs 28 = .ok (.istore_n 3, 1) := by decide +kernel
theorem dX5_differs_29 : decode cX5_differs 29 = .ok (.iconst 0, 1) := by decide +kernel
theorem dX5_differs_30 : decode cX5_differs 30 = .ok (.istore 4, 2) := by decide +kernel
theorem dX5_differs_32 : decode cX5_differs 32 = .ok (.aload_n 0, 1) := by decide +kernel
theorem dX5_differs_33 : decode cX5_differs 33 = .ok (.getfield 35, 3) := by decide +kernel
theorem dX5_differs_36 : decode cX5_differs 36 = .ok (.getfield 112, 3) := by decide +kernel
theorem dX5_differs_39 : decode cX5_differs 39 = .ok (.aload_n 1, 1) := by decide +kernel
theorem dX5_differs_40 : decode cX5_differs 40 = .ok (.getfield 112, 3) := by decide +kernel
theorem dX5_differs_43 : decode cX5_differs 43 = .ok (.iadd, 1) := by decide +kernel
theorem dX5_differs_44 : decode cX5_differs 44 = .ok (.istore 5, 2) := by decide +kernel
theorem dX5_differs_46 : decode cX5_differs 46 = .ok (.iconst 0, 1) := by decide +kernel
theorem dX5_differs_47 : decode cX5_differs 47 = .ok (.istore 6, 2) := by decide +kernel
theorem dX5_differs_49 : decode cX5_differs 49 = .ok (.iload 6, 2) := by decide +kernel
theorem dX5_differs_51 : decode cX5_differs 51 = .ok (.iload 5, 2) := by decide +kernel
theorem dX5_differs_53 : decode cX5_differs 53 = .ok (.if_icmp .ge 115, 3) := by decide +kernel
theorem dX5_differs_56 : decode cX5_differs 56 = .ok (.aload_n 0, 1) := by decide +kernel
theorem dX5_differs_57 : decode cX5_differs 57 = .ok (.getfield 35, 3) := by decide +kernel
theorem dX5_differs_60 : decode cX5_differs 60 = .ok (.iload_n 3, 1) := by decide +kernel
theorem dX5_differs_61 : decode cX5_differs 61 = .ok (.invokevirtual 143, 3) := by decide +kernel
theorem dX5_differs_64 : decode cX5_differs 64 = .ok (.aload_n 1, 1) := by decide +kernel
theorem dX5_differs_65 : decode cX5_differs 65 = .ok (.iload 4, 2) := by decide +kernel
theorem dX5_differs_67 : decode cX5_differs 67 = .ok (.invokevirtual 143, 3) := by decide +kernel
theorem dX5_differs_70 : decode cX5_differs 70 = .ok (.invokestatic 146, 3) := by decide +kernel
theorem dX5_differs_73 : decode cX5_differs 73 = .ok (.istore 7, 2) := by decide +kernel
theorem dX5_differs_75 : decode cX5_differs 75 = .ok (.iload 7, 2) := by decide +kernel
theorem dX5_differs_77 : decode cX5_differs 77 = .ok (.ldc 151, 2) := by decide +kernel
theorem dX5_differs_79 : decode cX5_differs 79 = .ok (.if_icmp .ne 6, 3) := by decide +kernel
theorem dX5_differs_82 : decode cX5_differs 82 = .ok (.goto 86, 3) := by decide +kernel
theorem dX5_differs_85 : decode cX5_differs 85 = .ok (.iconst (-1), 1) := by decide +kernel
theorem dX5_differs_86 : decode cX5_differs 86 = .ok (.istore 8, 2) := by decide +kernel
theorem dX5_differs_88 : decode cX5_differs 88 = .ok (.iconst (-1), 1) := by decide +kernel
theorem dX5_differs_89 : decode cX5_differs 89 = .ok (.istore 9, 2) := by decide +kernel
theorem dX5_differs_91 : decode cX5_differs 91 = .ok (.aload_n 0, 1) := by decide +kernel
theorem dX5_differs_92 : decode cX5_differs 92 = .ok (.getfield 35, 3) := by decide +kernel
theorem dX5_differs_95 : decode cX5_differs 95 = .ok (.iload_n 3, 1) := by decide +kernel
theorem dX5_differs_96 : decode cX5_differs 96 = .ok (.invokevirtual 143, 3) := by decide +kernel
theorem dX5_differs_99 : decode cX5_differs 99 = .ok (.iload 7, 2) := by decide +kernel
theorem dX5_differs_101 : decode cX5_differs 101 = .ok (.if_icmp .ne 17, 3) := by decide +kernel
theorem dX5_differs_104 : decode cX5_differs 104 = .ok (.aload_n 0, 1) := by decide +kernel
theorem dX5_differs_105 : decode cX5_differs 105 = .ok (.getfield 35, 3) := by decide +kernel
theorem dX5_differs_108 : decode cX5_differs 108 = .ok (.getfield 123, 3) := by decide +kernel
theorem dX5_differs_111 : decode cX5_differs 111 = .ok (.iload_n 3, 1) := by decide +kernel
theorem dX5_differs_112 : decode cX5_differs 112 = .ok (.iaload, 1) := by decide +kernel
theorem dX5_differs_113 : decode cX5_differs 113 = .ok (.istore 8, 2) := by decide +kernel
theorem dX5_differs_115 : decode cX5_differs 115 = .ok (.iinc 3 1, 3) := by decide +kernel
theorem dX5_differs_118 : decode cX5_differs 118 = .ok (.aload_n 1, 1) := by decide +kernel
theorem dX5_differs_119 : decode cX5_differs 119 = .ok (.iload 4, 2) := by decide +kernel
theorem dX5_differs_121 : decode cX5_differs 121 = .ok (.invokevirtual 143, 3) := by decide +kernel
theorem dX5_differs_124 : decode cX5_differs 124 = .ok (.iload 7, 2) := by decide +kernel
theorem dX5_differs_126 : decode cX5_differs 126 = .ok (.if_icmp .ne 15, 3) := by decide +kernel
theorem dX5_differs_129 : decode cX5_differs 129 = .ok (.aload_n 1, 1) := by decide +kernel
theorem dX5_differs_130 : decode cX5_differs 130 = .ok (.getfield 123, 3) := by decide +kernel
theorem dX5_differs_133 : decode cX5_differs 133 = .ok (.iload 4, 2) := by decide +kernel
theorem dX5_differs_135 : decode cX5_differs 135 = .ok (.iaload, 1) := by decide +kernel
theorem dX5_differs_136 : decode cX5_differs 136 = .ok (.istore 9, 2) := by decide +kernel
theorem dX5_differs_138 : decode cX5_differs 138 = .ok (.iinc 4 1, 3) := by decide +kernel
theorem dX5_differs_141 : decode cX5_differs 141 = .ok (.iload 8, 2) := by decide +kernel
theorem dX5_differs_143 : decode cX5_differs 143 = .ok (.iload 9, 2) := by decide +kernel
theorem dX5_differs_145 : decode cX5_differs 145 = .ok (.if_icmp .eq 17, 3) := by decide +kernel
theorem dX5_differs_148 : decode cX5_differs 148 = .ok (.aload_n 0, 1) := by decide +kernel
theorem dX5_differs_149 : decode cX5_differs 149 = .ok (.getfield 61, 3) := by decide +kernel
theorem dX5_differs_152 : decode cX5_differs 152 = .ok (.iload 7, 2) := by decide +kernel
theorem dX5_differs_154 : decode cX5_differs 154 = .ok (.iload 8, 2) := by decide +kernel
theorem dX5_differs_156 : decode cX5_differs 156 = .ok (.invokevirtual 126, 3) := by decide +kernel
theorem dX5_differs_159 : decode cX5_differs 159 = .ok (.iinc 2 1, 3) := by decide +kernel
theorem dX5_differs_162 : decode cX5_differs 162 = .ok (.iinc 6 1, 3) := by decide +kernel
theorem dX5_differs_165 : decode cX5_differs 165 = .ok (.goto (-116), 3) := by decide +kernel
theorem dX5_differs_168 : decode cX5_differs 168 = .ok (.iload_n 2, 1) := by decide +kernel
theorem dX5_differs_169 : decode cX5_differs 169 = .ok (.ireturn, 1) := by decide +kernel
set_option maxRecDepth 20000 in
theorem ggX5_result_X5_xOf : GoodIn wsX5_result wsX5_xOf := goodIn_r _ [8] (by decide +kernel) (by decide +kernel)
set_option maxRecDepth 20000 in
theorem gX5_result_X5_xOf : GoodIn wsX5_result (va_wsS RX5 153 yX5_xOf wsX5_xOf) := goodIn_app (goodIn_of _ (by decide +kernel)) ggX5_result_X5_xOf
set_option maxRecDepth 20000 in
theorem ggX5_result_X5_yOf : GoodIn wsX5_result wsX5_yOf := goodIn_r _ [11] (by decide +kernel) (by decide +kernel)
set_option maxRecDepth 20000 in
theorem gX5_result_X5_yOf : GoodIn wsX5_result (va_wsS RX5 156 yX5_yOf wsX5_yOf) := goodIn_app (goodIn_of _ (by decide +kernel)) ggX5_result_X5_yOf
theorem dX5_result_0 : decode cX5_result 0 = .ok (.iload_n 1, 1) := by decide +kernel
theorem dX5_result_1 : decode cX5_result 1 = .ok (.ifCond .lt 14, 3) := by decide +kernel
theorem dX5_result_4 : decode cX5_result 4 = .ok (.iload_n 1, 1) := by decide +kernel
theorem dX5_result_5 : decode cX5_result 5 = .ok (.aload_n 0, 1) := by decide +kernel
theorem dX5_result_6 : decode cX5_result 6 = .ok (.getfield 61, 3) := by decide +kernel
theorem dX5_result_9 : decode cX5_result 9 = .ok (.getfield 139, 3) := by decide +kernel
theorem dX5_result_12 : decode cX5_result 12 = .ok (.if_icmp .lt 5, 3) := by decide +kernel
theorem dX5_result_15 : decode cX5_result 15 = .ok (.iconst (-1), 1) := by decide +kernel
theorem dX5_result_16 : decode cX5_result 16 = .ok (.ireturn, 1) := by decide +kernel
theorem dX5_result_17 : decode cX5_result 17 = .ok (.iload_n 2, 1) := by decide +kernel
theorem dX5_result_18 : decode cX5_result 18 = .ok (.tableswitch 62 0 2 #[26, 39, 52], 26) := by decide +kernel
theorem dX5_result_44 : decode cX5_result 44 = .ok (.aload_n 0, 1) := by decide +kernel
theorem dX5_result_45 : decode cX5_result 45 = .ok (.getfield 61, 3) := by decide +kernel
theorem dX5_result_48 : decode cX5_result 48 = .ok (.getfield 152, 3) := by decide +kernel
theorem dX5_result_51 : decode cX5_result 51 = .ok (.iload_n 1, 1) := by decide +kernel
theorem dX5_result_52 : decode cX5_result 52 = .ok (.iaload, 1) := by decide +kernel
theorem dX5_result_53 : decode cX5_result 53 = .ok (.invokestatic 153, 3) := by decide +kernel
theorem dX5_result_56 : decode cX5_result 56 = .ok (.ireturn, 1) := by decide +kernel
theorem dX5_result_57 : decode cX5_result 57 = .ok (.aload_n 0, 1) := by decide +kernel
theorem dX5_result_58 : decode cX5_result 58 = .ok (.getfield 61, 3) := by decide +kernel
theorem dX5_result_61 : decode cX5_result 61 = .ok (.getfield 152, 3) := by decide +kernel
theorem dX5_result_64 : decode cX5_result 64 = .ok (.iload_n 1, 1) := by decide +kernel
theorem dX5_result_65 : decode cX5_result 65 = .ok (.iaload, 1) := by decide +kernel
theorem dX5_result_66 : decode cX5_result 66 = .ok (.invokestatic 156, 3) := by decide +kernel
theorem dX5_result_69 : decode cX5_result 69 = .ok (.ireturn, 1) := by decide +kernel
theorem dX5_result_70 : decode cX5_result 70 = .ok (.aload_n 0, 1) := by decide +kernel
theorem dX5_result_71 : decode cX5_result 71 = .ok (.getfield 61, 3) := by decide +kernel
theorem dX5_result_74 : decode cX5_result 74 = .ok (.getfield 159, 3) := by decide +kernel
theorem dX5_result_77 : decode cX5_result 77 = .ok (.iload_n 1, 1) := by decide +kernel
theorem dX5_result_78 : decode cX5_result 78 = .ok (.iaload, 1) := by decide +kernel
theorem dX5_result_79 : decode cX5_result 79 = .ok (.ireturn, 1) := by decide +kernel
theorem dX5_result_80 : decode cX5_result 80 = .ok (.iconst (-1), 1) := by decide +kernel
theorem dX5_result_81 : decode cX5_result 81 = .ok (.ireturn, 1) := by decide +kernel
theorem dX5_size_0 : decode cX5_size 0 = .ok (.aload_n 0, 1) := by decide +kernel
theorem dX5_size_1 : decode cX5_size 1 = .ok (.getfield 61, 3) := by decide +kernel
theorem dX5_size_4 : decode cX5_size 4 = .ok (.getfield 139, 3) := by decide +kernel
theorem dX5_size_7 : decode cX5_size 7 = .ok (.ireturn, 1) := by decide +kernel
set_option maxRecDepth 20000 in
theorem ggX5_sum_X5_pointsOf : GoodIn wsX5_sum wsX5_pointsOf := goodIn_r _ [10, 11, 12, 13, 23, 24, 25, 26, 27, 28, 29, 30, 31, 32, 33, 34, 39, 40, 41, 42] (by decide +kernel) (by decide +kernel)
set_option maxRecDepth 20000 in
theorem gX5_sum_X5_pointsOf : GoodIn wsX5_sum (wsV RX5 105 RX5 yX5_pointsOf wsX5_pointsOf) := goodIn_app (goodIn_of _ (by decide +kernel)) ggX5_sum_X5_pointsOf
set_option maxRecDepth 20000 in
theorem ggX5_sum_X5_isWithin : GoodIn wsX5_sum wsX5_isWithin := goodIn_r _ [16, 17, 18, 9, 19, 20, 21, 22] (by decide +kernel) (by decide +kernel)
set_option maxRecDepth 20000 in
theorem gX5_sum_X5_isWithin : GoodIn wsX5_sum (va_wsS RX5 119 yX5_isWithin wsX5_isWithin) := goodIn_app (goodIn_of _ (by decide +kernel)) ggX5_sum_X5_isWithin
theorem dX5_sum_0 : decode cX5_sum 0 = .ok (.aload_n 0, 1) := by decide +kernel
theorem dX5_sum_1 : decode cX5_sum 1 = .ok (.getfield 65, 3) := by decide +kernel
theorem dX5_sum_4 : decode cX5_sum 4 = .ok (.ifCond .ne 7, 3) := by decide +kernel
theorem dX5_sum_7 : decode cX5_sum 7 = .ok (.ldc2_w 160, 3) := by decide +kernel
theorem dX5_sum_10 : decode cX5_sum 10 = .ok (.lreturn, 1) := by decide +kernel
theorem dX5_sum_11 : decode cX5_sum 11 = .ok (.aload_n 0, 1) := by decide +kernel
theorem dX5_sum_12 : decode cX5_sum 12 = .ok (.iload_n 1, 1) := by decide +kernel
theorem dX5_sum_13 : decode cX5_sum 13 = .ok (.invokevirtual 105, 3) := by decide +kernel
theorem dX5_sum_16 : decode cX5_sum 16 = .ok (.astore 6, 2) := by decide +kernel
theorem dX5_sum_18 : decode cX5_sum 18 = .ok (.aload 6, 2) := by decide +kernel
theorem dX5_sum_20 : decode cX5_sum 20 = .ok (.ifnonnull 5, 3) := by decide +kernel
theorem dX5_sum_23 : decode cX5_sum 23 = .ok (.lconst 0, 1) := by decide +kernel
theorem dX5_sum_24 : decode cX5_sum 24 = .ok (.lreturn, 1) := by decide +kernel
theorem dX5_sum_25 : decode cX5_sum 25 = .ok (.lconst 0, 1) := by decide +kernel
theorem dX5_sum_26 : decode cX5_sum 26 = .ok (.lstore 7, 2) := by decide +kernel
theorem dX5_sum_28 : decode cX5_sum 28 = .ok (.iconst 0, 1) := by decide +kernel
theorem dX5_sum_29 : decode cX5_sum 29 = .ok (.istore 9, 2) := by decide +kernel
theorem dX5_sum_31 : decode cX5_sum 31 = .ok (.iload 9, 2) := by decide +kernel
theorem dX5_sum_33 : decode cX5_sum 33 = .ok (.aload 6, 2) := by decide +kernel
theorem dX5_sum_35 : decode cX5_sum 35 = .ok (.getfield 112, 3) := by decide +kernel
theorem dX5_sum_38 : decode cX5_sum 38 = .ok (.if_icmp .ge 43, 3) := by decide +kernel
theorem dX5_sum_41 : decode cX5_sum 41 = .ok (.aload 6, 2) := by decide +kernel
theorem dX5_sum_43 : decode cX5_sum 43 = .ok (.getfield 115, 3) := by decide +kernel
theorem dX5_sum_46 : decode cX5_sum 46 = .ok (.iload 9, 2) := by decide +kernel
theorem dX5_sum_48 : decode cX5_sum 48 = .ok (.iaload, 1) := by decide +kernel
theorem dX5_sum_49 : decode cX5_sum 49 = .ok (.iload_n 2, 1) := by decide +kernel
theorem dX5_sum_50 : decode cX5_sum 50 = .ok (.iload_n 3, 1) := by decide +kernel
theorem dX5_sum_51 : decode cX5_sum 51 = .ok (.iload 4, 2) := by decide +kernel
theorem dX5_sum_53 : decode cX5_sum 53 = .ok (.iload 5, 2) := by decide +kernel
theorem dX5_sum_55 : decode cX5_sum 55 = .ok (.invokestatic 119, 3) := by decide +kernel
theorem dX5_sum_58 : decode cX5_sum 58 = .ok (.ifCond .eq 17, 3) := by decide +kernel
theorem dX5_sum_61 : decode cX5_sum 61 = .ok (.lload 7, 2) := by decide +kernel
theorem dX5_sum_63 : decode cX5_sum 63 = .ok (.aload 6, 2) := by decide +kernel
theorem dX5_sum_65 : decode cX5_sum 65 = .ok (.getfield 123, 3) := by decide +kernel
theorem dX5_sum_68 : decode cX5_sum 68 = .ok (.iload 9, 2) := by decide +kernel
theorem dX5_sum_70 : decode cX5_sum 70 = .ok (.iaload, 1) := by decide +kernel
theorem dX5_sum_71 : decode cX5_sum 71 = .ok (.i2l, 1) := by decide +kernel
theorem dX5_sum_72 : decode cX5_sum 72 = .ok (.ladd, 1) := by decide +kernel
theorem dX5_sum_73 : decode cX5_sum 73 = .ok (.lstore 7, 2) := by decide +kernel
theorem dX5_sum_75 : decode cX5_sum 75 = .ok (.iinc 9 1, 3) := by decide +kernel
theorem dX5_sum_78 : decode cX5_sum 78 = .ok (.goto (-47), 3) := by decide +kernel
theorem dX5_sum_81 : decode cX5_sum 81 = .ok (.lload 7, 2) := by decide +kernel
theorem dX5_sum_83 : decode cX5_sum 83 = .ok (.lreturn, 1) := by decide +kernel
set_option maxRecDepth 20000 in
theorem ggX5_commit_X5_writeChanges : GoodIn wsX5_commit wsX5_writeChanges := goodIn_r _ [8, 9, 10, 2, 11, 3, 12, 13, 14, 15, 16, 17, 18, 19, 20, 21, 22, 23, 24, 25, 26, 27, 28, 7, 29, 1, 30, 31, 32, 33, 34, 35, 36, 37, 38, 39, 40, 41, 42, 43, 44, 45, 46, 47, 48, 49, 50, 51, 52, 53, 54, 55, 56, 57, 58, 59, 60, 61, 62, 63, 64, 65, 66, 67, 68, 69, 70, 71, 72, 73, 74, 75, 76, 77, 78, 79, 80, 81, 82, 83, 84, 85, 86, 87, 88, 89, 90, 91, 92, 93, 94, 95, 96, 97, 98, 99, 100, 101, 102, 103, 104, 105, 106, 107, 108, 109, 110, 111, 112, 113, 114, 115, 116, 117, 118, 119, 120] (by decide +kernel) (by decide +kernel)
set_option maxRecDepth 20000 in
theorem gX5_commit_X5_writeChanges : GoodIn wsX5_commit (wsV RX5 163 RX5 yX5_writeChanges wsX5_writeChanges) := goodIn_app (goodIn_of _ (by decide +kernel)) ggX5_commit_X5_writeChanges
set_option maxRecDepth 20000 in
theorem ggX5_commit_X0_clear : GoodIn wsX5_commit wsX0_clear := goodIn_r _ [43, 44, 106, 107, 108] (by decide +kernel) (by decide +kernel)
set_option maxRecDepth 20000 in
theorem gX5_commit_X0_clear : GoodIn wsX5_commit (wsV RX5 166 RX0 yX0_clear wsX0_clear) := goodIn_app (goodIn_of _ (by decide +kernel)) ggX5_commit_X0_clear
theorem dX5_commit_0 : decode cX5_commit 0 = .ok (.aload_n 0, 1) := by decide +kernel
theorem dX5_commit_1 : decode cX5_commit 1 = .ok (.getfield 65, 3) := by decide +kernel
theorem dX5_commit_4 : decode cX5_commit 4 = .ok (.ifCond .ne 6, 3) := by decide +kernel
theorem dX5_commit_7 : decode cX5_commit 7 = .ok (.bipush (-2), 2) := by decide +kernel
theorem dX5_commit_9 : decode cX5_commit 9 = .ok (.ireturn, 1) := by decide +kernel
theorem dX5_commit_10 : decode cX5_commit 10 = .ok (.aload_n 0, 1) := by decide +kernel
theorem dX5_commit_11 : decode cX5_commit 11 = .ok (.getfield 54, 3) := by decide +kernel
theorem dX5_commit_14 : decode cX5_commit 14 = .ok (.getfield 162, 3) := by decide +kernel
theorem dX5_commit_17 : decode cX5_commit 17 = .ok (.istore_n 1, 1) := by decide +kernel
theorem dX5_commit_18 : decode cX5_commit 18 = .ok (.iload_n 1, 1) := by decide +kernel
theorem dX5_commit_19 : decode cX5_commit 19 = .ok (.ifCond .le 13, 3) := by decide +kernel
theorem dX5_commit_22 : decode cX5_commit 22 = .ok (.aload_n 0, 1) := by decide +kernel
theorem dX5_commit_23 : decode cX5_commit 23 = .ok (.invokevirtual 163, 3) := by decide +kernel
theorem dX5_commit_26 : decode cX5_commit 26 = .ok (.ifCond .ne 6, 3) := by decide +kernel
theorem dX5_commit_29 : decode cX5_commit 29 = .ok (.bipush (-2), 2) := by decide +kernel
theorem dX5_commit_31 : decode cX5_commit 31 = .ok (.ireturn, 1) := by decide +kernel
theorem dX5_commit_32 : decode cX5_commit 32 = .ok (.aload_n 0, 1) := by decide +kernel
theorem dX5_commit_33 : decode cX5_commit 33 = .ok (.getfield 54, 3) := by decide +kernel
theorem dX5_commit_36 : decode cX5_commit 36 = .ok (.invokevirtual 166, 3) := by decide +kernel
theorem dX5_commit_39 : decode cX5_commit 39 = .ok (.iload_n 1, 1) := by decide +kernel
theorem dX5_commit_40 : decode cX5_commit 40 = .ok (.ireturn, 1) := by decide +kernel
set_option maxRecDepth 20000 in
theorem ggX5_abort_X2_copyFrom : GoodIn wsX5_abort wsX2_copyFrom := goodIn_r _ [11, 12, 13, 14, 15, 16, 17, 18, 19, 45, 46, 47, 48] (by decide +kernel) (by decide +kernel)
set_option maxRecDepth 20000 in
theorem gX5_abort_X2_copyFrom : GoodIn wsX5_abort (wsV RX5 167 RX2 yX2_copyFrom wsX2_copyFrom) := goodIn_app (goodIn_of _ (by decide +kernel)) ggX5_abort_X2_copyFrom
set_option maxRecDepth 20000 in
theorem ggX5_abort_X0_clear : GoodIn wsX5_abort wsX0_clear := goodIn_r _ [24, 25, 38, 39, 40] (by decide +kernel) (by decide +kernel)
set_option maxRecDepth 20000 in
theorem gX5_abort_X0_clear : GoodIn wsX5_abort (wsV RX5 166 RX0 yX0_clear wsX0_clear) := goodIn_app (goodIn_of _ (by decide +kernel)) ggX5_abort_X0_clear
theorem dX5_abort_0 : decode cX5_abort 0 = .ok (.aload_n 0, 1) := by decide +kernel
theorem dX5_abort_1 : decode cX5_abort 1 = .ok (.getfield 65, 3) := by decide +kernel
theorem dX5_abort_4 : decode cX5_abort 4 = .ok (.ifCond .ne 6, 3) := by decide +kernel
theorem dX5_abort_7 : decode cX5_abort 7 = .ok (.bipush (-2), 2) := by decide +kernel
theorem dX5_abort_9 : decode cX5_abort 9 = .ok (.ireturn, 1) := by decide +kernel
theorem dX5_abort_10 : decode cX5_abort 10 = .ok (.aload_n 0, 1) := by decide +kernel
theorem dX5_abort_11 : decode cX5_abort 11 = .ok (.getfield 54, 3) := by decide +kernel
theorem dX5_abort_14 : decode cX5_abort 14 = .ok (.getfield 162, 3) := by decide +kernel
theorem dX5_abort_17 : decode cX5_abort 17 = .ok (.istore_n 1, 1) := by decide +kernel
theorem dX5_abort_18 : decode cX5_abort 18 = .ok (.aload_n 0, 1) := by decide +kernel
theorem dX5_abort_19 : decode cX5_abort 19 = .ok (.getfield 35, 3) := by decide +kernel
theorem dX5_abort_22 : decode cX5_abort 22 = .ok (.aload_n 0, 1) := by decide +kernel
theorem dX5_abort_23 : decode cX5_abort 23 = .ok (.getfield 31, 3) := by decide +kernel
theorem dX5_abort_26 : decode cX5_abort 26 = .ok (.getfield 140, 3) := by decide +kernel
theorem dX5_abort_29 : decode cX5_abort 29 = .ok (.invokevirtual 167, 3) := by decide +kernel
theorem dX5_abort_32 : decode cX5_abort 32 = .ok (.aload_n 0, 1) := by decide +kernel
theorem dX5_abort_33 : decode cX5_abort 33 = .ok (.getfield 54, 3) := by decide +kernel
theorem dX5_abort_36 : decode cX5_abort 36 = .ok (.invokevirtual 166, 3) := by decide +kernel
theorem dX5_abort_39 : decode cX5_abort 39 = .ok (.iload_n 1, 1) := by decide +kernel
theorem dX5_abort_40 : decode cX5_abort 40 = .ok (.ireturn, 1) := by decide +kernel
set_option maxRecDepth 20000 in
theorem ggX5_format_X0_clear : GoodIn wsX5_format wsX0_clear := goodIn_r _ [8, 9, 116, 117, 118] (by decide +kernel) (by decide +kernel)
set_option maxRecDepth 20000 in
theorem gX5_format_X0_clear : GoodIn wsX5_format (wsV RX5 166 RX0 yX0_clear wsX0_clear) := goodIn_app (goodIn_of _ (by decide +kernel)) ggX5_format_X0_clear
set_option maxRecDepth 20000 in
theorem ggX5_format_X0_add : GoodIn wsX5_format wsX0_add := goodIn_r _ [13, 14, 9, 15, 16, 17, 18, 7, 19, 116, 117, 118] (by decide +kernel) (by decide +kernel)
set_option maxRecDepth 20000 in
theorem gX5_format_X0_add : GoodIn wsX5_format (wsV RX5 98 RX0 yX0_add wsX0_add) := goodIn_app (goodIn_of _ (by decide +kernel)) ggX5_format_X0_add
set_option maxRecDepth 20000 in
theorem ggX5_format_X5_writeChanges : GoodIn wsX5_format wsX5_writeChanges := goodIn_r _ [24, 25, 26, 2, 27, 28, 29, 30, 31, 32, 33, 34, 35, 36, 37, 38, 39, 40, 41, 42, 43, 44, 45, 23, 46, 1, 3, 47, 48, 49, 50, 51, 52, 53, 54, 4, 5, 6, 7, 8, 9, 55, 56, 57, 58, 59, 60, 61, 62, 63, 64, 65, 66, 67, 68, 69, 70, 71, 72, 73, 74, 75, 76, 77, 78, 79, 80, 81, 82, 83, 84, 85, 86, 87, 88, 89, 90, 91, 92, 93, 94, 95, 96, 97, 98, 99, 100, 101, 102, 103, 104, 105, 106, 107, 108, 109, 110, 111, 112, 113, 114, 115, 116, 117, 118, 119, 120, 121, 122, 123, 124, 125, 126, 127, 128, 129, 130] (by decide +kernel) (by decide +kernel)
set_option maxRecDepth 20000 in
theorem gX5_format_X5_writeChanges : GoodIn wsX5_format (wsV RX5 163 RX5 yX5_writeChanges wsX5_writeChanges) := goodIn_app (goodIn_of _ (by decide +kernel)) ggX5_format_X5_writeChanges
set_option maxRecDepth 20000 in
theorem ggX5_format_X2_clear : GoodIn wsX5_format wsX2_clear := goodIn_r _ [52, 53, 54, 123, 124, 125, 126] (by decide +kernel) (by decide +kernel)
set_option maxRecDepth 20000 in
theorem gX5_format_X2_clear : GoodIn wsX5_format (wsV RX5 170 RX2 yX2_clear wsX2_clear) := goodIn_app (goodIn_of _ (by decide +kernel)) ggX5_format_X2_clear
theorem dX5_format_0 : decode cX5_format 0 = .ok (.aload_n 0, 1) := by decide +kernel
theorem dX5_format_1 : decode cX5_format 1 = .ok (.getfield 65, 3) := by decide +kernel
theorem dX5_format_4 : decode cX5_format 4 = .ok (.ifCond .ne 6, 3) := by decide +kernel
theorem dX5_format_7 : decode cX5_format 7 = .ok (.bipush (-2), 2) := by decide +kernel
theorem dX5_format_9 : decode cX5_format 9 = .ok (.ireturn, 1) := by decide +kernel
theorem dX5_format_10 : decode cX5_format 10 = .ok (.aload_n 0, 1) := by decide +kernel
theorem dX5_format_11 : decode cX5_format 11 = .ok (.getfield 54, 3) := by decide +kernel
theorem dX5_format_14 : decode cX5_format 14 = .ok (.invokevirtual 166, 3) := by decide +kernel
theorem dX5_format_17 : decode cX5_format 17 = .ok (.aload_n 0, 1) := by decide +kernel
theorem dX5_format_18 : decode cX5_format 18 = .ok (.getfield 54, 3) := by decide +kernel
theorem dX5_format_21 : decode cX5_format 21 = .ok (.iconst (-1), 1) := by decide +kernel
theorem dX5_format_22 : decode cX5_format 22 = .ok (.iconst (-1), 1) := by decide +kernel
theorem dX5_format_23 : decode cX5_format 23 = .ok (.invokevirtual 98, 3) := by decide +kernel
theorem dX5_format_26 : decode cX5_format 26 = .ok (.aload_n 0, 1) := by decide +kernel
theorem dX5_format_27 : decode cX5_format 27 = .ok (.invokevirtual 163, 3) := by decide +kernel
theorem dX5_format_30 : decode cX5_format 30 = .ok (.ifCond .ne 6, 3) := by decide +kernel
theorem dX5_format_33 : decode cX5_format 33 = .ok (.bipush (-2), 2) := by decide +kernel
theorem dX5_format_35 : decode cX5_format 35 = .ok (.ireturn, 1) := by decide +kernel
theorem dX5_format_36 : decode cX5_format 36 = .ok (.aload_n 0, 1) := by decide +kernel
theorem dX5_format_37 : decode cX5_format 37 = .ok (.getfield 54, 3) := by decide +kernel
theorem dX5_format_40 : decode cX5_format 40 = .ok (.invokevirtual 166, 3) := by decide +kernel
theorem dX5_format_43 : decode cX5_format 43 = .ok (.aload_n 0, 1) := by decide +kernel
theorem dX5_format_44 : decode cX5_format 44 = .ok (.getfield 35, 3) := by decide +kernel
theorem dX5_format_47 : decode cX5_format 47 = .ok (.invokevirtual 170, 3) := by decide +kernel
theorem dX5_format_50 : decode cX5_format 50 = .ok (.iconst 0, 1) := by decide +kernel
theorem dX5_format_51 : decode cX5_format 51 = .ok (.ireturn, 1) := by decide +kernel
theorem dX5_arm_0 : decode cX5_arm 0 = .ok (.iload_n 1, 1) := by decide +kernel
theorem dX5_arm_1 : decode cX5_arm 1 = .ok (.iconst 3, 1) := by decide +kernel
theorem dX5_arm_2 : decode cX5_arm 2 = .ok (.if_icmp .ne 10, 3) := by decide +kernel
theorem dX5_arm_5 : decode cX5_arm 5 = .ok (.aload_n 0, 1) := by decide +kernel
theorem dX5_arm_6 : decode cX5_arm 6 = .ok (.iconst (-1), 1) := by decide +kernel
theorem dX5_arm_7 : decode cX5_arm 7 = .ok (.putfield 69, 3) := by decide +kernel
theorem dX5_arm_10 : decode cX5_arm 10 = .ok (.iconst 1, 1) := by decide +kernel
theorem dX5_arm_11 : decode cX5_arm 11 = .ok (.ireturn, 1) := by decide +kernel
theorem dX5_arm_12 : decode cX5_arm 12 = .ok (.iload_n 1, 1) := by decide +kernel
theorem dX5_arm_13 : decode cX5_arm 13 = .ok (.ifCond .lt 19, 3) := by decide +kernel
theorem dX5_arm_16 : decode cX5_arm 16 = .ok (.iload_n 1, 1) := by decide +kernel
theorem dX5_arm_17 : decode cX5_arm 17 = .ok (.iconst 2, 1) := by decide +kernel
theorem dX5_arm_18 : decode cX5_arm 18 = .ok (.if_icmp .gt 14, 3) := by decide +kernel
theorem dX5_arm_21 : decode cX5_arm 21 = .ok (.iload_n 2, 1) := by decide +kernel
theorem dX5_arm_22 : decode cX5_arm 22 = .ok (.ifCond .lt 10, 3) := by decide +kernel
theorem dX5_arm_25 : decode cX5_arm 25 = .ok (.iload_n 2, 1) := by decide +kernel
theorem dX5_arm_26 : decode cX5_arm 26 = .ok (.sipush 256, 3) := by decide +kernel
theorem dX5_arm_29 : decode cX5_arm 29 = .ok (.if_icmp .le 5, 3) := by decide +kernel
theorem dX5_arm_32 : decode cX5_arm 32 = .ok (.iconst 0, 1) := by decide +kernel
theorem dX5_arm_33 : decode cX5_arm 33 = .ok (.ireturn, 1) := by decide +kernel
theorem dX5_arm_34 : decode cX5_arm 34 = .ok (.aload_n 0, 1) := by decide +kernel
theorem dX5_arm_35 : decode cX5_arm 35 = .ok (.iload_n 1, 1) := by decide +kernel
theorem dX5_arm_36 : decode cX5_arm 36 = .ok (.putfield 69, 3) := by decide +kernel
theorem dX5_arm_39 : decode cX5_arm 39 = .ok (.aload_n 0, 1) := by decide +kernel
theorem dX5_arm_40 : decode cX5_arm 40 = .ok (.iload_n 2, 1) := by decide +kernel
theorem dX5_arm_41 : decode cX5_arm 41 = .ok (.putfield 72, 3) := by decide +kernel
theorem dX5_arm_44 : decode cX5_arm 44 = .ok (.iconst 1, 1) := by decide +kernel
theorem dX5_arm_45 : decode cX5_arm 45 = .ok (.ireturn, 1) := by decide +kernel
set_option maxRecDepth 20000 in
theorem ggX5_recover_X1_writeHome : GoodIn wsX5_recover wsX1_writeHome := goodIn_r _ [13, 14, 15, 16, 17, 18, 19, 12, 20, 21, 22, 23, 24, 25, 26, 27, 28, 29, 30, 31, 32, 33, 34, 35, 36, 37, 38, 39, 40, 41, 42, 43, 44, 45, 46, 47, 48, 49, 50, 51, 52, 53, 54, 55, 94, 95, 96, 97, 98, 99, 100, 101] (by decide +kernel) (by decide +kernel)
set_option maxRecDepth 20000 in
theorem gX5_recover_X1_writeHome : GoodIn wsX5_recover (wsV RX5 171 RX1 yX1_writeHome wsX1_writeHome) := goodIn_app (goodIn_of _ (by decide +kernel)) ggX5_recover_X1_writeHome
set_option maxRecDepth 20000 in
theorem ggX5_recover_X5_losePower : GoodIn wsX5_recover wsX5_losePower := goodIn_r _ [60, 8, 1, 4, 6, 7, 61, 23, 24, 25, 26, 27, 28, 62, 63, 64, 65, 66, 67, 68, 69, 70, 71, 72, 73, 82, 83, 84, 85, 86, 87, 88, 89, 90, 91, 92, 93, 98, 99, 100, 101, 102, 103, 104, 105, 106, 107, 108] (by decide +kernel) (by decide +kernel)
set_option maxRecDepth 20000 in
theorem gX5_recover_X5_losePower : GoodIn wsX5_recover (wsV RX5 174 RX5 yX5_losePower wsX5_losePower) := goodIn_app (goodIn_of _ (by decide +kernel)) ggX5_recover_X5_losePower
set_option maxRecDepth 20000 in
theorem ggX5_recover_X1_end : GoodIn wsX5_recover wsX1_end := goodIn_r _ [77, 14, 94, 95, 96, 97] (by decide +kernel) (by decide +kernel)
set_option maxRecDepth 20000 in
theorem gX5_recover_X1_end : GoodIn wsX5_recover (wsV RX5 177 RX1 yX1_end wsX1_end) := goodIn_app (goodIn_of _ (by decide +kernel)) ggX5_recover_X1_end
set_option maxRecDepth 20000 in
theorem ggX5_recover_X2_copyFrom : GoodIn wsX5_recover wsX2_copyFrom := goodIn_r _ [81, 33, 27, 34, 35, 36, 37, 38, 28, 98, 99, 100, 101] (by decide +kernel) (by decide +kernel)
set_option maxRecDepth 20000 in
theorem gX5_recover_X2_copyFrom : GoodIn wsX5_recover (wsV RX5 167 RX2 yX2_copyFrom wsX2_copyFrom) := goodIn_app (goodIn_of _ (by decide +kernel)) ggX5_recover_X2_copyFrom
set_option maxRecDepth 20000 in
theorem ggX5_recover_X0_clear : GoodIn wsX5_recover wsX0_clear := goodIn_r _ [66, 67, 102, 103, 104] (by decide +kernel) (by decide +kernel)
set_option maxRecDepth 20000 in
theorem gX5_recover_X0_clear : GoodIn wsX5_recover (wsV RX5 166 RX0 yX0_clear wsX0_clear) := goodIn_app (goodIn_of _ (by decide +kernel)) ggX5_recover_X0_clear
set_option maxRecDepth 20000 in
theorem ggX5_recover_X3_clear : GoodIn wsX5_recover wsX3_clear := goodIn_r _ [72, 73, 105, 106, 107, 108] (by decide +kernel) (by decide +kernel)
set_option maxRecDepth 20000 in
theorem gX5_recover_X3_clear : GoodIn wsX5_recover (wsV RX5 109 RX3 yX3_clear wsX3_clear) := goodIn_app (goodIn_of _ (by decide +kernel)) ggX5_recover_X3_clear
theorem dX5_recover_0 : decode cX5_recover 0 = .ok (.aload_n 0, 1) := by decide +kernel
theorem dX5_recover_1 : decode cX5_recover 1 = .ok (.getfield 69, 3) := by decide +kernel
theorem dX5_recover_4 : decode cX5_recover 4 = .ok (.iconst 2, 1) := by decide +kernel
theorem dX5_recover_5 : decode cX5_recover 5 = .ok (.if_icmp .ne 21, 3) := by decide +kernel
theorem dX5_recover_8 : decode cX5_recover 8 = .ok (.aload_n 0, 1) := by decide +kernel
theorem dX5_recover_9 : decode cX5_recover 9 = .ok (.getfield 31, 3) := by decide +kernel
theorem dX5_recover_12 : decode cX5_recover 12 = .ok (.aload_n 0, 1) := by decide +kernel
theorem dX5_recover_13 : decode cX5_recover 13 = .ok (.getfield 72, 3) := by decide +kernel
theorem dX5_recover_16 : decode cX5_recover 16 = .ok (.invokevirtual 171, 3) := by decide +kernel
theorem dX5_recover_19 : decode cX5_recover 19 = .ok (.aload_n 0, 1) := by decide +kernel
theorem dX5_recover_20 : decode cX5_recover 20 = .ok (.invokevirtual 174, 3) := by decide +kernel
theorem dX5_recover_23 : decode cX5_recover 23 = .ok (.bipush (-2), 2) := by decide +kernel
theorem dX5_recover_25 : decode cX5_recover 25 = .ok (.ireturn, 1) := by decide +kernel
theorem dX5_recover_26 : decode cX5_recover 26 = .ok (.aload_n 0, 1) := by decide +kernel
theorem dX5_recover_27 : decode cX5_recover 27 = .ok (.getfield 31, 3) := by decide +kernel
theorem dX5_recover_30 : decode cX5_recover 30 = .ok (.sipush 256, 3) := by decide +kernel
theorem dX5_recover_33 : decode cX5_recover 33 = .ok (.invokevirtual 171, 3) := by decide +kernel
theorem dX5_recover_36 : decode cX5_recover 36 = .ok (.aload_n 0, 1) := by decide +kernel
theorem dX5_recover_37 : decode cX5_recover 37 = .ok (.getfield 31, 3) := by decide +kernel
theorem dX5_recover_40 : decode cX5_recover 40 = .ok (.invokevirtual 177, 3) := by decide +kernel
theorem dX5_recover_43 : decode cX5_recover 43 = .ok (.aload_n 0, 1) := by decide +kernel
theorem dX5_recover_44 : decode cX5_recover 44 = .ok (.getfield 35, 3) := by decide +kernel
theorem dX5_recover_47 : decode cX5_recover 47 = .ok (.aload_n 0, 1) := by decide +kernel
theorem dX5_recover_48 : decode cX5_recover 48 = .ok (.getfield 31, 3) := by decide +kernel
theorem dX5_recover_51 : decode cX5_recover 51 = .ok (.getfield 140, 3) := by decide +kernel
theorem dX5_recover_54 : decode cX5_recover 54 = .ok (.invokevirtual 167, 3) := by decide +kernel
theorem dX5_recover_57 : decode cX5_recover 57 = .ok (.aload_n 0, 1) := by decide +kernel
theorem dX5_recover_58 : decode cX5_recover 58 = .ok (.getfield 54, 3) := by decide +kernel
theorem dX5_recover_61 : decode cX5_recover 61 = .ok (.invokevirtual 166, 3) := by decide +kernel
theorem dX5_recover_64 : decode cX5_recover 64 = .ok (.aload_n 0, 1) := by decide +kernel
theorem dX5_recover_65 : decode cX5_recover 65 = .ok (.getfield 61, 3) := by decide +kernel
theorem dX5_recover_68 : decode cX5_recover 68 = .ok (.invokevirtual 109, 3) := by decide +kernel
theorem dX5_recover_71 : decode cX5_recover 71 = .ok (.aload_n 0, 1) := by decide +kernel
theorem dX5_recover_72 : decode cX5_recover 72 = .ok (.iconst 1, 1) := by decide +kernel
theorem dX5_recover_73 : decode cX5_recover 73 = .ok (.putfield 65, 3) := by decide +kernel
theorem dX5_recover_76 : decode cX5_recover 76 = .ok (.iconst 0, 1) := by decide +kernel
theorem dX5_recover_77 : decode cX5_recover 77 = .ok (.ireturn, 1) := by decide +kernel
set_option maxRecDepth 20000 in
theorem ggX5_node_X5_treeOf : GoodIn wsX5_node wsX5_treeOf := goodIn_r _ [6, 7, 8, 55, 56, 57, 58, 59, 60, 61, 62, 63, 64, 65, 66] (by decide +kernel) (by decide +kernel)
set_option maxRecDepth 20000 in
theorem gX5_node_X5_treeOf : GoodIn wsX5_node (wsV RX5 180 RX5 yX5_treeOf wsX5_treeOf) := goodIn_app (goodIn_of _ (by decide +kernel)) ggX5_node_X5_treeOf
set_option maxRecDepth 20000 in
theorem ggX5_node_X4_upToDate : GoodIn wsX5_node wsX4_upToDate := goodIn_r _ [13, 14, 15, 16, 17, 18, 19, 20, 21, 22, 12, 23, 24, 25, 26, 27, 28, 29, 30, 31, 32, 33, 34, 35, 36, 37, 38, 39, 40, 41, 42, 43, 5, 44, 45, 46, 47, 48, 49, 50, 67, 68, 69, 70, 71, 72, 73, 74, 75, 76, 77, 78, 79] (by decide +kernel) (by decide +kernel)
set_option maxRecDepth 20000 in
theorem gX5_node_X4_upToDate : GoodIn wsX5_node (wsV RX5 184 RX4 yX4_upToDate wsX4_upToDate) := goodIn_app (goodIn_of _ (by decide +kernel)) ggX5_node_X4_upToDate
set_option maxRecDepth 20000 in
theorem ggX5_node_X4_factOf : GoodIn wsX5_node wsX4_factOf := goodIn_r _ [54, 19, 30, 67, 68, 69, 70, 71, 72, 73, 74, 75] (by decide +kernel) (by decide +kernel)
set_option maxRecDepth 20000 in
theorem gX5_node_X4_factOf : GoodIn wsX5_node (wsV RX5 188 RX4 yX4_factOf wsX4_factOf) := goodIn_app (goodIn_of _ (by decide +kernel)) ggX5_node_X4_factOf
theorem dX5_node_0 : decode cX5_node 0 = .ok (.aload_n 0, 1) := by decide +kernel
theorem dX5_node_1 : decode cX5_node 1 = .ok (.getfield 65, 3) := by decide +kernel
theorem dX5_node_4 : decode cX5_node 4 = .ok (.ifCond .ne 6, 3) := by decide +kernel
theorem dX5_node_7 : decode cX5_node 7 = .ok (.bipush (-2), 2) := by decide +kernel
theorem dX5_node_9 : decode cX5_node 9 = .ok (.ireturn, 1) := by decide +kernel
theorem dX5_node_10 : decode cX5_node 10 = .ok (.aload_n 0, 1) := by decide +kernel
theorem dX5_node_11 : decode cX5_node 11 = .ok (.iload_n 1, 1) := by decide +kernel
theorem dX5_node_12 : decode cX5_node 12 = .ok (.invokevirtual 180, 3) := by decide +kernel
theorem dX5_node_15 : decode cX5_node 15 = .ok (.astore 4, 2) := by decide +kernel
theorem dX5_node_17 : decode cX5_node 17 = .ok (.aload 4, 2) := by decide +kernel
theorem dX5_node_19 : decode cX5_node 19 = .ok (.ifnonnull 5, 3) := by decide +kernel
theorem dX5_node_22 : decode cX5_node 22 = .ok (.iconst (-1), 1) := by decide +kernel
theorem dX5_node_23 : decode cX5_node 23 = .ok (.ireturn, 1) := by decide +kernel
theorem dX5_node_24 : decode cX5_node 24 = .ok (.aload 4, 2) := by decide +kernel
theorem dX5_node_26 : decode cX5_node 26 = .ok (.invokevirtual 184, 3) := by decide +kernel
theorem dX5_node_29 : decode cX5_node 29 = .ok (.iload_n 2, 1) := by decide +kernel
theorem dX5_node_30 : decode cX5_node 30 = .ok (.iload_n 3, 1) := by decide +kernel
theorem dX5_node_31 : decode cX5_node 31 = .ok (.invokevirtual 188, 3) := by decide +kernel
theorem dX5_node_34 : decode cX5_node 34 = .ok (.ireturn, 1) := by decide +kernel
set_option maxRecDepth 20000 in
theorem ggX5_count_X4_upToDate : GoodIn wsX5_count wsX4_upToDate := goodIn_r _ [20, 21, 22, 23, 24, 25, 26, 27, 28, 29, 19, 30, 31, 32, 33, 34, 35, 36, 37, 38, 39, 40, 41, 42, 43, 44, 45, 46, 47, 48, 49, 50, 51, 52, 53, 54, 55, 56, 57, 58, 79, 80, 81, 82, 83, 84, 85, 86, 87, 71, 72, 73, 74] (by decide +kernel) (by decide +kernel)
set_option maxRecDepth 20000 in
theorem gX5_count_X4_upToDate : GoodIn wsX5_count (wsV RX5 184 RX4 yX4_upToDate wsX4_upToDate) := goodIn_app (goodIn_of _ (by decide +kernel)) ggX5_count_X4_upToDate
theorem dX5_count_0 : decode cX5_count 0 = .ok (.aload_n 0, 1) := by decide +kernel
theorem dX5_count_1 : decode cX5_count 1 = .ok (.getfield 65, 3) := by decide +kernel
theorem dX5_count_4 : decode cX5_count 4 = .ok (.ifCond .ne 6, 3) := by decide +kernel
theorem dX5_count_7 : decode cX5_count 7 = .ok (.bipush (-2), 2) := by decide +kernel
theorem dX5_count_9 : decode cX5_count 9 = .ok (.ireturn, 1) := by decide +kernel
theorem dX5_count_10 : decode cX5_count 10 = .ok (.iload_n 1, 1) := by decide +kernel
theorem dX5_count_11 : decode cX5_count 11 = .ok (.tableswitch 153 0 10 #[57, 65, 76, 87, 98, 114, 122, 133, 138, 143, 148], 57) := by decide +kernel
theorem dX5_count_68 : decode cX5_count 68 = .ok (.aload_n 0, 1) := by decide +kernel
theorem dX5_count_69 : decode cX5_count 69 = .ok (.getfield 35, 3) := by decide +kernel
theorem dX5_count_72 : decode cX5_count 72 = .ok (.getfield 112, 3) := by decide +kernel
theorem dX5_count_75 : decode cX5_count 75 = .ok (.ireturn, 1) := by decide +kernel
theorem dX5_count_76 : decode cX5_count 76 = .ok (.aload_n 0, 1) := by decide +kernel
theorem dX5_count_77 : decode cX5_count 77 = .ok (.getfield 31, 3) := by decide +kernel
theorem dX5_count_80 : decode cX5_count 80 = .ok (.getfield 140, 3) := by decide +kernel
theorem dX5_count_83 : decode cX5_count 83 = .ok (.getfield 112, 3) := by decide +kernel
theorem dX5_count_86 : decode cX5_count 86 = .ok (.ireturn, 1) := by decide +kernel
theorem dX5_count_87 : decode cX5_count 87 = .ok (.aload_n 0, 1) := by decide +kernel
theorem dX5_count_88 : decode cX5_count 88 = .ok (.getfield 44, 3) := by decide +kernel
theorem dX5_count_91 : decode cX5_count 91 = .ok (.invokevirtual 184, 3) := by decide +kernel
theorem dX5_count_94 : decode cX5_count 94 = .ok (.getfield 191, 3) := by decide +kernel
theorem dX5_count_97 : decode cX5_count 97 = .ok (.ireturn, 1) := by decide +kernel
theorem dX5_count_98 : decode cX5_count 98 = .ok (.aload_n 0, 1) := by decide +kernel
theorem dX5_count_99 : decode cX5_count 99 = .ok (.getfield 48, 3) := by decide +kernel
theorem dX5_count_102 : decode cX5_count 102 = .ok (.invokevirtual 184, 3) := by decide +kernel
theorem dX5_count_105 : decode cX5_count 105 = .ok (.getfield 191, 3) := by decide +kernel
theorem dX5_count_108 : decode cX5_count 108 = .ok (.ireturn, 1) := by decide +kernel
theorem dX5_count_109 : decode cX5_count 109 = .ok (.aload_n 0, 1) := by decide +kernel
theorem dX5_count_110 : decode cX5_count 110 = .ok (.getfield 16, 3) := by decide +kernel
theorem dX5_count_113 : decode cX5_count 113 = .ok (.aload_n 0, 1) := by decide +kernel
theorem dX5_count_114 : decode cX5_count 114 = .ok (.getfield 44, 3) := by decide +kernel
theorem dX5_count_117 : decode cX5_count 117 = .ok (.invokevirtual 184, 3) := by decide +kernel
theorem dX5_count_120 : decode cX5_count 120 = .ok (.getfield 191, 3) := by decide +kernel
theorem dX5_count_123 : decode cX5_count 123 = .ok (.isub, 1) := by decide +kernel
theorem dX5_count_124 : decode cX5_count 124 = .ok (.ireturn, 1) := by decide +kernel
theorem dX5_count_125 : decode cX5_count 125 = .ok (.aload_n 0, 1) := by decide +kernel
theorem dX5_count_126 : decode cX5_count 126 = .ok (.getfield 54, 3) := by decide +kernel
theorem dX5_count_129 : decode cX5_count 129 = .ok (.getfield 162, 3) := by decide +kernel
theorem dX5_count_132 : decode cX5_count 132 = .ok (.ireturn, 1) := by decide +kernel
theorem dX5_count_133 : decode cX5_count 133 = .ok (.aload_n 0, 1) := by decide +kernel
theorem dX5_count_134 : decode cX5_count 134 = .ok (.getfield 44, 3) := by decide +kernel
theorem dX5_count_137 : decode cX5_count 137 = .ok (.invokevirtual 184, 3) := by decide +kernel
theorem dX5_count_140 : decode cX5_count 140 = .ok (.getfield 194, 3) := by decide +kernel
theorem dX5_count_143 : decode cX5_count 143 = .ok (.ireturn, 1) := by decide +kernel
theorem dX5_count_144 : decode cX5_count 144 = .ok (.aload_n 0, 1) := by decide +kernel
theorem dX5_count_145 : decode cX5_count 145 = .ok (.getfield 69, 3) := by decide +kernel
theorem dX5_count_148 : decode cX5_count 148 = .ok (.ireturn, 1) := by decide +kernel
theorem dX5_count_149 : decode cX5_count 149 = .ok (.aload_n 0, 1) := by decide +kernel
theorem dX5_count_150 : decode cX5_count 150 = .ok (.getfield 16, 3) := by decide +kernel
theorem dX5_count_153 : decode cX5_count 153 = .ok (.ireturn, 1) := by decide +kernel
theorem dX5_count_154 : decode cX5_count 154 = .ok (.aload_n 0, 1) := by decide +kernel
theorem dX5_count_155 : decode cX5_count 155 = .ok (.getfield 20, 3) := by decide +kernel
theorem dX5_count_158 : decode cX5_count 158 = .ok (.ireturn, 1) := by decide +kernel
theorem dX5_count_159 : decode cX5_count 159 = .ok (.aload_n 0, 1) := by decide +kernel
theorem dX5_count_160 : decode cX5_count 160 = .ok (.getfield 23, 3) := by decide +kernel
theorem dX5_count_163 : decode cX5_count 163 = .ok (.ireturn, 1) := by decide +kernel
theorem dX5_count_164 : decode cX5_count 164 = .ok (.iconst (-1), 1) := by decide +kernel
theorem dX5_count_165 : decode cX5_count 165 = .ok (.ireturn, 1) := by decide +kernel
set_option maxRecDepth 20000 in
theorem ggX5_comesIn_X2_isFull : GoodIn wsX5_comesIn wsX2_isFull := goodIn_r _ [9, 10, 100, 101, 102, 103] (by decide +kernel) (by decide +kernel)
set_option maxRecDepth 20000 in
theorem gX5_comesIn_X2_isFull : GoodIn wsX5_comesIn (wsV RX5 197 RX2 yX2_isFull wsX2_isFull) := goodIn_app (goodIn_of _ (by decide +kernel)) ggX5_comesIn_X2_isFull
set_option maxRecDepth 20000 in
theorem ggX5_comesIn_X2_put : GoodIn wsX5_comesIn wsX2_put := goodIn_r _ [14, 15, 10, 16, 17, 18, 19, 20, 21, 22, 23, 24, 8, 25, 26, 27, 28, 29, 30, 31, 6, 7, 9, 100, 101, 102, 103] (by decide +kernel) (by decide +kernel)
set_option maxRecDepth 20000 in
theorem gX5_comesIn_X2_put : GoodIn wsX5_comesIn (wsV RX5 91 RX2 yX2_put wsX2_put) := goodIn_app (goodIn_of _ (by decide +kernel)) ggX5_comesIn_X2_put
set_option maxRecDepth 20000 in
theorem ggX5_comesIn_X4_upToDate : GoodIn wsX5_comesIn wsX4_upToDate := goodIn_r _ [36, 37, 38, 39, 40, 41, 42, 43, 44, 45, 35, 46, 47, 48, 49, 50, 51, 52, 53, 54, 55, 56, 57, 58, 59, 60, 61, 62, 63, 64, 65, 66, 67, 68, 69, 70, 71, 72, 73, 74, 91, 92, 93, 94, 95, 96, 97, 98, 99, 100, 101, 102, 103] (by decide +kernel) (by decide +kernel)
set_option maxRecDepth 20000 in
theorem gX5_comesIn_X4_upToDate : GoodIn wsX5_comesIn (wsV RX5 184 RX4 yX4_upToDate wsX4_upToDate) := goodIn_app (goodIn_of _ (by decide +kernel)) ggX5_comesIn_X4_upToDate
set_option maxRecDepth 20000 in
theorem ggX5_comesIn_X2_takeOut : GoodIn wsX5_comesIn wsX2_takeOut := goodIn_r _ [78, 15, 10, 16, 17, 18, 19, 20, 21, 22, 23, 24, 8, 25, 26, 27, 28, 29, 30, 100, 101, 102, 103] (by decide +kernel) (by decide +kernel)
set_option maxRecDepth 20000 in
theorem gX5_comesIn_X2_takeOut : GoodIn wsX5_comesIn (wsV RX5 101 RX2 yX2_takeOut wsX2_takeOut) := goodIn_app (goodIn_of _ (by decide +kernel)) ggX5_comesIn_X2_takeOut
theorem dX5_comesIn_0 : decode cX5_comesIn 0 = .ok (.aload_n 0, 1) := by decide +kernel
theorem dX5_comesIn_1 : decode cX5_comesIn 1 = .ok (.getfield 35, 3) := by decide +kernel
theorem dX5_comesIn_4 : decode cX5_comesIn 4 = .ok (.invokevirtual 197, 3) := by decide +kernel
theorem dX5_comesIn_7 : decode cX5_comesIn 7 = .ok (.ifCond .eq 5, 3) := by decide +kernel
theorem dX5_comesIn_10 : decode cX5_comesIn 10 = .ok (.iconst 0, 1) := by decide +kernel
theorem dX5_comesIn_11 : decode cX5_comesIn 11 = .ok (.ireturn, 1) := by decide +kernel
theorem dX5_comesIn_12 : decode cX5_comesIn 12 = .ok (.aload_n 0, 1) := by decide +kernel
theorem dX5_comesIn_13 : decode cX5_comesIn 13 = .ok (.getfield 35, 3) := by decide +kernel
theorem dX5_comesIn_16 : decode cX5_comesIn 16 = .ok (.iload_n 1, 1) := by decide +kernel
theorem dX5_comesIn_17 : decode cX5_comesIn 17 = .ok (.iload_n 2, 1) := by decide +kernel
theorem dX5_comesIn_18 : decode cX5_comesIn 18 = .ok (.invokevirtual 91, 3) := by decide +kernel
theorem dX5_comesIn_21 : decode cX5_comesIn 21 = .ok (.aload_n 0, 1) := by decide +kernel
theorem dX5_comesIn_22 : decode cX5_comesIn 22 = .ok (.getfield 44, 3) := by decide +kernel
theorem dX5_comesIn_25 : decode cX5_comesIn 25 = .ok (.invokevirtual 184, 3) := by decide +kernel
theorem dX5_comesIn_28 : decode cX5_comesIn 28 = .ok (.getfield 191, 3) := by decide +kernel
theorem dX5_comesIn_31 : decode cX5_comesIn 31 = .ok (.aload_n 0, 1) := by decide +kernel
theorem dX5_comesIn_32 : decode cX5_comesIn 32 = .ok (.getfield 16, 3) := by decide +kernel
theorem dX5_comesIn_35 : decode cX5_comesIn 35 = .ok (.if_icmp .le 13, 3) := by decide +kernel
theorem dX5_comesIn_38 : decode cX5_comesIn 38 = .ok (.aload_n 0, 1) := by decide +kernel
theorem dX5_comesIn_39 : decode cX5_comesIn 39 = .ok (.getfield 35, 3) := by decide +kernel
theorem dX5_comesIn_42 : decode cX5_comesIn 42 = .ok (.iload_n 1, 1) := by decide +kernel
theorem dX5_comesIn_43 : decode cX5_comesIn 43 = .ok (.invokevirtual 101, 3) := by decide +kernel
theorem dX5_comesIn_46 : decode cX5_comesIn 46 = .ok (.iconst 0, 1) := by decide +kernel
theorem dX5_comesIn_47 : decode cX5_comesIn 47 = .ok (.ireturn, 1) := by decide +kernel
theorem dX5_comesIn_48 : decode cX5_comesIn 48 = .ok (.iconst 1, 1) := by decide +kernel
theorem dX5_comesIn_49 : decode cX5_comesIn 49 = .ok (.ireturn, 1) := by decide +kernel
set_option maxRecDepth 20000 in
theorem ggX5_writeChanges_X1_writeLog : GoodIn wsX5_writeChanges wsX1_writeLog := goodIn_r _ [10, 11, 12, 13, 14, 15, 16, 17, 18, 19, 102, 103, 104, 105, 106, 107, 108] (by decide +kernel) (by decide +kernel)
set_option maxRecDepth 20000 in
theorem gX5_writeChanges_X1_writeLog : GoodIn wsX5_writeChanges (wsV RX5 198 RX1 yX1_writeLog wsX1_writeLog) := goodIn_app (goodIn_of _ (by decide +kernel)) ggX5_writeChanges_X1_writeLog
set_option maxRecDepth 20000 in
theorem ggX5_writeChanges_X5_losePower : GoodIn wsX5_writeChanges wsX5_losePower := goodIn_r _ [24, 25, 1, 26, 3, 27, 28, 29, 30, 31, 32, 33, 34, 35, 36, 37, 38, 39, 40, 41, 42, 43, 44, 45, 46, 90, 91, 92, 93, 94, 95, 96, 97, 98, 99, 100, 101, 109, 110, 111, 112, 102, 103, 104, 113, 114, 115, 116] (by decide +kernel) (by decide +kernel)
set_option maxRecDepth 20000 in
theorem gX5_writeChanges_X5_losePower : GoodIn wsX5_writeChanges (wsV RX5 174 RX5 yX5_losePower wsX5_losePower) := goodIn_app (goodIn_of _ (by decide +kernel)) ggX5_writeChanges_X5_losePower
set_option maxRecDepth 20000 in
theorem ggX5_writeChanges_X1_seal : GoodIn wsX5_writeChanges wsX1_seal := goodIn_r _ [50, 51, 105, 106, 107, 108] (by decide +kernel) (by decide +kernel)
set_option maxRecDepth 20000 in
theorem gX5_writeChanges_X1_seal : GoodIn wsX5_writeChanges (wsV RX5 202 RX1 yX1_seal wsX1_seal) := goodIn_app (goodIn_of _ (by decide +kernel)) ggX5_writeChanges_X1_seal
set_option maxRecDepth 20000 in
theorem ggX5_writeChanges_X1_writeHome : GoodIn wsX5_writeChanges wsX1_writeHome := goodIn_r _ [55, 51, 13, 19, 56, 57, 58, 9, 59, 60, 61, 29, 30, 31, 32, 33, 34, 62, 63, 64, 65, 66, 67, 15, 16, 17, 68, 69, 70, 71, 72, 73, 74, 75, 76, 77, 78, 79, 80, 81, 82, 83, 84, 85, 105, 106, 107, 108, 109, 110, 111, 112] (by decide +kernel) (by decide +kernel)
set_option maxRecDepth 20000 in
theorem gX5_writeChanges_X1_writeHome : GoodIn wsX5_writeChanges (wsV RX5 171 RX1 yX1_writeHome wsX1_writeHome) := goodIn_app (goodIn_of _ (by decide +kernel)) ggX5_writeChanges_X1_writeHome
set_option maxRecDepth 20000 in
theorem ggX5_writeChanges_X1_end : GoodIn wsX5_writeChanges wsX1_end := goodIn_r _ [89, 51, 105, 106, 107, 108] (by decide +kernel) (by decide +kernel)
set_option maxRecDepth 20000 in
theorem gX5_writeChanges_X1_end : GoodIn wsX5_writeChanges (wsV RX5 177 RX1 yX1_end wsX1_end) := goodIn_app (goodIn_of _ (by decide +kernel)) ggX5_writeChanges_X1_end
theorem dX5_writeChanges_0 : decode cX5_writeChanges 0 = .ok (.aload_n 0, 1) := by decide +kernel
theorem dX5_writeChanges_1 : decode cX5_writeChanges 1 = .ok (.getfield 69, 3) := by decide +kernel
theorem dX5_writeChanges_4 : decode cX5_writeChanges 4 = .ok (.ifCond .ne 24, 3) := by decide +kernel
theorem dX5_writeChanges_7 : decode cX5_writeChanges 7 = .ok (.aload_n 0, 1) := by decide +kernel
theorem dX5_writeChanges_8 : decode cX5_writeChanges 8 = .ok (.getfield 31, 3) := by decide +kernel
theorem dX5_writeChanges_11 : decode cX5_writeChanges 11 = .ok (.aload_n 0, 1) := by decide +kernel
theorem dX5_writeChanges_12 : decode cX5_writeChanges 12 = .ok (.getfield 54, 3) := by decide +kernel
theorem dX5_writeChanges_15 : decode cX5_writeChanges 15 = .ok (.aload_n 0, 1) := by decide +kernel
theorem dX5_writeChanges_16 : decode cX5_writeChanges 16 = .ok (.getfield 72, 3) := by decide +kernel
theorem dX5_writeChanges_19 : decode cX5_writeChanges 19 = .ok (.invokevirtual 198, 3) := by decide +kernel
theorem dX5_writeChanges_22 : decode cX5_writeChanges 22 = .ok (.aload_n 0, 1) := by decide +kernel
theorem dX5_writeChanges_23 : decode cX5_writeChanges 23 = .ok (.invokevirtual 174, 3) := by decide +kernel
theorem dX5_writeChanges_26 : decode cX5_writeChanges 26 = .ok (.iconst 0, 1) := by decide +kernel
theorem dX5_writeChanges_27 : decode cX5_writeChanges 27 = .ok (.ireturn, 1) := by decide +kernel
theorem dX5_writeChanges_28 : decode cX5_writeChanges 28 = .ok (.aload_n 0, 1) := by decide +kernel
theorem dX5_writeChanges_29 : decode cX5_writeChanges 29 = .ok (.getfield 31, 3) := by decide +kernel
theorem dX5_writeChanges_32 : decode cX5_writeChanges 32 = .ok (.aload_n 0, 1) := by decide +kernel
theorem dX5_writeChanges_33 : decode cX5_writeChanges 33 = .ok (.getfield 54, 3) := by decide +kernel
theorem dX5_writeChanges_36 : decode cX5_writeChanges 36 = .ok (.sipush 256, 3) := by decide +kernel
theorem dX5_writeChanges_39 : decode cX5_writeChanges 39 = .ok (.invokevirtual 198, 3) := by decide +kernel
theorem dX5_writeChanges_42 : decode cX5_writeChanges 42 = .ok (.aload_n 0, 1) := by decide +kernel
theorem dX5_writeChanges_43 : decode cX5_writeChanges 43 = .ok (.getfield 31, 3) := by decide +kernel
theorem dX5_writeChanges_46 : decode cX5_writeChanges 46 = .ok (.aload_n 0, 1) := by decide +kernel
theorem dX5_writeChanges_47 : decode cX5_writeChanges 47 = .ok (.getfield 54, 3) := by decide +kernel
theorem dX5_writeChanges_50 : decode cX5_writeChanges 50 = .ok (.getfield 162, 3) := by decide +kernel
theorem dX5_writeChanges_53 : decode cX5_writeChanges 53 = .ok (.invokevirtual 202, 3) := by decide +kernel
theorem dX5_writeChanges_56 : decode cX5_writeChanges 56 = .ok (.aload_n 0, 1) := by decide +kernel
theorem dX5_writeChanges_57 : decode cX5_writeChanges 57 = .ok (.getfield 69, 3) := by decide +kernel
theorem dX5_writeChanges_60 : decode cX5_writeChanges 60 = .ok (.iconst 1, 1) := by decide +kernel
theorem dX5_writeChanges_61 : decode cX5_writeChanges 61 = .ok (.if_icmp .ne 20, 3) := by decide +kernel
theorem dX5_writeChanges_64 : decode cX5_writeChanges 64 = .ok (.aload_n 0, 1) := by decide +kernel
theorem dX5_writeChanges_65 : decode cX5_writeChanges 65 = .ok (.getfield 31, 3) := by decide +kernel
theorem dX5_writeChanges_68 : decode cX5_writeChanges 68 = .ok (.aload_n 0, 1) := by decide +kernel
theorem dX5_writeChanges_69 : decode cX5_writeChanges 69 = .ok (.getfield 72, 3) := by decide +kernel
theorem dX5_writeChanges_72 : decode cX5_writeChanges 72 = .ok (.invokevirtual 171, 3) := by decide +kernel
theorem dX5_writeChanges_75 : decode cX5_writeChanges 75 = .ok (.aload_n 0, 1) := by decide +kernel
theorem dX5_writeChanges_76 : decode cX5_writeChanges 76 = .ok (.invokevirtual 174, 3) := by decide +kernel
theorem dX5_writeChanges_79 : decode cX5_writeChanges 79 = .ok (.iconst 0, 1) := by decide +kernel
theorem dX5_writeChanges_80 : decode cX5_writeChanges 80 = .ok (.ireturn, 1) := by decide +kernel
theorem dX5_writeChanges_81 : decode cX5_writeChanges 81 = .ok (.aload_n 0, 1) := by decide +kernel
theorem dX5_writeChanges_82 : decode cX5_writeChanges 82 = .ok (.getfield 31, 3) := by decide +kernel
theorem dX5_writeChanges_85 : decode cX5_writeChanges 85 = .ok (.sipush 256, 3) := by decide +kernel
theorem dX5_writeChanges_88 : decode cX5_writeChanges 88 = .ok (.invokevirtual 171, 3) := by decide +kernel
theorem dX5_writeChanges_91 : decode cX5_writeChanges 91 = .ok (.aload_n 0, 1) := by decide +kernel
theorem dX5_writeChanges_92 : decode cX5_writeChanges 92 = .ok (.getfield 31, 3) := by decide +kernel
theorem dX5_writeChanges_95 : decode cX5_writeChanges 95 = .ok (.invokevirtual 177, 3) := by decide +kernel
theorem dX5_writeChanges_98 : decode cX5_writeChanges 98 = .ok (.iconst 1, 1) := by decide +kernel
theorem dX5_writeChanges_99 : decode cX5_writeChanges 99 = .ok (.ireturn, 1) := by decide +kernel
set_option maxRecDepth 20000 in
theorem ggX5_losePower_X2_clear : GoodIn wsX5_losePower wsX2_clear := goodIn_r _ [10, 11, 12, 37, 38, 39, 40] (by decide +kernel) (by decide +kernel)
set_option maxRecDepth 20000 in
theorem gX5_losePower_X2_clear : GoodIn wsX5_losePower (wsV RX5 170 RX2 yX2_clear wsX2_clear) := goodIn_app (goodIn_of _ (by decide +kernel)) ggX5_losePower_X2_clear
set_option maxRecDepth 20000 in
theorem ggX5_losePower_X0_clear : GoodIn wsX5_losePower wsX0_clear := goodIn_r _ [17, 18, 41, 42, 43] (by decide +kernel) (by decide +kernel)
set_option maxRecDepth 20000 in
theorem gX5_losePower_X0_clear : GoodIn wsX5_losePower (wsV RX5 166 RX0 yX0_clear wsX0_clear) := goodIn_app (goodIn_of _ (by decide +kernel)) ggX5_losePower_X0_clear
set_option maxRecDepth 20000 in
theorem ggX5_losePower_X3_clear : GoodIn wsX5_losePower wsX3_clear := goodIn_r _ [23, 24, 44, 45, 46, 47] (by decide +kernel) (by decide +kernel)
set_option maxRecDepth 20000 in
theorem gX5_losePower_X3_clear : GoodIn wsX5_losePower (wsV RX5 109 RX3 yX3_clear wsX3_clear) := goodIn_app (goodIn_of _ (by decide +kernel)) ggX5_losePower_X3_clear
theorem dX5_losePower_0 : decode cX5_losePower 0 = .ok (.aload_n 0, 1) := by decide +kernel
theorem dX5_losePower_1 : decode cX5_losePower 1 = .ok (.iconst 0, 1) := by decide +kernel
theorem dX5_losePower_2 : decode cX5_losePower 2 = .ok (.putfield 65, 3) := by decide +kernel
theorem dX5_losePower_5 : decode cX5_losePower 5 = .ok (.aload_n 0, 1) := by decide +kernel
theorem dX5_losePower_6 : decode cX5_losePower 6 = .ok (.iconst (-1), 1) := by decide +kernel
theorem dX5_losePower_7 : decode cX5_losePower 7 = .ok (.putfield 69, 3) := by decide +kernel
theorem dX5_losePower_10 : decode cX5_losePower 10 = .ok (.aload_n 0, 1) := by decide +kernel
theorem dX5_losePower_11 : decode cX5_losePower 11 = .ok (.getfield 35, 3) := by decide +kernel
theorem dX5_losePower_14 : decode cX5_losePower 14 = .ok (.invokevirtual 170, 3) := by decide +kernel
theorem dX5_losePower_17 : decode cX5_losePower 17 = .ok (.aload_n 0, 1) := by decide +kernel
theorem dX5_losePower_18 : decode cX5_losePower 18 = .ok (.getfield 54, 3) := by decide +kernel
theorem dX5_losePower_21 : decode cX5_losePower 21 = .ok (.invokevirtual 166, 3) := by decide +kernel
theorem dX5_losePower_24 : decode cX5_losePower 24 = .ok (.aload_n 0, 1) := by decide +kernel
theorem dX5_losePower_25 : decode cX5_losePower 25 = .ok (.getfield 61, 3) := by decide +kernel
theorem dX5_losePower_28 : decode cX5_losePower 28 = .ok (.invokevirtual 109, 3) := by decide +kernel
theorem dX5_losePower_31 : decode cX5_losePower 31 = .ok (.return_, 1) := by decide +kernel
theorem dX5_pointsOf_0 : decode cX5_pointsOf 0 = .ok (.iload_n 1, 1) := by decide +kernel
theorem dX5_pointsOf_1 : decode cX5_pointsOf 1 = .ok (.ifCond .ne 8, 3) := by decide +kernel
theorem dX5_pointsOf_4 : decode cX5_pointsOf 4 = .ok (.aload_n 0, 1) := by decide +kernel
theorem dX5_pointsOf_5 : decode cX5_pointsOf 5 = .ok (.getfield 35, 3) := by decide +kernel
theorem dX5_pointsOf_8 : decode cX5_pointsOf 8 = .ok (.areturn, 1) := by decide +kernel
theorem dX5_pointsOf_9 : decode cX5_pointsOf 9 = .ok (.iload_n 1, 1) := by decide +kernel
theorem dX5_pointsOf_10 : decode cX5_pointsOf 10 = .ok (.iconst 1, 1) := by decide +kernel
theorem dX5_pointsOf_11 : decode cX5_pointsOf 11 = .ok (.if_icmp .ne 13, 3) := by decide +kernel
theorem dX5_pointsOf_14 : decode cX5_pointsOf 14 = .ok (.aload_n 0, 1) := by decide +kernel
theorem dX5_pointsOf_15 : decode cX5_pointsOf 15 = .ok (.getfield 31, 3) := by decide +kernel
theorem dX5_pointsOf_18 : decode cX5_pointsOf 18 = .ok (.getfield 140, 3) := by decide +kernel
theorem dX5_pointsOf_21 : decode cX5_pointsOf 21 = .ok (.goto 4, 3) := by decide +kernel
theorem dX5_pointsOf_24 : decode cX5_pointsOf 24 = .ok (.aconst_null, 1) := by decide +kernel
theorem dX5_pointsOf_25 : decode cX5_pointsOf 25 = .ok (.areturn, 1) := by decide +kernel
theorem dX5_treeOf_0 : decode cX5_treeOf 0 = .ok (.iload_n 1, 1) := by decide +kernel
theorem dX5_treeOf_1 : decode cX5_treeOf 1 = .ok (.ifCond .ne 8, 3) := by decide +kernel
theorem dX5_treeOf_4 : decode cX5_treeOf 4 = .ok (.aload_n 0, 1) := by decide +kernel
theorem dX5_treeOf_5 : decode cX5_treeOf 5 = .ok (.getfield 44, 3) := by decide +kernel
theorem dX5_treeOf_8 : decode cX5_treeOf 8 = .ok (.areturn, 1) := by decide +kernel
theorem dX5_treeOf_9 : decode cX5_treeOf 9 = .ok (.iload_n 1, 1) := by decide +kernel
theorem dX5_treeOf_10 : decode cX5_treeOf 10 = .ok (.iconst 1, 1) := by decide +kernel
theorem dX5_treeOf_11 : decode cX5_treeOf 11 = .ok (.if_icmp .ne 10, 3) := by decide +kernel
theorem dX5_treeOf_14 : decode cX5_treeOf 14 = .ok (.aload_n 0, 1) := by decide +kernel
theorem dX5_treeOf_15 : decode cX5_treeOf 15 = .ok (.getfield 48, 3) := by decide +kernel
theorem dX5_treeOf_18 : decode cX5_treeOf 18 = .ok (.goto 4, 3) := by decide +kernel
theorem dX5_treeOf_21 : decode cX5_treeOf 21 = .ok (.aconst_null, 1) := by decide +kernel
theorem dX5_treeOf_22 : decode cX5_treeOf 22 = .ok (.areturn, 1) := by decide +kernel
theorem dX5_isOnPlane_0 : decode cX5_isOnPlane 0 = .ok (.iload_n 1, 1) := by decide +kernel
theorem dX5_isOnPlane_1 : decode cX5_isOnPlane 1 = .ok (.ifCond .lt 27, 3) := by decide +kernel
theorem dX5_isOnPlane_4 : decode cX5_isOnPlane 4 = .ok (.iload_n 1, 1) := by decide +kernel
theorem dX5_isOnPlane_5 : decode cX5_isOnPlane 5 = .ok (.aload_n 0, 1) := by decide +kernel
theorem dX5_isOnPlane_6 : decode cX5_isOnPlane 6 = .ok (.getfield 23, 3) := by decide +kernel
theorem dX5_isOnPlane_9 : decode cX5_isOnPlane 9 = .ok (.if_icmp .ge 19, 3) := by decide +kernel
theorem dX5_isOnPlane_12 : decode cX5_isOnPlane 12 = .ok (.iload_n 2, 1) := by decide +kernel
theorem dX5_isOnPlane_13 : decode cX5_isOnPlane 13 = .ok (.ifCond .lt 15, 3) := by decide +kernel
theorem dX5_isOnPlane_16 : decode cX5_isOnPlane 16 = .ok (.iload_n 2, 1) := by decide +kernel
theorem dX5_isOnPlane_17 : decode cX5_isOnPlane 17 = .ok (.aload_n 0, 1) := by decide +kernel
theorem dX5_isOnPlane_18 : decode cX5_isOnPlane 18 = .ok (.getfield 23, 3) := by decide +kernel
theorem dX5_isOnPlane_21 : decode cX5_isOnPlane 21 = .ok (.if_icmp .ge 7, 3) := by decide +kernel
theorem dX5_isOnPlane_24 : decode cX5_isOnPlane 24 = .ok (.iconst 1, 1) := by decide +kernel
theorem dX5_isOnPlane_25 : decode cX5_isOnPlane 25 = .ok (.goto 4, 3) := by decide +kernel
theorem dX5_isOnPlane_28 : decode cX5_isOnPlane 28 = .ok (.iconst 0, 1) := by decide +kernel
theorem dX5_isOnPlane_29 : decode cX5_isOnPlane 29 = .ok (.ireturn, 1) := by decide +kernel
theorem dX5_isPlace_0 : decode cX5_isPlace 0 = .ok (.iload_n 0, 1) := by decide +kernel
theorem dX5_isPlace_1 : decode cX5_isPlace 1 = .ok (.ifCond .lt 13, 3) := by decide +kernel
theorem dX5_isPlace_4 : decode cX5_isPlace 4 = .ok (.iload_n 0, 1) := by decide +kernel
theorem dX5_isPlace_5 : decode cX5_isPlace 5 = .ok (.ldc 205, 2) := by decide +kernel
theorem dX5_isPlace_7 : decode cX5_isPlace 7 = .ok (.if_icmp .gt 7, 3) := by decide +kernel
theorem dX5_isPlace_10 : decode cX5_isPlace 10 = .ok (.iconst 1, 1) := by decide +kernel
theorem dX5_isPlace_11 : decode cX5_isPlace 11 = .ok (.goto 4, 3) := by decide +kernel
theorem dX5_isPlace_14 : decode cX5_isPlace 14 = .ok (.iconst 0, 1) := by decide +kernel
theorem dX5_isPlace_15 : decode cX5_isPlace 15 = .ok (.ireturn, 1) := by decide +kernel
theorem dX5_fromOneTo_0 : decode cX5_fromOneTo 0 = .ok (.iload_n 1, 1) := by decide +kernel
theorem dX5_fromOneTo_1 : decode cX5_fromOneTo 1 = .ok (.iconst 1, 1) := by decide +kernel
theorem dX5_fromOneTo_2 : decode cX5_fromOneTo 2 = .ok (.if_icmp .lt 12, 3) := by decide +kernel
theorem dX5_fromOneTo_5 : decode cX5_fromOneTo 5 = .ok (.iload_n 1, 1) := by decide +kernel
theorem dX5_fromOneTo_6 : decode cX5_fromOneTo 6 = .ok (.iload_n 0, 1) := by decide +kernel
theorem dX5_fromOneTo_7 : decode cX5_fromOneTo 7 = .ok (.if_icmp .gt 7, 3) := by decide +kernel
theorem dX5_fromOneTo_10 : decode cX5_fromOneTo 10 = .ok (.iload_n 1, 1) := by decide +kernel
theorem dX5_fromOneTo_11 : decode cX5_fromOneTo 11 = .ok (.goto 4, 3) := by decide +kernel
theorem dX5_fromOneTo_14 : decode cX5_fromOneTo 14 = .ok (.iload_n 2, 1) := by decide +kernel
theorem dX5_fromOneTo_15 : decode cX5_fromOneTo 15 = .ok (.ireturn, 1) := by decide +kernel
theorem dX5_keyOf_0 : decode cX5_keyOf 0 = .ok (.iload_n 0, 1) := by decide +kernel
theorem dX5_keyOf_1 : decode cX5_keyOf 1 = .ok (.bipush 15, 2) := by decide +kernel
theorem dX5_keyOf_3 : decode cX5_keyOf 3 = .ok (.ishl, 1) := by decide +kernel
theorem dX5_keyOf_4 : decode cX5_keyOf 4 = .ok (.iload_n 1, 1) := by decide +kernel
theorem dX5_keyOf_5 : decode cX5_keyOf 5 = .ok (.ior, 1) := by decide +kernel
theorem dX5_keyOf_6 : decode cX5_keyOf 6 = .ok (.ireturn, 1) := by decide +kernel
theorem dX5_xOf_0 : decode cX5_xOf 0 = .ok (.iload_n 0, 1) := by decide +kernel
theorem dX5_xOf_1 : decode cX5_xOf 1 = .ok (.bipush 15, 2) := by decide +kernel
theorem dX5_xOf_3 : decode cX5_xOf 3 = .ok (.ishr, 1) := by decide +kernel
theorem dX5_xOf_4 : decode cX5_xOf 4 = .ok (.ireturn, 1) := by decide +kernel
theorem dX5_yOf_0 : decode cX5_yOf 0 = .ok (.iload_n 0, 1) := by decide +kernel
theorem dX5_yOf_1 : decode cX5_yOf 1 = .ok (.sipush 32767, 3) := by decide +kernel
theorem dX5_yOf_4 : decode cX5_yOf 4 = .ok (.iand, 1) := by decide +kernel
theorem dX5_yOf_5 : decode cX5_yOf 5 = .ok (.ireturn, 1) := by decide +kernel
set_option maxRecDepth 20000 in
theorem ggX5_isWithin_X5_xOf : GoodIn wsX5_isWithin wsX5_xOf := goodIn_r _ [4] (by decide +kernel) (by decide +kernel)
set_option maxRecDepth 20000 in
theorem gX5_isWithin_X5_xOf : GoodIn wsX5_isWithin (va_wsS RX5 153 yX5_xOf wsX5_xOf) := goodIn_app (goodIn_of _ (by decide +kernel)) ggX5_isWithin_X5_xOf
set_option maxRecDepth 20000 in
theorem ggX5_isWithin_X5_yOf : GoodIn wsX5_isWithin wsX5_yOf := goodIn_r _ [7] (by decide +kernel) (by decide +kernel)
set_option maxRecDepth 20000 in
theorem gX5_isWithin_X5_yOf : GoodIn wsX5_isWithin (va_wsS RX5 156 yX5_yOf wsX5_yOf) := goodIn_app (goodIn_of _ (by decide +kernel)) ggX5_isWithin_X5_yOf
theorem dX5_isWithin_0 : decode cX5_isWithin 0 = .ok (.iload_n 0, 1) := by decide +kernel
theorem dX5_isWithin_1 : decode cX5_isWithin 1 = .ok (.invokestatic 153, 3) := by decide +kernel
theorem dX5_isWithin_4 : decode cX5_isWithin 4 = .ok (.istore 5, 2) := by decide +kernel
theorem dX5_isWithin_6 : decode cX5_isWithin 6 = .ok (.iload_n 0, 1) := by decide +kernel
theorem dX5_isWithin_7 : decode cX5_isWithin 7 = .ok (.invokestatic 156, 3) := by decide +kernel
theorem dX5_isWithin_10 : decode cX5_isWithin 10 = .ok (.istore 6, 2) := by decide +kernel
theorem dX5_isWithin_12 : decode cX5_isWithin 12 = .ok (.iload_n 1, 1) := by decide +kernel
theorem dX5_isWithin_13 : decode cX5_isWithin 13 = .ok (.iload 5, 2) := by decide +kernel
theorem dX5_isWithin_15 : decode cX5_isWithin 15 = .ok (.if_icmp .gt 26, 3) := by decide +kernel
theorem dX5_isWithin_18 : decode cX5_isWithin 18 = .ok (.iload 5, 2) := by decide +kernel
theorem dX5_isWithin_20 : decode cX5_isWithin 20 = .ok (.iload_n 3, 1) := by decide +kernel
theorem dX5_isWithin_21 : decode cX5_isWithin 21 = .ok (.if_icmp .gt 20, 3) := by decide +kernel
theorem dX5_isWithin_24 : decode cX5_isWithin 24 = .ok (.iload_n 2, 1) := by decide +kernel
theorem dX5_isWithin_25 : decode cX5_isWithin 25 = .ok (.iload 6, 2) := by decide +kernel
theorem dX5_isWithin_27 : decode cX5_isWithin 27 = .ok (.if_icmp .gt 14, 3) := by decide +kernel
theorem dX5_isWithin_30 : decode cX5_isWithin 30 = .ok (.iload 6, 2) := by decide +kernel
theorem dX5_isWithin_32 : decode cX5_isWithin 32 = .ok (.iload 4, 2) := by decide +kernel
theorem dX5_isWithin_34 : decode cX5_isWithin 34 = .ok (.if_icmp .gt 7, 3) := by decide +kernel
theorem dX5_isWithin_37 : decode cX5_isWithin 37 = .ok (.iconst 1, 1) := by decide +kernel
theorem dX5_isWithin_38 : decode cX5_isWithin 38 = .ok (.goto 4, 3) := by decide +kernel
theorem dX5_isWithin_41 : decode cX5_isWithin 41 = .ok (.iconst 0, 1) := by decide +kernel
theorem dX5_isWithin_42 : decode cX5_isWithin 42 = .ok (.ireturn, 1) := by decide +kernel
set_option maxRecDepth 20000 in
theorem ggX5_distance_X5_xOf : GoodIn wsX5_distance wsX5_xOf := goodIn_r _ [4] (by decide +kernel) (by decide +kernel)
set_option maxRecDepth 20000 in
theorem gX5_distance_X5_xOf : GoodIn wsX5_distance (va_wsS RX5 153 yX5_xOf wsX5_xOf) := goodIn_app (goodIn_of _ (by decide +kernel)) ggX5_distance_X5_xOf
set_option maxRecDepth 20000 in
theorem ggX5_distance_X5_yOf : GoodIn wsX5_distance wsX5_yOf := goodIn_r _ [7] (by decide +kernel) (by decide +kernel)
set_option maxRecDepth 20000 in
theorem gX5_distance_X5_yOf : GoodIn wsX5_distance (va_wsS RX5 156 yX5_yOf wsX5_yOf) := goodIn_app (goodIn_of _ (by decide +kernel)) ggX5_distance_X5_yOf
theorem dX5_distance_0 : decode cX5_distance 0 = .ok (.iload_n 0, 1) := by decide +kernel
theorem dX5_distance_1 : decode cX5_distance 1 = .ok (.invokestatic 153, 3) := by decide +kernel
theorem dX5_distance_4 : decode cX5_distance 4 = .ok (.iload_n 1, 1) := by decide +kernel
theorem dX5_distance_5 : decode cX5_distance 5 = .ok (.isub, 1) := by decide +kernel
theorem dX5_distance_6 : decode cX5_distance 6 = .ok (.i2l, 1) := by decide +kernel
theorem dX5_distance_7 : decode cX5_distance 7 = .ok (.lstore_n 3, 1) := by decide +kernel
theorem dX5_distance_8 : decode cX5_distance 8 = .ok (.iload_n 0, 1) := by decide +kernel
theorem dX5_distance_9 : decode cX5_distance 9 = .ok (.invokestatic 156, 3) := by decide +kernel
theorem dX5_distance_12 : decode cX5_distance 12 = .ok (.iload_n 2, 1) := by decide +kernel
theorem dX5_distance_13 : decode cX5_distance 13 = .ok (.isub, 1) := by decide +kernel
theorem dX5_distance_14 : decode cX5_distance 14 = .ok (.i2l, 1) := by decide +kernel
theorem dX5_distance_15 : decode cX5_distance 15 = .ok (.lstore 5, 2) := by decide +kernel
theorem dX5_distance_17 : decode cX5_distance 17 = .ok (.lload_n 3, 1) := by decide +kernel
theorem dX5_distance_18 : decode cX5_distance 18 = .ok (.lload_n 3, 1) := by decide +kernel
theorem dX5_distance_19 : decode cX5_distance 19 = .ok (.lmul, 1) := by decide +kernel
theorem dX5_distance_20 : decode cX5_distance 20 = .ok (.lload 5, 2) := by decide +kernel
theorem dX5_distance_22 : decode cX5_distance 22 = .ok (.lload 5, 2) := by decide +kernel
theorem dX5_distance_24 : decode cX5_distance 24 = .ok (.lmul, 1) := by decide +kernel
theorem dX5_distance_25 : decode cX5_distance 25 = .ok (.ladd, 1) := by decide +kernel
theorem dX5_distance_26 : decode cX5_distance 26 = .ok (.lreturn, 1) := by decide +kernel
theorem dJ9_max_7cf53_0 : decode cJ9_max_7cf53 0 = .ok (.iload_n 0, 1) := by decide +kernel
theorem dJ9_max_7cf53_1 : decode cJ9_max_7cf53 1 = .ok (.iload_n 1, 1) := by decide +kernel
theorem dJ9_max_7cf53_2 : decode cJ9_max_7cf53 2 = .ok (.if_icmp .lt 7, 3) := by decide +kernel
theorem dJ9_max_7cf53_5 : decode cJ9_max_7cf53 5 = .ok (.iload_n 0, 1) := by decide +kernel
theorem dJ9_max_7cf53_6 : decode cJ9_max_7cf53 6 = .ok (.goto 4, 3) := by decide +kernel
theorem dJ9_max_7cf53_9 : decode cJ9_max_7cf53 9 = .ok (.iload_n 1, 1) := by decide +kernel
theorem dJ9_max_7cf53_10 : decode cJ9_max_7cf53 10 = .ok (.ireturn, 1) := by decide +kernel
theorem dJ9_min_7cf53_0 : decode cJ9_min_7cf53 0 = .ok (.iload_n 0, 1) := by decide +kernel
theorem dJ9_min_7cf53_1 : decode cJ9_min_7cf53 1 = .ok (.iload_n 1, 1) := by decide +kernel
theorem dJ9_min_7cf53_2 : decode cJ9_min_7cf53 2 = .ok (.if_icmp .gt 7, 3) := by decide +kernel
theorem dJ9_min_7cf53_5 : decode cJ9_min_7cf53 5 = .ok (.iload_n 0, 1) := by decide +kernel
theorem dJ9_min_7cf53_6 : decode cJ9_min_7cf53 6 = .ok (.goto 4, 3) := by decide +kernel
theorem dJ9_min_7cf53_9 : decode cJ9_min_7cf53 9 = .ok (.iload_n 1, 1) := by decide +kernel
theorem dJ9_min_7cf53_10 : decode cJ9_min_7cf53 10 = .ok (.ireturn, 1) := by decide +kernel
abbrev vwCl : List vw_C := [(RX0, TX0, 3), (RX1, TX1, 4), (RX2, TX2, 4), (RX3, TX3, 4), (RX4, TX4, 9), (RX5, TX5, 12), (RX6, TX6, 25)]
/-! ===== END printed: names ===== -/
end
section
/-! MY OWN ROWS: contracts over a fixed list of cells, calls in one row, returns in one row -/
/-- the links of nest mates, which no method's own words hold -/
def nw (U : State) : Prop := va_Nw (.methodLinkNest RX5 15 yX2_init RX5) U ∧ va_Nw (.methodLinkNest RX5 53 yX0_init RX5) U ∧ va_Nw (.methodLinkNest RX5 60 yX3_init RX5) U ∧ va_Nw (.methodLinkNest RX4 69 yX5_isWithin RX5) U
theorem nw.same {u U : State} (h : u.vm = U.vm) (k : nw u) : nw U := ⟨va_Nw.same rfl h k.1, va_Nw.same rfl h k.2.1, va_Nw.same rfl h k.2.2.1, va_Nw.same rfl h k.2.2.2⟩
theorem nw.warm {s U : State} (hW : s.WarmedH U.vm) (k : nw s) : nw U := ⟨va_Nw.warmM hW k.1, va_Nw.warmM hW k.2.1, va_Nw.warmM hW k.2.2.1, va_Nw.warmM hW k.2.2.2⟩
abbrev kX : Type := va_G × ClassId × ClassId
abbrev kT (X : kX) : List (ClassId × FieldType) := [(X.2.1, .int), (X.2.2, .long)]
/-- a method's start: its cells, the tables -/
def Kst (X : kX) (ws : va_W) (U : State) : Prop := va_P X.1 vwCl ws U.heap ∧ va_K X.1 vwCl (kT X) U ∧ va_D (fun _ => True) ws ∧ nw U
theorem Kst.blind {X : kX} {ws : va_W} {av : List Value} : FrameBlind (va_Pc av (Kst X ws)) := fun a U g mk q => by
  obtain ⟨h0, h1, h2, h3, h4⟩ := q
  exact ⟨h0, h1, va_K.moved (u := U) (U := U.calling g mk a) (Vm.Alike.refl U.vm) h2, h3, nw.same (u := U) (U := U.calling g mk a) rfl h4⟩
/-- the addresses of a list of cells -/
def inW (ws : va_W) : Nat → Prop := fun q => ∃ (k : Nat) (e : va_E), ws[k]? = some (q, e)
theorem inW.self {ws : va_W} {A : Nat → Prop} (h : va_D A ws) : va_D (inW ws) ws := ⟨h.1, fun k q hk => ⟨k, q.2, hk⟩⟩
/-- cells set at places -/
def setAll : va_W → List Nat → va_W → va_W
  | ws, [], _ => ws
  | ws, _ :: _, [] => ws
  | ws, i :: is, w :: wo => setAll (ws.set i w) is wo
theorem setAll_get : ∀ (is : List Nat) (ws wo : va_W), va_nd is = true → is.length = wo.length → (∀ i ∈ is, i < ws.length) → ∀ k : Nat, (∃ j : Nat, is[j]? = some k ∧ (setAll ws is wo)[k]? = wo[j]?) ∨ (k ∉ is ∧ (setAll ws is wo)[k]? = ws[k]?)
  | [], ws, wo, _, _, _, k => Or.inr ⟨List.not_mem_nil, by simp [setAll]⟩
  | i :: is, ws, [], _, hl, _, k => by simp at hl
  | i :: is, ws, w :: wo, hn, hl, hi, k => by
    simp only [va_nd, Bool.and_eq_true, decide_eq_true_eq] at hn
    have hlt : i < ws.length := hi i List.mem_cons_self
    rcases setAll_get is (ws.set i w) wo hn.2 (by simpa using hl) (fun j hj => by rw [List.length_set]; exact hi j (List.mem_cons_of_mem _ hj)) k with ⟨j, h1, h2⟩ | ⟨h1, h2⟩
    · exact Or.inl ⟨j + 1, by simpa using h1, by simpa [setAll] using h2⟩
    · by_cases hk : k = i
      · subst hk
        refine Or.inl ⟨0, rfl, ?_⟩
        show (setAll (ws.set k w) is wo)[k]? = _
        rw [h2, List.getElem?_set_self hlt]; rfl
      · refine Or.inr ⟨fun h => ?_, ?_⟩
        · rcases List.mem_cons.mp h with h | h
          · exact hk h
          · exact h1 h
        · show (setAll (ws.set i w) is wo)[k]? = _
          rw [h2, List.getElem?_set_ne (fun z => hk z.symm)]
theorem k_at {ws wi : va_W} {is : List Nat} (hC : is.map (fun i => ws[i]?) = wi.map some) {j i : Nat} (h : is[j]? = some i) : ws[i]? = wi[j]? := by
  have h1 := congrArg (fun l => l[j]?) hC
  simp only [List.getElem?_map, h, Option.map_some] at h1
  cases hw : wi[j]? with
  | none => rw [hw] at h1; simp at h1
  | some w => rw [hw] at h1; simpa using h1
theorem k_at2 {ws wi : va_W} {is : List Nat} (hC : is.map (fun i => ws[i]?) = wi.map some) {j : Nat} {q : Nat × va_E} (h : wi[j]? = some q) : ∃ i : Nat, is[j]? = some i ∧ ws[i]? = some q := by
  have h1 := congrArg (fun l => l[j]?) hC
  simp only [List.getElem?_map, h, Option.map_some] at h1
  cases hi : is[j]? with
  | none => rw [hi] at h1; simp at h1
  | some i => rw [hi] at h1; exact ⟨i, rfl, by simpa using h1⟩
theorem k_inA {A : Nat → Prop} {ws wi : va_W} (hD : va_D A ws) {is : List Nat} (hC : is.map (fun i => ws[i]?) = wi.map some) : ∀ q, inW wi q → A q := by
  rintro q ⟨k, e, h⟩
  obtain ⟨i, -, h2⟩ := k_at2 hC h
  exact hD.2 i (q, e) h2
theorem k_sub {ws wi : va_W} {is : List Nat} (hC : is.map (fun i => ws[i]?) = wi.map some) : is.filterMap (fun i => ws[i]?) = wi := by
  have h1 := congrArg (List.filterMap id) hC
  simpa [List.filterMap_map] using h1
theorem k_len {ws wi : va_W} {is : List Nat} (hC : is.map (fun i => ws[i]?) = wi.map some) : is.length = wi.length := by
  have h1 := congrArg List.length hC
  simpa using h1
theorem k_lt {ws wi : va_W} {is : List Nat} (hC : is.map (fun i => ws[i]?) = wi.map some) : ∀ i ∈ is, i < ws.length := by
  intro i hi
  obtain ⟨j, hj⟩ := List.getElem?_of_mem hi
  have h1 := k_at hC hj
  have hl : j < is.length := (List.getElem?_eq_some_iff.mp hj).1
  rw [k_len hC] at hl
  rw [List.getElem?_eq_getElem hl] at h1
  exact (List.getElem?_eq_some_iff.mp h1).1
theorem va_D.adr {A : Nat → Prop} {ws ws' : va_W} (h : ws'.map Prod.fst = ws.map Prod.fst) (hD : va_D A ws) : va_D A ws' := by
  have key : ∀ (k : Nat) (q : Nat × va_E), ws'[k]? = some q → ∃ q0 : Nat × va_E, ws[k]? = some q0 ∧ q0.1 = q.1 := by
    intro k q hk
    have h1 := congrArg (fun l => l[k]?) h
    simp only [List.getElem?_map, hk, Option.map_some] at h1
    cases hw : ws[k]? with
    | none => rw [hw] at h1; simp at h1
    | some q0 => rw [hw] at h1; exact ⟨q0, rfl, by simpa using h1.symm⟩
  refine ⟨fun i j x y hi hj hxy => ?_, fun k q hk => ?_⟩
  · obtain ⟨x0, h1, h2⟩ := key i x hi
    obtain ⟨y0, h3, h4⟩ := key j y hj
    exact hD.1 i j x0 y0 h1 h3 (h2.trans (hxy.trans h4.symm))
  · obtain ⟨q0, h1, h2⟩ := key k q hk
    rw [← h2]; exact hD.2 k q0 h1
theorem setAll_adr {ws wi wo : va_W} {is : List Nat} (hn : va_nd is = true) (hC : is.map (fun i => ws[i]?) = wi.map some) (ha : wo.map Prod.fst = wi.map Prod.fst) : (setAll ws is wo).map Prod.fst = ws.map Prod.fst := by
  have hl : is.length = wo.length := by
    have h1 := congrArg List.length ha
    rw [k_len hC]; simpa using h1.symm
  apply List.ext_getElem?
  intro k
  rw [List.getElem?_map, List.getElem?_map]
  rcases setAll_get is ws wo hn hl (k_lt hC) k with ⟨j, h1, h2⟩ | ⟨-, h2⟩
  · rw [h2, k_at hC h1, ← List.getElem?_map, ← List.getElem?_map, ha]
  · rw [h2]
/-- behind a call: the callee's cells as they are now, the others as they were -/
theorem k_join {A : Nat → Prop} {D : va_G} {cl : List vw_C} {ws wi wo : va_W} {H H1 : Heap} (hP : va_P D cl ws H) (hD : va_D A ws) {is : List Nat} (hn : va_nd is = true) (hC : is.map (fun i => ws[i]?) = wi.map some) (ha : wo.map Prod.fst = wi.map Prod.fst)
    (hk : ∀ q : Nat, q < H.size → ¬ inW wi q → H1[q]? = H[q]?) (hP1 : va_P D cl wo H1) : va_P D cl (setAll ws is wo) H1 ∧ va_D A (setAll ws is wo) := by
  have hl : is.length = wo.length := by
    have h1 := congrArg List.length ha
    rw [k_len hC]; simpa using h1.symm
  refine ⟨fun k q hq => ?_, va_D.adr (setAll_adr hn hC ha) hD⟩
  rcases setAll_get is ws wo hn hl (k_lt hC) k with ⟨j, h1, h2⟩ | ⟨h1, h2⟩
  · exact hP1 j q (by rw [← h2]; exact hq)
  · have hw : ws[k]? = some q := by rw [← h2]; exact hq
    refine (hP k q hw).kept (hk q.1 (hP k q hw).lt ?_)
    rintro ⟨j, e, h3⟩
    obtain ⟨i, h4, h5⟩ := k_at2 hC h3
    have h6 := hD.1 k i q (q.1, e) hw h5 rfl
    subst h6
    exact h1 (List.mem_of_getElem? h4)
/-- the rooms: k frames of calls below -/
def rmk (k : Nat) : Room := { frames := k + 1, cells := 0, slots := 0, locals := 100 * (k + 1) }
section KC
variable (l : Launch) (X : kX) (y : MethodName) (wy : List Cond) (k : Nat) (av : List Value) (wi : va_W)
/-- contracts: a method that writes its cells alone (int or boolean, nothing, a reference), one that writes nothing (int, long, a reference or null) -/
abbrev CWi {S : Type} (post : Int32 → S → Prop) (wo : S → va_W) : Prop := Met l y wy (rmk k) (va_Pc av (Kst X wi)) (va_Qi post (fun u t => va_P X.1 vwCl (wo u) t.heap) (inW wi)) 0 0 (inW wi)
abbrev CWv {S : Type} (post : S → Prop) (wo : S → va_W) : Prop := Met l y wy (rmk k) (va_Pc av (Kst X wi)) (va_Qv post (fun u t => va_P X.1 vwCl (wo u) t.heap) (inW wi)) 0 0 (inW wi)
abbrev CWr {S : Type} (a : Nat) (post : S → Prop) (wo : S → va_W) : Prop := Met l y wy (rmk k) (va_Pc av (Kst X wi)) (va_Qr post (fun u b t => b = a ∧ va_P X.1 vwCl (wo u) t.heap) (inW wi)) 0 0 (inW wi)
abbrev CRi (post : Int32 → Prop) : Prop := Met l y wy (rmk k) (va_Pc av (Kst X wi)) (vp_Si post) 0 0 (fun _ => False)
abbrev CRl (post : Int64 → Prop) : Prop := Met l y wy (rmk k) (va_Pc av (Kst X wi)) (vp_Sl post) 0 0 (fun _ => False)
abbrev CRq (post : Option Nat → Prop) : Prop := Met l y wy (rmk k) (va_Pc av (Kst X wi)) (va_Sq post) 0 0 (fun _ => False)
end KC
section KK
variable {p : Program} {l : Launch} {e : Env} {R : Room} {s : State} {m : MethodId} {args : Array Value} {below : List Frame} {meth : Method} {c : Code} {H : Heap} {locs : List Loc} {cells slots : Nat} {Q : State → Prop}
variable {X : kX} {y : MethodName} {wy : List Cond} {k : Nat} {ws wi : va_W} {A : Nat → Prop} {H0 : Heap} {cc bytes : ByteArray} {nL maxL n index pc ci b : Nat} {Ts : List Cond} {own C : String} {ret : Option FieldType} {As rest st0 : List Value} {ls : Array Slot} {is : List Nat} {fs : List Value} {T : u_T} {N : Nat}
theorem k_preV {av : List Value} (hav : av = .ref b :: As) (hK : va_K X.1 vwCl (kT X) s) (hN : nw s) (hP : va_P X.1 vwCl ws H) (hD : va_D A ws) (hn : va_nd is = true) (hC : is.map (fun i => ws[i]?) = wi.map some) (q0 : Nat) (hcl : vwCl[ci]? = some (C, T, N)) (he : wi[q0]? = some (b, .inr (ci, fs))) : PreV s H C b (va_Pc av (Kst X wi)) As := by
  subst hav
  exact ⟨Kst.blind, va_recv hK (hP.sub is (k_sub hC)) hcl he, fun U hU hW => ⟨rfl, by rw [hU]; exact hP.sub is (k_sub hC), va_K.moved hW.alike hK, (hD.sub is hn hC).weaken (fun _ _ _ _ => trivial), hN.warm hW⟩⟩
theorem k_preS {av : List Value} (hav : av = As) (hK : va_K X.1 vwCl (kT X) s) (hN : nw s) (hP : va_P X.1 vwCl ws H) (hD : va_D A ws) (hn : va_nd is = true) (hC : is.map (fun i => ws[i]?) = wi.map some) : PreS s H (va_Pc av (Kst X wi)) As := by
  subst hav
  exact ⟨Kst.blind, fun U hU hW => ⟨rfl, by rw [hU]; exact hP.sub is (k_sub hC), va_K.moved hW.alike hK, (hD.sub is hn hC).weaken (fun _ _ _ _ => trivial), hN.warm hW⟩⟩
theorem ckVi {S : Type} {post : Int32 → S → Prop} {wo : S → va_W} (q0 : Nat) (is : List Nat) (hM : CWi l X y wy k (.ref b :: As) wi post wo) (Fx : CallFix p m c cc nL s args Ts own) (cw : CallW R s args own C index y bytes maxL ret wy (rmk k) 0 0 n) (hK : va_K X.1 vwCl (kT X) s) (hN : nw s) (hP : va_P X.1 vwCl ws H) (hD : va_D A ws) (hS : va_S A H0 H locs) (hn : va_nd is = true) (hC : is.map (fun i => ws[i]?) = wi.map some) (hcl : vwCl[ci]? = some (C, T, N)) (he : wi[q0]? = some (b, .inr (ci, fs))) (ha : ∀ u, (wo u).map Prod.fst = wi.map Prod.fst)
    (hlen : As.length = n) (hsize : ls.size = nL) (hst : st0 = As.reverse ++ .ref b :: rest) (hW : (rest.map fun v => v.category).sum ≤ 8) (hdg : decode cc pc = .ok (.invokevirtual index, 3)) (hf : cells ≤ R.cells ∧ slots ≤ R.slots)
    (kk : ∀ (r : Int32) (u : S) (H1 : Heap) (locs1 : List Loc), post r u → va_P X.1 vwCl (setAll ws is (wo u)) H1 → va_D A (setAll ws is (wo u)) → va_S A H0 H1 locs1 → W p l e R s m args below meth c H1 locs1 cells slots Q (F0 m (pc + 3) ls (.int r :: rest))) : W p l e R s m args below meth c H locs cells slots Q (F0 m pc ls st0) := by
  refine va_calli (va_runV (As := As) (rest := rest) Fx hM cw (k_preV rfl hK hN hP hD hn hC q0 hcl he) rfl hlen hsize hst (lv_room hW) hdg hf) hS (fun q _ h => k_inA hD hC q h) (k_inA hD hC) (fun r u t H1 locs1 ht hvm hp hB hz hk hS1 => ?_)
  rw [ht] at hB
  obtain ⟨hP1, hD1⟩ := k_join hP hD hn hC (ha u) hk hB
  exact kk r u H1 locs1 hp hP1 hD1 hS1
theorem ckVv {S : Type} {post : S → Prop} {wo : S → va_W} (q0 : Nat) (is : List Nat) (hM : CWv l X y wy k (.ref b :: As) wi post wo) (Fx : CallFix p m c cc nL s args Ts own) (cw : CallW R s args own C index y bytes maxL ret wy (rmk k) 0 0 n) (hK : va_K X.1 vwCl (kT X) s) (hN : nw s) (hP : va_P X.1 vwCl ws H) (hD : va_D A ws) (hS : va_S A H0 H locs) (hn : va_nd is = true) (hC : is.map (fun i => ws[i]?) = wi.map some) (hcl : vwCl[ci]? = some (C, T, N)) (he : wi[q0]? = some (b, .inr (ci, fs))) (ha : ∀ u, (wo u).map Prod.fst = wi.map Prod.fst)
    (hlen : As.length = n) (hsize : ls.size = nL) (hst : st0 = As.reverse ++ .ref b :: rest) (hW : (rest.map fun v => v.category).sum ≤ 8) (hdg : decode cc pc = .ok (.invokevirtual index, 3)) (hf : cells ≤ R.cells ∧ slots ≤ R.slots)
    (kk : ∀ (u : S) (H1 : Heap) (locs1 : List Loc), post u → va_P X.1 vwCl (setAll ws is (wo u)) H1 → va_D A (setAll ws is (wo u)) → va_S A H0 H1 locs1 → W p l e R s m args below meth c H1 locs1 cells slots Q (F0 m (pc + 3) ls rest)) : W p l e R s m args below meth c H locs cells slots Q (F0 m pc ls st0) := by
  refine va_callv (va_runV (As := As) (rest := rest) Fx hM cw (k_preV rfl hK hN hP hD hn hC q0 hcl he) rfl hlen hsize hst (lv_room hW) hdg hf) hS (fun q _ h => k_inA hD hC q h) (k_inA hD hC) (fun u t H1 locs1 ht hvm hp hB hz hk hS1 => ?_)
  rw [ht] at hB
  obtain ⟨hP1, hD1⟩ := k_join hP hD hn hC (ha u) hk hB
  exact kk u H1 locs1 hp hP1 hD1 hS1
theorem ckVr {S : Type} {a : Nat} {post : S → Prop} {wo : S → va_W} (q0 : Nat) (is : List Nat) (hM : CWr l X y wy k (.ref b :: As) wi a post wo) (Fx : CallFix p m c cc nL s args Ts own) (cw : CallW R s args own C index y bytes maxL ret wy (rmk k) 0 0 n) (hK : va_K X.1 vwCl (kT X) s) (hN : nw s) (hP : va_P X.1 vwCl ws H) (hD : va_D A ws) (hS : va_S A H0 H locs) (hn : va_nd is = true) (hC : is.map (fun i => ws[i]?) = wi.map some) (hcl : vwCl[ci]? = some (C, T, N)) (he : wi[q0]? = some (b, .inr (ci, fs))) (ha : ∀ u, (wo u).map Prod.fst = wi.map Prod.fst)
    (hlen : As.length = n) (hsize : ls.size = nL) (hst : st0 = As.reverse ++ .ref b :: rest) (hW : (rest.map fun v => v.category).sum ≤ 8) (hdg : decode cc pc = .ok (.invokevirtual index, 3)) (hf : cells ≤ R.cells ∧ slots ≤ R.slots)
    (kk : ∀ (u : S) (H1 : Heap) (locs1 : List Loc), post u → va_P X.1 vwCl (setAll ws is (wo u)) H1 → va_D A (setAll ws is (wo u)) → va_S A H0 H1 locs1 → W p l e R s m args below meth c H1 locs1 cells slots Q (F0 m (pc + 3) ls (.ref a :: rest))) : W p l e R s m args below meth c H locs cells slots Q (F0 m pc ls st0) := by
  refine va_callr (va_runV (As := As) (rest := rest) Fx hM cw (k_preV rfl hK hN hP hD hn hC q0 hcl he) rfl hlen hsize hst (lv_room hW) hdg hf) hS (fun q _ h => k_inA hD hC q h) (k_inA hD hC) (fun u ra t H1 locs1 ht hvm hp hB hz hk hS1 => ?_)
  obtain ⟨rfl, hB⟩ := hB
  rw [ht] at hB
  obtain ⟨hP1, hD1⟩ := k_join hP hD hn hC (ha u) hk hB
  exact kk u H1 locs1 hp hP1 hD1 hS1
theorem ckSv {S : Type} {post : S → Prop} {wo : S → va_W} (is : List Nat) (hM : CWv l X y wy k As wi post wo) (Fx : CallFix p m c cc nL s args Ts own) (cw : CallB R s args own index y bytes maxL ret wy (rmk k) 0 0 n ∧ (Cond.static y).before args s = true) (hK : va_K X.1 vwCl (kT X) s) (hN : nw s) (hP : va_P X.1 vwCl ws H) (hD : va_D A ws) (hS : va_S A H0 H locs) (hn : va_nd is = true) (hC : is.map (fun i => ws[i]?) = wi.map some) (ha : ∀ u, (wo u).map Prod.fst = wi.map Prod.fst)
    (hlen : As.length = n) (hsize : ls.size = nL) (hst : st0 = As.reverse ++ rest) (hW : (rest.map fun v => v.category).sum ≤ 8) (hdg : decode cc pc = .ok (.invokestatic index, 3)) (hf : cells ≤ R.cells ∧ slots ≤ R.slots)
    (kk : ∀ (u : S) (H1 : Heap) (locs1 : List Loc), post u → va_P X.1 vwCl (setAll ws is (wo u)) H1 → va_D A (setAll ws is (wo u)) → va_S A H0 H1 locs1 → W p l e R s m args below meth c H1 locs1 cells slots Q (F0 m (pc + 3) ls rest)) : W p l e R s m args below meth c H locs cells slots Q (F0 m pc ls st0) := by
  refine va_callv (va_runS (As := As) (rest := rest) Fx hM cw (k_preS rfl hK hN hP hD hn hC) rfl hlen hsize hst (lv_room hW) hdg hf) hS (fun q _ h => k_inA hD hC q h) (k_inA hD hC) (fun u t H1 locs1 ht hvm hp hB hz hk hS1 => ?_)
  rw [ht] at hB
  obtain ⟨hP1, hD1⟩ := k_join hP hD hn hC (ha u) hk hB
  exact kk u H1 locs1 hp hP1 hD1 hS1
theorem ckVRi {post : Int32 → Prop} (q0 : Nat) (is : List Nat) (hM : CRi l X y wy k (.ref b :: As) wi post) (Fx : CallFix p m c cc nL s args Ts own) (cw : CallW R s args own C index y bytes maxL ret wy (rmk k) 0 0 n) (hK : va_K X.1 vwCl (kT X) s) (hN : nw s) (hP : va_P X.1 vwCl ws H) (hD : va_D A ws) (hn : va_nd is = true) (hC : is.map (fun i => ws[i]?) = wi.map some) (hcl : vwCl[ci]? = some (C, T, N)) (he : wi[q0]? = some (b, .inr (ci, fs)))
    (hlen : As.length = n) (hsize : ls.size = nL) (hst : st0 = As.reverse ++ .ref b :: rest) (hW : (rest.map fun v => v.category).sum ≤ 8) (hdg : decode cc pc = .ok (.invokevirtual index, 3)) (hf : cells ≤ R.cells ∧ slots ≤ R.slots)
    (kk : ∀ r : Int32, post r → W p l e R s m args below meth c H locs cells slots Q (F0 m (pc + 3) ls (.int r :: rest))) : W p l e R s m args below meth c H locs cells slots Q (F0 m pc ls st0) :=
  vp_callSi (va_runV (As := As) (rest := rest) Fx hM cw (k_preV rfl hK hN hP hD hn hC q0 hcl he) rfl hlen hsize hst (lv_room hW) hdg hf).run kk
theorem ckVRl {post : Int64 → Prop} (q0 : Nat) (is : List Nat) (hM : CRl l X y wy k (.ref b :: As) wi post) (Fx : CallFix p m c cc nL s args Ts own) (cw : CallW R s args own C index y bytes maxL ret wy (rmk k) 0 0 n) (hK : va_K X.1 vwCl (kT X) s) (hN : nw s) (hP : va_P X.1 vwCl ws H) (hD : va_D A ws) (hn : va_nd is = true) (hC : is.map (fun i => ws[i]?) = wi.map some) (hcl : vwCl[ci]? = some (C, T, N)) (he : wi[q0]? = some (b, .inr (ci, fs)))
    (hlen : As.length = n) (hsize : ls.size = nL) (hst : st0 = As.reverse ++ .ref b :: rest) (hW : (rest.map fun v => v.category).sum ≤ 8) (hdg : decode cc pc = .ok (.invokevirtual index, 3)) (hf : cells ≤ R.cells ∧ slots ≤ R.slots)
    (kk : ∀ r : Int64, post r → W p l e R s m args below meth c H locs cells slots Q (F0 m (pc + 3) ls (.long r :: rest))) : W p l e R s m args below meth c H locs cells slots Q (F0 m pc ls st0) :=
  vp_callSl (va_runV (As := As) (rest := rest) Fx hM cw (k_preV rfl hK hN hP hD hn hC q0 hcl he) rfl hlen hsize hst (lv_room hW) hdg hf).run kk
theorem ckVRq {post : Option Nat → Prop} (q0 : Nat) (is : List Nat) (hM : CRq l X y wy k (.ref b :: As) wi post) (Fx : CallFix p m c cc nL s args Ts own) (cw : CallW R s args own C index y bytes maxL ret wy (rmk k) 0 0 n) (hK : va_K X.1 vwCl (kT X) s) (hN : nw s) (hP : va_P X.1 vwCl ws H) (hD : va_D A ws) (hn : va_nd is = true) (hC : is.map (fun i => ws[i]?) = wi.map some) (hcl : vwCl[ci]? = some (C, T, N)) (he : wi[q0]? = some (b, .inr (ci, fs)))
    (hlen : As.length = n) (hsize : ls.size = nL) (hst : st0 = As.reverse ++ .ref b :: rest) (hW : (rest.map fun v => v.category).sum ≤ 8) (hdg : decode cc pc = .ok (.invokevirtual index, 3)) (hf : cells ≤ R.cells ∧ slots ≤ R.slots)
    (kk : ∀ r : Option Nat, post r → W p l e R s m args below meth c H locs cells slots Q (F0 m (pc + 3) ls (va_rf r :: rest))) : W p l e R s m args below meth c H locs cells slots Q (F0 m pc ls st0) :=
  va_csq (va_runV (As := As) (rest := rest) Fx hM cw (k_preV rfl hK hN hP hD hn hC q0 hcl he) rfl hlen hsize hst (lv_room hW) hdg hf).run kk
theorem ckSRi {post : Int32 → Prop} (is : List Nat) (hM : CRi l X y wy k As wi post) (Fx : CallFix p m c cc nL s args Ts own) (cw : CallB R s args own index y bytes maxL ret wy (rmk k) 0 0 n ∧ (Cond.static y).before args s = true) (hK : va_K X.1 vwCl (kT X) s) (hN : nw s) (hP : va_P X.1 vwCl ws H) (hD : va_D A ws) (hn : va_nd is = true) (hC : is.map (fun i => ws[i]?) = wi.map some)
    (hlen : As.length = n) (hsize : ls.size = nL) (hst : st0 = As.reverse ++ rest) (hW : (rest.map fun v => v.category).sum ≤ 8) (hdg : decode cc pc = .ok (.invokestatic index, 3)) (hf : cells ≤ R.cells ∧ slots ≤ R.slots)
    (kk : ∀ r : Int32, post r → W p l e R s m args below meth c H locs cells slots Q (F0 m (pc + 3) ls (.int r :: rest))) : W p l e R s m args below meth c H locs cells slots Q (F0 m pc ls st0) :=
  vp_callSi (va_runS (As := As) (rest := rest) Fx hM cw (k_preS rfl hK hN hP hD hn hC) rfl hlen hsize hst (lv_room hW) hdg hf).run kk
theorem ckSRl {post : Int64 → Prop} (is : List Nat) (hM : CRl l X y wy k As wi post) (Fx : CallFix p m c cc nL s args Ts own) (cw : CallB R s args own index y bytes maxL ret wy (rmk k) 0 0 n ∧ (Cond.static y).before args s = true) (hK : va_K X.1 vwCl (kT X) s) (hN : nw s) (hP : va_P X.1 vwCl ws H) (hD : va_D A ws) (hn : va_nd is = true) (hC : is.map (fun i => ws[i]?) = wi.map some)
    (hlen : As.length = n) (hsize : ls.size = nL) (hst : st0 = As.reverse ++ rest) (hW : (rest.map fun v => v.category).sum ≤ 8) (hdg : decode cc pc = .ok (.invokestatic index, 3)) (hf : cells ≤ R.cells ∧ slots ≤ R.slots)
    (kk : ∀ r : Int64, post r → W p l e R s m args below meth c H locs cells slots Q (F0 m (pc + 3) ls (.long r :: rest))) : W p l e R s m args below meth c H locs cells slots Q (F0 m pc ls st0) :=
  vp_callSl (va_runS (As := As) (rest := rest) Fx hM cw (k_preS rfl hK hN hP hD hn hC) rfl hlen hsize hst (lv_room hW) hdg hf).run kk
theorem ckNRi {post : Int32 → Prop} {host : String} (is : List Nat) (hM : CRi l X y wy k As wi post) (Fx : CallFix p m c cc nL s args Ts own) (cw : va_CN R s args own index y host bytes maxL ret wy (rmk k) 0 0 n ∧ (Cond.static y).before args s = true ∧ True) (hK : va_K X.1 vwCl (kT X) s) (hN : nw s) (hP : va_P X.1 vwCl ws H) (hD : va_D A ws) (hn : va_nd is = true) (hC : is.map (fun i => ws[i]?) = wi.map some)
    (hlen : As.length = n) (hsize : ls.size = nL) (hst : st0 = As.reverse ++ rest) (hW : (rest.map fun v => v.category).sum ≤ 8) (hdg : decode cc pc = .ok (.invokestatic index, 3)) (hf : cells ≤ R.cells ∧ slots ≤ R.slots)
    (kk : ∀ r : Int32, post r → W p l e R s m args below meth c H locs cells slots Q (F0 m (pc + 3) ls (.int r :: rest))) : W p l e R s m args below meth c H locs cells slots Q (F0 m pc ls st0) :=
  vp_callSi (va_runSN (As := As) (rest := rest) Fx hM cw (k_preS rfl hK hN hP hD hn hC) rfl hlen hsize hst (lv_room hW) hdg hf).run kk
end KK
section KR
variable {p : Program} {l : Launch} {e : Env} {R : Room} {s : State} {m : MethodId} {args : Array Value} {below : List Frame} {meth : Method} {c : Code} {H : Heap} {locs : List Loc} {X : kX} {wi : va_W} {cc : ByteArray} {pc : Nat} {ls : Array Slot}
/-- returns -/
theorem rtI {S : Type} {post : Int32 → S → Prop} {wo : S → va_W} {v : Int32} (u : S) (hx : p.tables.exec = Jvm.exec) (hb : c.code = cc) (hr : meth.sig.returnType = some .int) (hlocks : meth.locks = false) (hP : va_P X.1 vwCl (wo u) H) {A : Nat → Prop} (hS : va_S A s.heap H locs) (hpost : post v u) (hdg : decode cc pc = .ok (.ireturn, 1)) : W p l e R s m args below meth c H locs 0 0 (MQ below (va_Qi post (fun u t => va_P X.1 vwCl (wo u) t.heap) A) args s 0 0 A) (F0 m pc ls [.int v]) :=
  W.iret hx hb hr (fun t ht _ => ⟨⟨v, u, rfl, hpost, by show va_P X.1 vwCl (wo u) t.heap; rw [ht]; exact hP⟩, hS.F ht⟩) hS.2.2 hdg hlocks
theorem rtZ {S : Type} {post : Int32 → S → Prop} {wo : S → va_W} {v : Int32} (u : S) (hx : p.tables.exec = Jvm.exec) (hb : c.code = cc) (hr : meth.sig.returnType = some .boolean) (hlocks : meth.locks = false) (hn : narrow .boolean (.int v) = .int v) (hP : va_P X.1 vwCl (wo u) H) {A : Nat → Prop} (hS : va_S A s.heap H locs) (hpost : post v u) (hdg : decode cc pc = .ok (.ireturn, 1)) : W p l e R s m args below meth c H locs 0 0 (MQ below (va_Qi post (fun u t => va_P X.1 vwCl (wo u) t.heap) A) args s 0 0 A) (F0 m pc ls [.int v]) :=
  W.zret hx hb hr hn (fun t ht _ => ⟨⟨v, u, rfl, hpost, by show va_P X.1 vwCl (wo u) t.heap; rw [ht]; exact hP⟩, hS.F ht⟩) hS.2.2 hdg hlocks
theorem rtV {S : Type} {post : S → Prop} {wo : S → va_W} (u : S) (hx : p.tables.exec = Jvm.exec) (hb : c.code = cc) (hr : meth.sig.returnType = none) (hlocks : meth.locks = false) (hP : va_P X.1 vwCl (wo u) H) {A : Nat → Prop} (hS : va_S A s.heap H locs) (hpost : post u) (hdg : decode cc pc = .ok (.return_, 1)) : W p l e R s m args below meth c H locs 0 0 (MQ below (va_Qv post (fun u t => va_P X.1 vwCl (wo u) t.heap) A) args s 0 0 A) (F0 m pc ls []) :=
  W.vret hx hb hr (fun t ht _ => ⟨⟨u, rfl, hpost, by show va_P X.1 vwCl (wo u) t.heap; rw [ht]; exact hP⟩, hS.F ht⟩) hS.2.2 hdg hlocks
theorem rtA {S : Type} {post : S → Prop} {wo : S → va_W} {a : Nat} {nm : String} (u : S) (hx : p.tables.exec = Jvm.exec) (hb : c.code = cc) (hr : meth.sig.returnType = some (.object nm)) (hlocks : meth.locks = false) (hP : va_P X.1 vwCl (wo u) H) {A : Nat → Prop} (hS : va_S A s.heap H locs) (hpost : post u) (hdg : decode cc pc = .ok (.areturn, 1)) : W p l e R s m args below meth c H locs 0 0 (MQ below (va_Qr post (fun u b t => b = a ∧ va_P X.1 vwCl (wo u) t.heap) A) args s 0 0 A) (F0 m pc ls [.ref a]) :=
  W.aret hx hb hr (Or.inl ⟨nm, rfl⟩) (Or.inr ⟨a, rfl⟩) (fun t ht _ => ⟨⟨u, a, rfl, hpost, rfl, by show va_P X.1 vwCl (wo u) t.heap; rw [ht]; exact hP⟩, hS.F ht⟩) hS.2.2 hdg hlocks
theorem rtRI {post : Int32 → Prop} {v : Int32} (hx : p.tables.exec = Jvm.exec) (hb : c.code = cc) (hr : meth.sig.returnType = some .int) (hlocks : meth.locks = false) (hpost : post v) (hdg : decode cc pc = .ok (.ireturn, 1)) : W p l e R s m args below meth c s.heap [] 0 0 (MQ below (vp_Si post) args s 0 0 (fun _ => False)) (F0 m pc ls [.int v]) :=
  W.iret hx hb hr (fun t ht _ => ⟨v, rfl, hpost, ht⟩) (fun _ h => by cases h) hdg hlocks
theorem rtRZ {post : Int32 → Prop} {v : Int32} (hx : p.tables.exec = Jvm.exec) (hb : c.code = cc) (hr : meth.sig.returnType = some .boolean) (hlocks : meth.locks = false) (hn : narrow .boolean (.int v) = .int v) (hpost : post v) (hdg : decode cc pc = .ok (.ireturn, 1)) : W p l e R s m args below meth c s.heap [] 0 0 (MQ below (vp_Si post) args s 0 0 (fun _ => False)) (F0 m pc ls [.int v]) :=
  W.zret hx hb hr hn (fun t ht _ => ⟨v, rfl, hpost, ht⟩) (fun _ h => by cases h) hdg hlocks
theorem rtRL {post : Int64 → Prop} {v : Int64} (hx : p.tables.exec = Jvm.exec) (hb : c.code = cc) (hr : meth.sig.returnType = some .long) (hlocks : meth.locks = false) (hpost : post v) (hdg : decode cc pc = .ok (.lreturn, 1)) : W p l e R s m args below meth c s.heap [] 0 0 (MQ below (vp_Sl post) args s 0 0 (fun _ => False)) (F0 m pc ls [.long v]) :=
  W.lret hx hb hr (fun t ht _ => ⟨v, rfl, hpost, ht⟩) (fun _ h => by cases h) hdg hlocks
theorem rtRQ {post : Option Nat → Prop} {v : Option Nat} {w : Value} {nm : String} (hw : w = va_rf v) (hx : p.tables.exec = Jvm.exec) (hb : c.code = cc) (hr : meth.sig.returnType = some (.object nm)) (hlocks : meth.locks = false) (hpost : post v) (hdg : decode cc pc = .ok (.areturn, 1)) : W p l e R s m args below meth c s.heap [] 0 0 (MQ below (va_Sq post) args s 0 0 (fun _ => False)) (F0 m pc ls [w]) := by
  subst hw
  exact W.aret hx hb hr (Or.inl ⟨nm, rfl⟩) (va_rf_or v) (fun t ht _ => ⟨v, rfl, hpost, ht⟩) (fun _ h => by cases h) hdg hlocks
end KR
section KQ
variable {p : Program} {l : Launch} {e : Env} {R : Room} {s : State} {m : MethodId} {args : Array Value} {below : List Frame} {meth : Method} {c : Code} {H : Heap} {locs : List Loc} {cells slots : Nat} {Q Q' : State → Prop} {g : JFrame}
theorem wM (h : ∀ t, Q t → Q' t) (k : W p l e R s m args below meth c H locs cells slots Q g) : W p l e R s m args below meth c H locs cells slots Q' g := fun T hT X => by
  obtain ⟨t, a, b⟩ := k T hT X
  exact ⟨t, a, h t b⟩
theorem wQ (k : ∀ Q' : State → Prop, (∀ t, Q t → Q' t) → W p l e R s m args below meth c H locs cells slots Q' g) : W p l e R s m args below meth c H locs cells slots Q g := k Q (fun _ h => h)
end KQ
theorem ii_m1 {a : Nat} (h : 1 ≤ a) : nI a + Int32.ofInt (-1) = nI (a - 1) := by
  obtain ⟨b, rfl⟩ : ∃ b, a = b + 1 := ⟨a - 1, by omega⟩
  rw [show Int32.ofInt (-1) = -1 from by decide, Nat.add_sub_cancel]
  exact pk_m1 b
theorem sw_cases (x : Int32) (n : Nat) : (x.toInt < 0 ∨ (n : Int) ≤ x.toInt) ∨ ∃ j : Nat, j < n ∧ x = nI j := by
  by_cases h0 : x < 0
  · exact Or.inl (Or.inl (by have := Int32.lt_iff_toInt_lt.mp h0; simpa using this))
  · obtain ⟨j, hj, rfl⟩ := nI_of h0
    rw [nI_toInt hj]
    by_cases h : j < n
    · exact Or.inr ⟨j, h, rfl⟩
    · exact Or.inl (Or.inr (by omega))
theorem sw_lt3 {j : Nat} (h : j < 3) : j = 0 ∨ j = 1 ∨ j = 2 := by omega
theorem sw_lt6 {j : Nat} (h : j < 6) : j = 0 ∨ j = 1 ∨ j = 2 ∨ j = 3 ∨ j = 4 ∨ j = 5 := by omega
theorem sw_lt11 {j : Nat} (h : j < 11) : j = 0 ∨ j = 1 ∨ j = 2 ∨ j = 3 ∨ j = 4 ∨ j = 5 ∨ j = 6 ∨ j = 7 ∨ j = 8 ∨ j = 9 ∨ j = 10 := by omega
theorem sw_lt16 {j : Nat} (h : j < 16) : j = 0 ∨ j = 1 ∨ j = 2 ∨ j = 3 ∨ j = 4 ∨ j = 5 ∨ j = 6 ∨ j = 7 ∨ j = 8 ∨ j = 9 ∨ j = 10 ∨ j = 11 ∨ j = 12 ∨ j = 13 ∨ j = 14 ∨ j = 15 := by omega
end
section
/-! PURE: a STATE's points as a list of (key, value), sorted by the key -/
abbrev PL : Type := List (Nat × Nat)
def pK (L : PL) (i : Nat) : Nat := (L.getD i (0, 0)).1
def pV (L : PL) (i : Nat) : Nat := (L.getD i (0, 0)).2
def pSort (L : PL) : Prop := L.Pairwise (fun a b => a.1 < b.1)
def rk : PL → Nat → Nat
  | [], _ => 0
  | q :: L, key => if q.1 < key then rk L key + 1 else 0
def lkp : PL → Nat → Option Nat
  | [], _ => none
  | q :: L, key => if q.1 = key then some q.2 else lkp L key
def pput : PL → Nat → Nat → PL
  | [], key, v => [(key, v)]
  | q :: L, key, v => if q.1 < key then q :: pput L key v else if q.1 = key then (key, v) :: L else (key, v) :: q :: L
def pdel : PL → Nat → PL
  | [], _ => []
  | q :: L, key => if q.1 = key then L else q :: pdel L key
theorem pK_0 (q : Nat × Nat) (L : PL) : pK (q :: L) 0 = q.1 := rfl
theorem pK_s (q : Nat × Nat) (L : PL) (i : Nat) : pK (q :: L) (i + 1) = pK L i := rfl
theorem pV_0 (q : Nat × Nat) (L : PL) : pV (q :: L) 0 = q.2 := rfl
theorem pV_s (q : Nat × Nat) (L : PL) (i : Nat) : pV (q :: L) (i + 1) = pV L i := rfl
theorem pK_mem {L : PL} {i : Nat} (h : i < L.length) : (pK L i, pV L i) ∈ L := by
  have : L.getD i (0, 0) = L[i] := by simp [h]
  unfold pK pV
  rw [this]
  exact List.getElem_mem h
theorem rk_le : ∀ (L : PL) (key : Nat), rk L key ≤ L.length
  | [], _ => Nat.le_refl _
  | q :: L, key => by
    unfold rk
    split
    · exact Nat.succ_le_succ (rk_le L key)
    · exact Nat.zero_le _
theorem rk_lt : ∀ (L : PL) (key i : Nat), i < rk L key → pK L i < key
  | [], _, i, h => by simp [rk] at h
  | q :: L, key, i, h => by
    unfold rk at h
    split at h
    · cases i with
      | zero => assumption
      | succ i => exact rk_lt L key i (by omega)
    · omega
theorem sort_mem {q : Nat × Nat} {L : PL} (h : pSort (q :: L)) {i : Nat} (hi : i < L.length) : q.1 < pK L i := (List.pairwise_cons.mp h).1 _ (pK_mem hi)
theorem rk_ge : ∀ (L : PL) (key i : Nat), pSort L → rk L key ≤ i → i < L.length → key ≤ pK L i
  | [], _, i, _, _, h => by simp at h
  | q :: L, key, i, hs, h, hl => by
    unfold rk at h
    split at h
    · cases i with
      | zero => omega
      | succ i => exact rk_ge L key i (List.pairwise_cons.mp hs).2 (by omega) (by simpa using hl)
    · rename_i hq
      cases i with
      | zero => rw [pK_0]; omega
      | succ i =>
        have h1 := sort_mem hs (i := i) (by simpa using hl)
        rw [pK_s]; omega
/-- sorted by index -/
theorem sort_ij : ∀ {L : PL} {i j : Nat}, pSort L → i < j → j < L.length → pK L i < pK L j
  | [], i, j, _, _, h => by simp at h
  | q :: L, 0, 0, _, h, _ => by omega
  | q :: L, 0, j + 1, hs, _, hj => sort_mem hs (by simpa using hj)
  | q :: L, i + 1, 0, _, h, _ => by omega
  | q :: L, i + 1, j + 1, hs, h, hj => sort_ij (L := L) (List.pairwise_cons.mp hs).2 (by omega) (by simpa using hj)
/-- at its rank a key stands, or nowhere -/
theorem lkp_rk : ∀ (L : PL) (key : Nat), pSort L → lkp L key = if rk L key < L.length ∧ pK L (rk L key) = key then some (pV L (rk L key)) else none
  | [], key, _ => by simp [lkp, rk]
  | q :: L, key, hs => by
    have hs2 := (List.pairwise_cons.mp hs).2
    unfold lkp rk
    by_cases h1 : q.1 < key
    · have h2 : ¬ q.1 = key := by omega
      rw [if_neg h2, if_pos h1, lkp_rk L key hs2, pK_s, pV_s]
      simp
    · rw [if_neg h1, pK_0, pV_0]
      by_cases h2 : q.1 = key
      · rw [if_pos h2, if_pos ⟨by simp, h2⟩]
      · rw [if_neg h2, if_neg (fun z => h2 z.2), lkp_rk L key hs2, if_neg]
        rintro ⟨h3, h4⟩
        have h5 := sort_mem hs h3
        omega
theorem pput_new : ∀ (L : PL) (key v : Nat), pSort L → ¬ (rk L key < L.length ∧ pK L (rk L key) = key) → pput L key v = L.take (rk L key) ++ (key, v) :: L.drop (rk L key)
  | [], key, v, _, _ => by simp [pput]
  | q :: L, key, v, hs, h => by
    unfold pput
    by_cases h1 : q.1 < key
    · have e : rk (q :: L) key = rk L key + 1 := by simp [rk, h1]
      rw [if_pos h1, e, List.take_succ_cons, List.drop_succ_cons, List.cons_append, pput_new L key v (List.pairwise_cons.mp hs).2 (fun z => h (by rw [e, pK_s]; exact ⟨by simpa using z.1, z.2⟩))]
    · have e : rk (q :: L) key = 0 := by simp [rk, h1]
      have h2 : ¬ q.1 = key := fun z => h (by rw [e, pK_0]; exact ⟨by simp, z⟩)
      rw [if_neg h1, if_neg h2, e]; rfl
theorem pput_old : ∀ (L : PL) (key v : Nat), pSort L → rk L key < L.length → pK L (rk L key) = key → pput L key v = L.set (rk L key) (key, v)
  | [], key, v, _, h, _ => by simp [rk] at h
  | q :: L, key, v, hs, h, hk => by
    unfold pput
    by_cases h1 : q.1 < key
    · have e : rk (q :: L) key = rk L key + 1 := by simp [rk, h1]
      rw [e] at h hk ⊢
      rw [if_pos h1, List.set_cons_succ, pput_old L key v (List.pairwise_cons.mp hs).2 (by simpa using h) hk]
    · have e : rk (q :: L) key = 0 := by simp [rk, h1]
      rw [e] at hk ⊢
      rw [pK_0] at hk
      rw [if_neg h1, if_pos hk]; rfl
theorem pdel_old : ∀ (L : PL) (key : Nat), pSort L → rk L key < L.length → pK L (rk L key) = key → pdel L key = L.take (rk L key) ++ L.drop (rk L key + 1)
  | [], key, _, h, _ => by simp [rk] at h
  | q :: L, key, hs, h, hk => by
    unfold pdel
    by_cases h1 : q.1 < key
    · have e : rk (q :: L) key = rk L key + 1 := by simp [rk, h1]
      rw [e] at h hk ⊢
      rw [if_neg (by omega), List.take_succ_cons, List.drop_succ_cons, List.cons_append, pdel_old L key (List.pairwise_cons.mp hs).2 (by simpa using h) hk]
    · have e : rk (q :: L) key = 0 := by simp [rk, h1]
      rw [e] at hk ⊢
      rw [pK_0] at hk
      rw [if_pos hk]; rfl
theorem pdel_new : ∀ (L : PL) (key : Nat), pSort L → ¬ (rk L key < L.length ∧ pK L (rk L key) = key) → pdel L key = L
  | [], key, _, _ => rfl
  | q :: L, key, hs, h => by
    unfold pdel
    by_cases h1 : q.1 < key
    · have e : rk (q :: L) key = rk L key + 1 := by simp [rk, h1]
      rw [if_neg (by omega), pdel_new L key (List.pairwise_cons.mp hs).2 (fun z => h (by rw [e, pK_s]; exact ⟨by simpa using z.1, z.2⟩))]
    · have e : rk (q :: L) key = 0 := by simp [rk, h1]
      have h2 : ¬ q.1 = key := fun z => h (by rw [e, pK_0]; exact ⟨by simp, z⟩)
      rw [if_neg h2]
      by_cases h3 : ∃ i, i < L.length ∧ pK L i = key
      · obtain ⟨i, h4, h5⟩ := h3
        have := sort_mem hs h4
        omega
      · rw [pdel_new L key (List.pairwise_cons.mp hs).2 (fun z => h3 ⟨_, z⟩)]
theorem lkp_none {L : PL} {key : Nat} (h : ∀ q ∈ L, q.1 ≠ key) : lkp L key = none := by
  induction L with
  | nil => rfl
  | cons q L ih =>
    unfold lkp
    rw [if_neg (h q List.mem_cons_self)]
    exact ih (fun z hz => h z (List.mem_cons_of_mem _ hz))
theorem lkp_some {L : PL} {key v : Nat} (h : lkp L key = some v) : (key, v) ∈ L := by
  induction L with
  | nil => simp [lkp] at h
  | cons q L ih =>
    unfold lkp at h
    split at h
    · rename_i h1
      cases h
      have : q = (key, q.2) := by rw [← h1]
      rw [← this]; exact List.mem_cons_self
    · exact List.mem_cons_of_mem _ (ih h)
theorem lkp_mem {L : PL} {key v : Nat} (hs : pSort L) (h : (key, v) ∈ L) : lkp L key = some v := by
  induction L with
  | nil => simp at h
  | cons q L ih =>
    unfold lkp
    rcases List.mem_cons.mp h with h | h
    · rw [← h]; simp
    · have := (List.pairwise_cons.mp hs).1 _ h
      rw [if_neg (by have : q.1 < key := this; omega)]
      exact ih (List.pairwise_cons.mp hs).2 h
theorem pput_mem {L : PL} {key v : Nat} {q : Nat × Nat} (h : q ∈ pput L key v) : q = (key, v) ∨ q ∈ L := by
  induction L with
  | nil => left; simpa [pput] using h
  | cons r L ih =>
    unfold pput at h
    split at h
    · rcases List.mem_cons.mp h with h | h
      · right; rw [h]; exact List.mem_cons_self
      · rcases ih h with h | h
        · exact Or.inl h
        · exact Or.inr (List.mem_cons_of_mem _ h)
    · split at h
      · rcases List.mem_cons.mp h with h | h
        · exact Or.inl h
        · exact Or.inr (List.mem_cons_of_mem _ h)
      · rcases List.mem_cons.mp h with h | h
        · exact Or.inl h
        · exact Or.inr h
theorem pdel_mem {L : PL} {key : Nat} {q : Nat × Nat} (h : q ∈ pdel L key) : q ∈ L := by
  induction L with
  | nil => simp [pdel] at h
  | cons r L ih =>
    unfold pdel at h
    split at h
    · exact List.mem_cons_of_mem _ h
    · rcases List.mem_cons.mp h with h | h
      · rw [h]; exact List.mem_cons_self
      · exact List.mem_cons_of_mem _ (ih h)
theorem pput_sort {L : PL} {key v : Nat} (hs : pSort L) : pSort (pput L key v) := by
  induction L with
  | nil => simp [pput, pSort]
  | cons r L ih =>
    have h2 := List.pairwise_cons.mp hs
    unfold pput
    split
    · rename_i h1
      refine List.pairwise_cons.mpr ⟨fun q hq => ?_, ih h2.2⟩
      rcases pput_mem hq with h | h
      · rw [h]; exact h1
      · exact h2.1 q h
    · split
      · rename_i h1 h3
        exact List.pairwise_cons.mpr ⟨fun q hq => by have := h2.1 q hq; show key < q.1; omega, h2.2⟩
      · rename_i h1 h3
        refine List.pairwise_cons.mpr ⟨fun q hq => ?_, hs⟩
        show key < q.1
        rcases List.mem_cons.mp hq with h | h
        · rw [h]; omega
        · have := h2.1 q h; omega
theorem pdel_sort {L : PL} {key : Nat} (hs : pSort L) : pSort (pdel L key) := by
  induction L with
  | nil => simp [pdel, pSort]
  | cons r L ih =>
    have h2 := List.pairwise_cons.mp hs
    unfold pdel
    split
    · exact h2.2
    · exact List.pairwise_cons.mpr ⟨fun q hq => h2.1 q (pdel_mem hq), ih h2.2⟩
theorem lkp_pput {L : PL} {key v k2 : Nat} (hs : pSort L) : lkp (pput L key v) k2 = if k2 = key then some v else lkp L k2 := by
  induction L with
  | nil =>
    by_cases h : k2 = key
    · subst h; simp [pput, lkp]
    · have h' : ¬ key = k2 := fun z => h z.symm
      simp [pput, lkp, h, h']
  | cons r L ih =>
    have h2 := List.pairwise_cons.mp hs
    unfold pput
    split
    · rename_i h1
      unfold lkp
      by_cases h3 : r.1 = k2
      · rw [if_pos h3, if_pos h3, if_neg (by omega)]
      · rw [if_neg h3, if_neg h3, ih h2.2]
    · split
      · rename_i h1 h3
        unfold lkp
        by_cases h4 : key = k2
        · rw [if_pos h4, if_pos h4.symm]
        · rw [if_neg h4, if_neg (fun z => h4 z.symm), if_neg (by omega)]
      · rename_i h1 h3
        by_cases h4 : key = k2
        · rw [if_pos h4.symm]; unfold lkp; rw [if_pos h4]
        · rw [if_neg (fun z => h4 z.symm)]
          show (if key = k2 then some v else lkp (r :: L) k2) = _
          rw [if_neg h4]
theorem lkp_pdel {L : PL} {key k2 : Nat} (hs : pSort L) : lkp (pdel L key) k2 = if k2 = key then none else lkp L k2 := by
  induction L with
  | nil => simp [pdel, lkp]
  | cons r L ih =>
    have h2 := List.pairwise_cons.mp hs
    unfold pdel
    split
    · rename_i h1
      by_cases h3 : k2 = key
      · rw [if_pos h3, h3]
        exact lkp_none (fun q hq => by have := h2.1 q hq; omega)
      · rw [if_neg h3]
        show lkp L k2 = (if r.1 = k2 then some r.2 else lkp L k2)
        rw [if_neg (by omega)]
    · rename_i h1
      unfold lkp
      by_cases h3 : r.1 = k2
      · rw [if_pos h3, if_pos h3, if_neg (by omega)]
      · rw [if_neg h3, if_neg h3, ih h2.2]
/-- two sorted lists that answer alike are one -/
theorem sort_ext : ∀ {L M : PL}, pSort L → pSort M → (∀ k, lkp L k = lkp M k) → L = M
  | [], [], _, _, _ => rfl
  | [], r :: M, _, _, h => by have := h r.1; simp [lkp] at this
  | q :: L, [], _, _, h => by have := h q.1; simp [lkp] at this
  | q :: L, r :: M, hL, hM, h => by
    have h1 := List.pairwise_cons.mp hL
    have h2 := List.pairwise_cons.mp hM
    have hq : lkp (r :: M) q.1 = some q.2 := by rw [← h q.1]; simp [lkp]
    have hr : lkp (q :: L) r.1 = some r.2 := by rw [h r.1]; simp [lkp]
    have e1 : q.1 = r.1 := by
      rcases List.mem_cons.mp (lkp_some hq) with z | z
      · rw [← z]
      · have a := h2.1 _ z
        rcases List.mem_cons.mp (lkp_some hr) with w | w
        · rw [← w]
        · have b := h1.1 _ w
          have a : r.1 < q.1 := a
          have b : q.1 < r.1 := b
          omega
    have e2 : q = r := by
      have h3 := h q.1
      rw [show lkp (q :: L) q.1 = some q.2 by simp [lkp], show lkp (r :: M) q.1 = some r.2 by simp [lkp, e1]] at h3
      exact Prod.ext e1 (Option.some.inj h3)
    subst e2
    rw [sort_ext h1.2 h2.2 (fun k => ?_)]
    by_cases hk : q.1 = k
    · rw [lkp_none (fun z hz => by have := h1.1 z hz; omega), lkp_none (fun z hz => by have := h2.1 z hz; omega)]
    · have h3 := h k
      simpa [lkp, hk] using h3
/-- an array pair holds the list -/
def ptOk (kf vf : Nat → Int32) (L : PL) : Prop := L.length ≤ 512 ∧ (∀ i, i < L.length → kf i = nI (pK L i) ∧ vf i = nI (pV L i)) ∧ pSort L ∧ ∀ q ∈ L, q.1 < 2 ^ 30 ∧ q.2 < 2 ^ 31
def vOf (L : PL) (key : Nat) : Int32 := match lkp L key with
  | some v => nI v
  | none => -1
theorem ptOk.k {kf vf : Nat → Int32} {L : PL} (h : ptOk kf vf L) {i : Nat} (hi : i < L.length) : kf i = nI (pK L i) := (h.2.1 i hi).1
theorem ptOk.v {kf vf : Nat → Int32} {L : PL} (h : ptOk kf vf L) {i : Nat} (hi : i < L.length) : vf i = nI (pV L i) := (h.2.1 i hi).2
theorem ptOk.kb {kf vf : Nat → Int32} {L : PL} (h : ptOk kf vf L) {i : Nat} (hi : i < L.length) : pK L i < 2 ^ 30 := (h.2.2.2 _ (pK_mem hi)).1
theorem ptOk.vb {kf vf : Nat → Int32} {L : PL} (h : ptOk kf vf L) {i : Nat} (hi : i < L.length) : pV L i < 2 ^ 31 := (h.2.2.2 _ (pK_mem hi)).2
theorem pK_ge {L : PL} {i : Nat} (h : L.length ≤ i) : pK L i = 0 := by simp [pK, h]
theorem pX_app_l {L M : PL} {i : Nat} (h : i < L.length) : (L ++ M).getD i (0, 0) = L.getD i (0, 0) := by
  simp [List.getD_eq_getElem?_getD, List.getElem?_append_left h]
theorem pX_app_r {L M : PL} {i : Nat} (h : L.length ≤ i) : (L ++ M).getD i (0, 0) = M.getD (i - L.length) (0, 0) := by
  simp [List.getD_eq_getElem?_getD, List.getElem?_append_right h]
theorem pX_take {L : PL} {i n : Nat} (h : i < n) : (L.take n).getD i (0, 0) = L.getD i (0, 0) := by
  simp [List.getD_eq_getElem?_getD, List.getElem?_take, h]
theorem pX_drop {L : PL} {i n : Nat} : (L.drop n).getD i (0, 0) = L.getD (n + i) (0, 0) := by
  simp [List.getD_eq_getElem?_getD, List.getElem?_drop]
/-- a new key's arrays: the tail moved up by one, the key at its rank -/
theorem pt_put_new {kf vf : Nat → Int32} {L : PL} {key v : Nat} (h : ptOk kf vf L) (hn : ¬ (rk L key < L.length ∧ pK L (rk L key) = key)) (hl : L.length < 512) (hk : key < 2 ^ 30) (hv : v < 2 ^ 31) :
    ptOk (upd (va_cpy kf kf (rk L key) (rk L key + 1) (L.length - rk L key)) (rk L key) (nI key)) (upd (va_cpy vf vf (rk L key) (rk L key + 1) (L.length - rk L key)) (rk L key) (nI v)) (pput L key v) ∧ (pput L key v).length = L.length + 1 := by
  have hr := rk_le L key
  have e := pput_new L key v h.2.2.1 hn
  have hlen : (pput L key v).length = L.length + 1 := by rw [e]; simp; omega
  have ht : (L.take (rk L key)).length = rk L key := by simp; omega
  refine ⟨⟨by omega, fun i hi => ?_, pput_sort h.2.2.1, fun q hq => ?_⟩, hlen⟩
  · rw [hlen] at hi
    unfold pK pV
    rw [e]
    rcases Nat.lt_trichotomy i (rk L key) with h1 | h1 | h1
    · rw [pk_un (by omega), pk_un (by omega), pk_cpy_out (by omega), pk_cpy_out (by omega), pX_app_l (by omega), pX_take h1]
      exact h.2.1 i (by omega)
    · subst h1
      rw [pk_us, pk_us, pX_app_r (by omega), ht, Nat.sub_self]
      exact ⟨rfl, rfl⟩
    · rw [pk_un (by omega), pk_un (by omega), pk_cpy_in (by omega) (by omega), pk_cpy_in (by omega) (by omega), pX_app_r (by omega), ht]
      obtain ⟨d, rfl⟩ : ∃ d, i = rk L key + 1 + d := ⟨i - (rk L key + 1), by omega⟩
      rw [show rk L key + 1 + d - rk L key = d + 1 by omega, show rk L key + (rk L key + 1 + d - (rk L key + 1)) = rk L key + d by omega, List.getD_cons_succ, pX_drop]
      exact h.2.1 (rk L key + d) (by omega)
  · rcases pput_mem hq with z | z
    · rw [z]; exact ⟨hk, hv⟩
    · exact h.2.2.2 q z
theorem pt_put_old {kf vf : Nat → Int32} {L : PL} {key v : Nat} (h : ptOk kf vf L) (hn : rk L key < L.length) (hkk : pK L (rk L key) = key) (hv : v < 2 ^ 31) :
    ptOk kf (upd vf (rk L key) (nI v)) (pput L key v) ∧ (pput L key v).length = L.length := by
  have e := pput_old L key v h.2.2.1 hn hkk
  have hlen : (pput L key v).length = L.length := by rw [e]; simp
  refine ⟨⟨by rw [hlen]; exact h.1, fun i hi => ?_, pput_sort h.2.2.1, fun q hq => ?_⟩, hlen⟩
  · rw [hlen] at hi
    unfold pK pV
    rw [e]
    by_cases h1 : i = rk L key
    · subst h1
      rw [pk_us, h.k hi, hkk]
      simp [hi]
    · have h2 : (L.set (rk L key) (key, v)).getD i (0, 0) = L.getD i (0, 0) := by
        simp [List.getD_eq_getElem?_getD, List.getElem?_set_ne (fun z => h1 z.symm)]
      rw [pk_un h1, h2]
      exact h.2.1 i hi
  · rcases pput_mem hq with z | z
    · rw [z]; exact ⟨by have := h.kb hn; rw [hkk] at this; exact this, hv⟩
    · exact h.2.2.2 q z
theorem pt_del {kf vf : Nat → Int32} {L : PL} {key : Nat} (h : ptOk kf vf L) (hn : rk L key < L.length) (hkk : pK L (rk L key) = key) :
    ptOk (va_cpy kf kf (rk L key + 1) (rk L key) (L.length - rk L key - 1)) (va_cpy vf vf (rk L key + 1) (rk L key) (L.length - rk L key - 1)) (pdel L key) ∧ (pdel L key).length = L.length - 1 := by
  have e := pdel_old L key h.2.2.1 hn hkk
  have ht : (L.take (rk L key)).length = rk L key := by simp; omega
  have hlen : (pdel L key).length = L.length - 1 := by rw [e]; simp; omega
  have h1 := h.1
  refine ⟨⟨by omega, fun i hi => ?_, pdel_sort h.2.2.1, fun q hq => h.2.2.2 q (pdel_mem hq)⟩, hlen⟩
  rw [hlen] at hi
  unfold pK pV
  rw [e]
  by_cases h1 : i < rk L key
  · rw [pk_cpy_out (by omega), pk_cpy_out (by omega), pX_app_l (by omega), pX_take h1]
    exact h.2.1 i (by omega)
  · rw [pk_cpy_in (by omega) (by omega), pk_cpy_in (by omega) (by omega), pX_app_r (by omega), ht, pX_drop]
    rw [show rk L key + 1 + (i - rk L key) = i + 1 by omega]
    exact h.2.1 (i + 1) (by omega)
theorem pt_copy {kf vf kg vg : Nat → Int32} {L : PL} (h : ptOk kf vf L) : ptOk (va_cpy kf kg 0 0 L.length) (va_cpy vf vg 0 0 L.length) L :=
  ⟨h.1, fun i hi => by
    rw [pk_cpy_in (by omega) (by omega), pk_cpy_in (by omega) (by omega), Nat.zero_add, Nat.sub_zero]
    exact h.2.1 i hi, h.2.2.1, h.2.2.2⟩
theorem pt_nil {kf vf : Nat → Int32} : ptOk kf vf [] := ⟨by simp, fun i hi => by simp at hi, List.Pairwise.nil, fun q hq => by simp at hq⟩
/-- the version behind takeOut -/
def tv (L : PL) (key w : Nat) : Nat := match lkp L key with
  | some _ => w + 1
  | none => w
end
section
/-! rows pasted from kit/laws/BITS.to-paste (starting text), and bits of mine -/
theorem s_l : ∀ n, n < 32 → ((nI n &&& 31).toBitVec.smod 32).toNat = n := by decide +kernel
theorem nx_and (a b : Nat) : nI a &&& nI b = nI (a &&& b) := by
  apply Int32.toBitVec_inj.1
  show BitVec.ofNat 32 a &&& BitVec.ofNat 32 b = BitVec.ofNat 32 (a &&& b)
  apply BitVec.eq_of_getLsbD_eq
  intro i hi
  simp [hi]
theorem nx_mod (k : Nat) : nI k &&& 65535 = nI (k % 65536) := by
  show nI k &&& nI 65535 = _
  rw [nx_and, show (65535 : Nat) = 2 ^ 16 - 1 from rfl, Nat.and_two_pow_sub_one_eq_mod]
theorem wb_tb (n : Nat) : (lN n).toBitVec = BitVec.ofNat 64 n := rfl
theorem wb_inj {a b : Int64} (h : a.toBitVec = b.toBitVec) : a = b := Int64.toBitVec_inj.mp h
theorem wb_tn {n : Nat} (h : n < 2 ^ 64) : (lN n).toBitVec.toNat = n := by rw [wb_tb, BitVec.toNat_ofNat, Nat.mod_eq_of_lt h]
theorem wb_c : ∀ k, k < 64 → ((nI k).toInt64 &&& 63) = lN k := by decide +kernel
theorem wb_sm : ∀ k, k < 64 → (BitVec.ofNat 64 k).smod 64 = BitVec.ofNat 64 k := by decide +kernel
theorem wb_lt2 {a b : Nat} (h : a < b) : 2 ^ a < 2 ^ b := Nat.pow_lt_pow_right (by decide) h
theorem wb_shl (n : Nat) {k : Nat} (hk : k < 64) : lN n <<< ((nI k).toInt64 &&& 63) = lN (n * 2 ^ k) := by
  rw [wb_c k hk]
  apply wb_inj
  rw [Int64.toBitVec_shiftLeft, wb_tb, wb_tb, wb_tb, wb_sm k hk]
  apply BitVec.eq_of_toNat_eq
  rw [BitVec.shiftLeft_eq', BitVec.toNat_shiftLeft, BitVec.toNat_ofNat, BitVec.toNat_ofNat, BitVec.toNat_ofNat, Nat.mod_eq_of_lt (show k < 2 ^ 64 by omega), Nat.shiftLeft_eq, Nat.mul_mod, Nat.mod_mod, ← Nat.mul_mod]
theorem wb_and {a b : Nat} (ha : a < 2 ^ 64) (hb : b < 2 ^ 64) : lN a &&& lN b = lN (a &&& b) := by
  apply wb_inj
  rw [Int64.toBitVec_and, wb_tb, wb_tb, wb_tb]
  apply BitVec.eq_of_toNat_eq
  rw [BitVec.toNat_and, BitVec.toNat_ofNat, BitVec.toNat_ofNat, BitVec.toNat_ofNat, Nat.mod_eq_of_lt ha, Nat.mod_eq_of_lt hb, Nat.mod_eq_of_lt (Nat.and_lt_two_pow _ hb)]
theorem wb_or {a b : Nat} (ha : a < 2 ^ 64) (hb : b < 2 ^ 64) : lN a ||| lN b = lN (a ||| b) := by
  apply wb_inj
  rw [Int64.toBitVec_or, wb_tb, wb_tb, wb_tb]
  apply BitVec.eq_of_toNat_eq
  rw [BitVec.toNat_or, BitVec.toNat_ofNat, BitVec.toNat_ofNat, BitVec.toNat_ofNat, Nat.mod_eq_of_lt ha, Nat.mod_eq_of_lt hb, Nat.mod_eq_of_lt (Nat.or_lt_two_pow ha hb)]
theorem wb_mask {n k : Nat} (hn : n < 2 ^ 64) (hk : k < 64) : lN n &&& lN (2 ^ k - 1) = lN (n % 2 ^ k) := by
  rw [wb_and hn (by have := wb_lt2 hk; omega), Nat.and_two_pow_sub_one_eq_mod]
theorem wb_a1 {n : Nat} (hn : n < 2 ^ 64) : lN n &&& 1 = lN (n % 2) := wb_mask (k := 1) hn (by decide)
theorem pf_lI {a : Nat} (h : a < 2 ^ 63) : (lN a).toInt = (a : Int) := lg_ofNat_toInt h
theorem pf_shr {a d : Nat} {D : Int64} (hD : (D.toBitVec.smod 64).toNat = d) (h : a < 2 ^ 62) : lN a >>> D = lN (a / 2 ^ d) := by
  have hd : a / 2 ^ d ≤ a := Nat.div_le_self _ _
  apply Int64.toInt_inj.mp
  have e : (lN a >>> D).toInt = (lN a).toInt >>> d := by
    rw [← hD]
    exact BitVec.toInt_sshiftRight ..
  rw [e, Int.shiftRight_eq_div_pow, pf_lI (by omega), pf_lI (by omega)]
  rfl
theorem bI_or (a b : Nat) : nI a ||| nI b = nI (a ||| b) := by
  apply Int32.toBitVec_inj.1
  show BitVec.ofNat 32 a ||| BitVec.ofNat 32 b = BitVec.ofNat 32 (a ||| b)
  apply BitVec.eq_of_getLsbD_eq
  intro i hi
  simp [hi]
theorem or_add {a b i : Nat} (h : b < 2 ^ i) : a * 2 ^ i ||| b = a * 2 ^ i + b := by
  rw [Nat.mul_comm]
  exact (Nat.two_pow_add_eq_or_of_lt h a).symm
theorem bI_key {x y : Nat} (hx : x < 32768) (hy : y < 32768) : (nI x <<< (nI 15 &&& 31)) ||| nI y = nI (x * 32768 + y) := by
  rw [pk_shlN (nI 15 &&& 31) 15 (by decide) (by omega), bI_or, or_add (i := 15) (by omega)]
theorem bI_1shl {d : Nat} (h : d < 31) : nI 1 <<< (nI d &&& 31) = nI (2 ^ d) := by
  rw [pk_shlN (nI d &&& 31) d (s_l d (by omega)) (by have := Nat.pow_lt_pow_right (a := 2) (by decide) (show d < 32 by omega); omega), Nat.one_mul]
/-- a point on the plane, a point in a window, the tests of the constructor, a distance -/
def onp (x y : Int32) (sp : Nat) : Prop := ¬ x < 0 ∧ ¬ nI sp ≤ x ∧ ¬ y < 0 ∧ ¬ nI sp ≤ y
def win (key : Nat) (x0 y0 x1 y1 : Int32) : Prop := ¬ nI (key / 32768) < x0 ∧ ¬ x1 < nI (key / 32768) ∧ ¬ nI (key % 32768) < y0 ∧ ¬ y1 < nI (key % 32768)
def fot (mo : Nat) (a : Int32) (ow : Nat) : Int32 := if ¬ a < nI 1 ∧ ¬ nI mo < a then a else nI ow
def plc (a : Int32) : Prop := ¬ a < 0 ∧ ¬ nI 65535 < a
def dst (key : Nat) (x y : Int32) : Int64 := (nI (key / 32768) - x).toInt64 * (nI (key / 32768) - x).toInt64 + (nI (key % 32768) - y).toInt64 * (nI (key % 32768) - y).toInt64
theorem onp_of {x y : Int32} {sp : Nat} (h : onp x y sp) (hs : sp ≤ 32768) : ∃ a b : Nat, a < sp ∧ b < sp ∧ x = nI a ∧ y = nI b := by
  obtain ⟨h1, h2, h3, h4⟩ := h
  obtain ⟨a, ha, rfl⟩ := nI_of h1
  obtain ⟨b, hb, rfl⟩ := nI_of h3
  refine ⟨a, b, ?_, ?_, rfl, rfl⟩
  · rcases Nat.lt_or_ge a sp with z | z
    · exact z
    · exact absurd (nI_le z ha) h2
  · rcases Nat.lt_or_ge b sp with z | z
    · exact z
    · exact absurd (nI_le z hb) h4
/-- CHANGES: every point leaves, one leaves, one comes or gets a new value -/
abbrev Op : Type := Option (Nat × Option Nat)
def opK : Op → Int32
  | none => -1
  | some q => nI q.1
def opV : Op → Int32
  | some (_, some v) => nI v
  | _ => -1
def opOk : Op → Prop
  | none => True
  | some (k, none) => k < 2 ^ 30
  | some (k, some v) => k < 2 ^ 30 ∧ v < 2 ^ 31
def ap (L : PL) : Op → PL
  | none => []
  | some (k, none) => pdel L k
  | some (k, some v) => pput L k v
def apL (L : PL) (C : List Op) : PL := C.foldl ap L
def avn (L : PL) (w : Nat) : Op → Nat
  | some (k, none) => tv L k w
  | _ => w + 1
def avL : PL → Nat → List Op → Nat
  | _, w, [] => w
  | L, w, o :: C => avL (ap L o) (avn L w o) C
def chOk (kf vf : Nat → Int32) (C : List Op) : Prop := C.length ≤ 60 ∧ (∀ i, i < C.length → kf i = opK (C.getD i none) ∧ vf i = opV (C.getD i none)) ∧ ∀ o ∈ C, opOk o
theorem ch_add {kf vf : Nat → Int32} {C : List Op} {o : Op} (h : chOk kf vf C) (hl : C.length < 60) (ho : opOk o) : chOk (upd kf C.length (opK o)) (upd vf C.length (opV o)) (C ++ [o]) := by
  refine ⟨by simp; omega, fun i hi => ?_, fun q hq => ?_⟩
  · simp only [List.length_append, List.length_cons, List.length_nil] at hi
    by_cases h1 : i = C.length
    · subst h1
      rw [pk_us, pk_us]
      simp [List.getD_eq_getElem?_getD]
    · rw [pk_un h1, pk_un h1, List.getD_eq_getElem?_getD, List.getElem?_append_left (by omega), ← List.getD_eq_getElem?_getD]
      exact h.2.1 i (by omega)
  · rcases List.mem_append.mp hq with z | z
    · exact h.2.2 q z
    · rw [List.mem_singleton.mp z]; exact ho
theorem ch_nil {kf vf : Nat → Int32} : chOk kf vf [] := ⟨by simp, fun i hi => by simp at hi, fun q hq => by simp at hq⟩
theorem ch_copy {kf vf kg vg : Nat → Int32} {C : List Op} (h : chOk kf vf C) : chOk (va_cpy kf kg 0 0 C.length) (va_cpy vf vg 0 0 C.length) C :=
  ⟨h.1, fun i hi => by
    rw [pk_cpy_in (by omega) (by omega), pk_cpy_in (by omega) (by omega), Nat.zero_add, Nat.sub_zero]
    exact h.2.1 i hi, h.2.2⟩
theorem ch_op {kf vf : Nat → Int32} {C : List Op} (h : chOk kf vf C) {i : Nat} (hi : i < C.length) : opOk (C.getD i none) := by
  have e : C.getD i none = C[i] := by simp [hi]
  rw [e]; exact h.2.2 _ (List.getElem_mem hi)
theorem ap_take {L : PL} {C : List Op} {i : Nat} (hi : i < C.length) : apL L (C.take (i + 1)) = ap (apL L (C.take i)) (C.getD i none) := by
  have e : C.take (i + 1) = C.take i ++ [C.getD i none] := by
    rw [List.take_succ]
    simp [hi]
  unfold apL
  rw [e, List.foldl_append]; rfl
theorem av_app : ∀ (C D : List Op) (L : PL) (w : Nat), avL L w (C ++ D) = avL (apL L C) (avL L w C) D
  | [], _, _, _ => rfl
  | o :: C, D, L, w => av_app C D (ap L o) (avn L w o)
theorem av_take {L : PL} {C : List Op} {w i : Nat} (hi : i < C.length) : avL L w (C.take (i + 1)) = avn (apL L (C.take i)) (avL L w (C.take i)) (C.getD i none) := by
  have e : C.take (i + 1) = C.take i ++ [C.getD i none] := by
    rw [List.take_succ]
    simp [hi]
  rw [e, av_app]; rfl
theorem nI_m1 {a : Nat} (h : a < 2 ^ 31) : ¬ nI a = -1 := fun z => by
  have h1 := nI_pos h
  rw [z] at h1
  exact h1 (by decide)
end
section
/-! RESULTS as a list of (key, value) -/
abbrev RSL : Type := List (Nat × Int32)
def rsOk (kf vf : Nat → Int32) (R : RSL) : Prop := R.length ≤ 150 ∧ (∀ i, i < R.length → kf i = nI (R.getD i (0, 0)).1 ∧ vf i = (R.getD i (0, 0)).2) ∧ ∀ q ∈ R, q.1 < 2 ^ 30
def rsAdd (R : RSL) (key : Nat) (x : Int32) : RSL := if R.length < 150 then R ++ [(key, x)] else R
theorem rs_full {R : RSL} {key : Nat} {x : Int32} (h : 150 ≤ R.length) : rsAdd R key x = R := by
  unfold rsAdd; rw [if_neg (by omega)]
theorem rs_add {kf vf : Nat → Int32} {R : RSL} {key : Nat} {x : Int32} (h : rsOk kf vf R) (hk : key < 2 ^ 30) (hl : ¬ 150 ≤ R.length) : rsOk (upd kf R.length (nI key)) (upd vf R.length x) (rsAdd R key x) ∧ (rsAdd R key x).length = R.length + 1 := by
  have e : rsAdd R key x = R ++ [(key, x)] := by unfold rsAdd; rw [if_pos (by omega)]
  rw [e]
  refine ⟨⟨by simp; omega, fun i hi => ?_, fun q hq => ?_⟩, by simp⟩
  · simp only [List.length_append, List.length_cons, List.length_nil] at hi
    by_cases h1 : i = R.length
    · subst h1
      rw [pk_us, pk_us]
      simp [List.getD_eq_getElem?_getD]
    · rw [pk_un h1, pk_un h1, List.getD_eq_getElem?_getD, List.getElem?_append_left (by omega), ← List.getD_eq_getElem?_getD]
      exact h.2.1 i (by omega)
  · rcases List.mem_append.mp hq with z | z
    · exact h.2.2 q z
    · rw [List.mem_singleton.mp z]; exact hk
theorem rs_nil {kf vf : Nat → Int32} : rsOk kf vf [] := ⟨by simp, fun i hi => by simp at hi, fun q hq => by simp at hq⟩
theorem op_cases (o : Op) : o = none ∨ (∃ k, o = some (k, none)) ∨ ∃ k v, o = some (k, some v) := by
  rcases o with _ | ⟨k, _ | v⟩
  · exact Or.inl rfl
  · exact Or.inr (Or.inl ⟨k, rfl⟩)
  · exact Or.inr (Or.inr ⟨k, v, rfl⟩)
end
section
/-! THE TREE of a list of points: its nodes in their order; a node: (levels below it, x, y, points, children, low bits) -/
abbrev Nd : Type := Nat × Nat × Nat × Nat × Nat × Nat
def nd0 : Nd := (0, 0, 0, 0, 0, 0)
def inq (x y sd : Nat) (q : Nat × Nat) : Bool := decide (x ≤ q.1 / 32768 ∧ q.1 / 32768 < x + sd ∧ y ≤ q.1 % 32768 ∧ q.1 % 32768 < y + sd)
def low (P : PL) : Nat := (P.map (fun q => q.2 % 65536)).sum
def sub (x y h : Nat) (P : PL) (q : Nat) : PL := P.filter (inq (x + q % 2 * h) (y + q / 2 * h) h)
def msk (x y h : Nat) (P : PL) : Nat → Nat
  | 0 => 0
  | n + 1 => msk x y h P n + if (sub x y h P n).length = 0 then 0 else 2 ^ n
def kid (f : Nat → Nat → PL → List Nd) (x y h : Nat) (P : PL) (q : Nat) : List Nd := if (sub x y h P q).length = 0 then [] else f (x + q % 2 * h) (y + q / 2 * h) (sub x y h P q)
def kids (f : Nat → Nat → PL → List Nd) (x y h : Nat) (P : PL) : Nat → List Nd
  | 0 => []
  | n + 1 => kids f x y h P n ++ kid f x y h P n
def tr (bk : Nat) : Nat → Nat → Nat → PL → List Nd
  | 0, x, y, P => [(0, x, y, P.length, 0, low P)]
  | d + 1, x, y, P => if P.length ≤ bk then [(d + 1, x, y, P.length, 0, low P)] else (d + 1, x, y, P.length, msk x y (2 ^ d) P 4, low P) :: kids (fun x y P => tr bk d x y P) x y (2 ^ d) P 4
theorem low_perm {P P' : PL} (h : P.Perm P') : low P = low P' := by
  induction h with
  | nil => rfl
  | cons a _ ih => unfold low at ih ⊢; simp [ih]
  | swap a b l => unfold low; simp; omega
  | trans _ _ i1 i2 => exact i1.trans i2
theorem sub_perm {P P' : PL} (h : P.Perm P') (x y hh q : Nat) : (sub x y hh P q).Perm (sub x y hh P' q) := h.filter _
theorem msk_perm {P P' : PL} (h : P.Perm P') (x y hh : Nat) : ∀ n, msk x y hh P n = msk x y hh P' n
  | 0 => rfl
  | n + 1 => by unfold msk; rw [msk_perm h x y hh n, (sub_perm h x y hh n).length_eq]
theorem kid_perm {f : Nat → Nat → PL → List Nd} (hf : ∀ x y P P', P.Perm P' → f x y P = f x y P') {P P' : PL} (h : P.Perm P') (x y hh q : Nat) : kid f x y hh P q = kid f x y hh P' q := by
  unfold kid
  rw [(sub_perm h x y hh q).length_eq, hf _ _ _ _ (sub_perm h x y hh q)]
theorem kids_perm {f : Nat → Nat → PL → List Nd} (hf : ∀ x y P P', P.Perm P' → f x y P = f x y P') {P P' : PL} (h : P.Perm P') (x y hh : Nat) : ∀ n, kids f x y hh P n = kids f x y hh P' n
  | 0 => rfl
  | n + 1 => by unfold kids; rw [kids_perm hf h x y hh n, kid_perm hf h]
theorem tr_perm (bk : Nat) : ∀ (d x y : Nat) (P P' : PL), P.Perm P' → tr bk d x y P = tr bk d x y P'
  | 0, x, y, P, P', h => by unfold tr; rw [h.length_eq, low_perm h]
  | d + 1, x, y, P, P', h => by
    unfold tr
    rw [h.length_eq, low_perm h, msk_perm h, kids_perm (fun x y P P' h => tr_perm bk d x y P P' h) h]
theorem msk_lt (x y h : Nat) (P : PL) : ∀ n, msk x y h P n < 2 ^ n
  | 0 => by simp [msk]
  | n + 1 => by
    have := msk_lt x y h P n
    unfold msk
    rw [Nat.pow_succ]
    split <;> omega
/-- the nodes in an array of six numbers each -/
def rowAt (f : Nat → Int32) (c : Nat) (n : Nd) : Prop := f (c * 6) = nI (2 ^ n.1) ∧ f (c * 6 + 1) = nI n.2.1 ∧ f (c * 6 + 2) = nI n.2.2.1 ∧ f (c * 6 + 3) = nI n.2.2.2.1 ∧ f (c * 6 + 4) = nI n.2.2.2.2.1 ∧ f (c * 6 + 5) = nI n.2.2.2.2.2
def fOk (f : Nat → Int32) (F : List Nd) : Prop := ∀ j, j < F.length → rowAt f j (F.getD j nd0)
def dpt (b : Nat) : List Nd → Nat
  | [] => 0
  | n :: F => max (b - n.1) (dpt b F)
theorem dpt_app (b : Nat) : ∀ (F G : List Nd), dpt b (F ++ G) = max (dpt b F) (dpt b G)
  | [], G => by simp [dpt]
  | n :: F, G => by
    show max _ (dpt b (F ++ G)) = _
    rw [dpt_app b F G]
    show _ = max (max _ (dpt b F)) (dpt b G)
    omega
theorem dpt_le (b : Nat) : ∀ (F : List Nd), dpt b F ≤ b
  | [] => by simp [dpt]
  | n :: F => by
    have := dpt_le b F
    show max (b - n.1) (dpt b F) ≤ b
    omega
def set6 (f : Nat → Int32) (c : Nat) (a0 a1 a2 a3 a4 a5 : Int32) : Nat → Int32 := upd (upd (upd (upd (upd (upd f (c * 6) a0) (c * 6 + 1) a1) (c * 6 + 2) a2) (c * 6 + 3) a3) (c * 6 + 4) a4) (c * 6 + 5) a5
theorem fOk_push {f : Nat → Int32} {F : List Nd} (h : fOk f F) (n : Nd) : fOk (set6 f F.length (nI (2 ^ n.1)) (nI n.2.1) (nI n.2.2.1) (nI n.2.2.2.1) (nI n.2.2.2.2.1) (nI n.2.2.2.2.2)) (F ++ [n]) := by
  intro j hj
  simp only [List.length_append, List.length_cons, List.length_nil] at hj
  by_cases h1 : j = F.length
  · subst h1
    have e : (F ++ [n]).getD F.length nd0 = n := by simp [List.getD_eq_getElem?_getD]
    rw [e]
    unfold rowAt set6 upd
    refine ⟨?_, ?_, ?_, ?_, ?_, ?_⟩ <;> (repeat (first | rw [if_pos (by omega)] | rw [if_neg (by omega)]))
  · have e : (F ++ [n]).getD j nd0 = F.getD j nd0 := by
      rw [List.getD_eq_getElem?_getD, List.getElem?_append_left (by omega), ← List.getD_eq_getElem?_getD]
    rw [e]
    have := h j (by omega)
    unfold rowAt at this ⊢
    unfold set6 upd
    repeat rw [if_neg (by omega)]
    exact this
theorem fOk_mask {f : Nat → Int32} {F : List Nd} (h : fOk f F) {c m : Nat} (hc : c < F.length) : fOk (upd f (c * 6 + 4) (nI m)) (F.set c ((F.getD c nd0).1, (F.getD c nd0).2.1, (F.getD c nd0).2.2.1, (F.getD c nd0).2.2.2.1, m, (F.getD c nd0).2.2.2.2.2)) := by
  intro j hj
  rw [List.length_set] at hj
  have h0 := h j hj
  by_cases h1 : j = c
  · subst h1
    have e : (F.set j ((F.getD j nd0).1, (F.getD j nd0).2.1, (F.getD j nd0).2.2.1, (F.getD j nd0).2.2.2.1, m, (F.getD j nd0).2.2.2.2.2)).getD j nd0 = ((F.getD j nd0).1, (F.getD j nd0).2.1, (F.getD j nd0).2.2.1, (F.getD j nd0).2.2.2.1, m, (F.getD j nd0).2.2.2.2.2) := by
      rw [List.getD_eq_getElem?_getD, List.getElem?_set_self hj]; rfl
    rw [e]
    unfold rowAt at h0 ⊢
    refine ⟨?_, ?_, ?_, ?_, ?_, ?_⟩
    · rw [pk_un (by omega)]; exact h0.1
    · rw [pk_un (by omega)]; exact h0.2.1
    · rw [pk_un (by omega)]; exact h0.2.2.1
    · rw [pk_un (by omega)]; exact h0.2.2.2.1
    · rw [pk_us]
    · rw [pk_un (by omega)]; exact h0.2.2.2.2.2
  · have e : (F.set c ((F.getD c nd0).1, (F.getD c nd0).2.1, (F.getD c nd0).2.2.1, (F.getD c nd0).2.2.2.1, m, (F.getD c nd0).2.2.2.2.2)).getD j nd0 = F.getD j nd0 := by
      rw [List.getD_eq_getElem?_getD, List.getElem?_set_ne (fun z => h1 z.symm), ← List.getD_eq_getElem?_getD]
    rw [e]
    unfold rowAt at h0 ⊢
    repeat rw [pk_un (by omega)]
    exact h0
/-- the order: numbers of points -/
def oOk (o : Nat → Int32) (O : List Nat) (n : Nat) : Prop := (∀ i, i < O.length → o i = nI (O.getD i 0)) ∧ ∀ i ∈ O, i < n
theorem oOk.at {o : Nat → Int32} {O : List Nat} {n : Nat} (h : oOk o O n) {i a : Nat} (hi : O[i]? = some a) : o i = nI a ∧ a < n := by
  have hl := (List.getElem?_eq_some_iff.mp hi).1
  refine ⟨?_, h.2 a (List.mem_of_getElem? hi)⟩
  rw [h.1 i hl, List.getD_eq_getElem?_getD, hi]; rfl
theorem oOk_set {o : Nat → Int32} {O : List Nat} {n : Nat} (h : oOk o O n) {k a : Nat} (ha : a < n) : oOk (upd o k (nI a)) (O.set k a) n := by
  refine ⟨fun i hi => ?_, fun i hi => ?_⟩
  · rw [List.length_set] at hi
    by_cases h1 : i = k
    · subst h1
      rw [pk_us, List.getD_eq_getElem?_getD, List.getElem?_set_self hi]; rfl
    · rw [pk_un h1, List.getD_eq_getElem?_getD, List.getElem?_set_ne (fun z => h1 z.symm), ← List.getD_eq_getElem?_getD]
      exact h.1 i hi
  · rcases List.mem_or_eq_of_mem_set hi with z | z
    · exact h.2 i z
    · rw [z]; exact ha
def ps (L : PL) (S : List Nat) : PL := S.map (fun i => L.getD i (0, 0))
def inS (L : PL) (x y sd : Nat) (i : Nat) : Bool := inq x y sd (L.getD i (0, 0))
theorem ps_filter (L : PL) (S : List Nat) (x y sd : Nat) : ps L (S.filter (inS L x y sd)) = (ps L S).filter (inq x y sd) := by
  unfold ps
  rw [List.filter_map]
  rfl
theorem inS_win {L : PL} {i x y sd : Nat} (hs : 0 < sd) (hx : x + sd ≤ 32768) (hy : y + sd ≤ 32768) (hk : pK L i < 2 ^ 30) : inS L x y sd i = true ↔ win (pK L i) (nI x) (nI y) (nI (x + sd - 1)) (nI (y + sd - 1)) := by
  unfold inS inq win
  rw [decide_eq_true_eq]
  show x ≤ pK L i / 32768 ∧ _ ↔ _
  have h1 : pK L i / 32768 < 2 ^ 31 := by omega
  have h2 : pK L i % 32768 < 2 ^ 31 := by omega
  rw [nI_ltI h1 (by omega), nI_ltI (by omega) h1, nI_ltI h2 (by omega), nI_ltI (by omega) h2]
  show x ≤ pK L i / 32768 ∧ pK L i / 32768 < x + sd ∧ y ≤ pK L i % 32768 ∧ pK L i % 32768 < y + sd ↔ _
  omega
theorem set_mid {α : Type} (P Y : List α) (a b : α) : (P ++ a :: Y).set P.length b = P ++ b :: Y := by simp
/-- one more point behind those of the region -/
theorem o_swap {o : Nat → Int32} {P O1 Q : List Nat} {e n : Nat} (h : oOk o (P ++ O1 ++ e :: Q) n) : ∃ O2 : List Nat, O2.Perm O1 ∧ oOk (upd (upd o (P.length + O1.length) (o P.length)) P.length (nI e)) ((P ++ [e]) ++ O2 ++ Q) n := by
  have he : e < n := h.2 e (by simp)
  cases O1 with
  | nil =>
    refine ⟨[], List.Perm.refl _, ?_⟩
    have e1 := (h.at (i := P.length) (a := e) (by simp)).1
    have h2 := oOk_set (k := P.length) (oOk_set (k := P.length) h he) he
    rw [List.length_nil, Nat.add_zero, e1]
    simpa using h2
  | cons a O1 =>
    have e1 := h.at (i := P.length) (a := a) (by simp)
    refine ⟨O1 ++ [a], by simpa using (List.perm_append_comm (l₁ := O1) (l₂ := [a])), ?_⟩
    rw [e1.1]
    have h2 := oOk_set (k := P.length) (oOk_set (k := P.length + (a :: O1).length) h e1.2) he
    have e2 : ((P ++ a :: O1 ++ e :: Q).set (P.length + (a :: O1).length) a).set P.length e = (P ++ [e]) ++ (O1 ++ [a]) ++ Q := by
      have h3 := set_mid (P ++ a :: O1) Q e a
      rw [List.length_append] at h3
      rw [h3, List.append_assoc, List.cons_append, set_mid]
      simp
    rw [e2] at h2
    exact h2
theorem low_take {L : PL} {S : List Nat} {j : Nat} (h : j < S.length) : low (ps L (S.take (j + 1))) = low (ps L (S.take j)) + pV L (S.getD j 0) % 65536 := by
  have e : S.take (j + 1) = S.take j ++ [S.getD j 0] := by rw [List.take_succ]; simp [h]
  unfold low ps
  rw [e]
  simp [pV]
theorem get_mid {A S B : List Nat} {j : Nat} (h : j < S.length) : (A ++ S ++ B)[A.length + j]? = some (S.getD j 0) := by
  rw [List.append_assoc, List.getElem?_append_right (by omega), show A.length + j - A.length = j by omega, List.getElem?_append_left h]
  simp [h]
/-- what factOf says -/
def ndv (n : Nd) : Nat → Int32
  | 0 => nI (2 ^ n.1)
  | 1 => nI n.2.1
  | 2 => nI n.2.2.1
  | 3 => nI n.2.2.2.1
  | 4 => nI n.2.2.2.2.1
  | _ => nI n.2.2.2.2.2
def fct (F : List Nd) (k w : Int32) : Int32 := if ¬ k < 0 ∧ ¬ nI F.length ≤ k ∧ ¬ w < 0 ∧ w < nI 6 then ndv (F.getD k.toNatClampNeg nd0) w.toNatClampNeg else -1
theorem fOk_ndv {f : Nat → Int32} {F : List Nd} (h : fOk f F) {j w : Nat} (hj : j < F.length) (hw : w < 6) : f (j * 6 + w) = ndv (F.getD j nd0) w := by
  obtain ⟨h0, h1, h2, h3, h4, h5⟩ := h j hj
  rcases (show w = 0 ∨ w = 1 ∨ w = 2 ∨ w = 3 ∨ w = 4 ∨ w = 5 by omega) with rfl | rfl | rfl | rfl | rfl | rfl
  · exact h0
  · exact h1
  · exact h2
  · exact h3
  · exact h4
  · exact h5
end
section
theorem filt_in {α : Type} {f : α → Bool} {l : List α} {e : α} (h : f e = true) : (l ++ [e]).filter f = l.filter f ++ [e] := by simp [h]
theorem filt_out {α : Type} {f : α → Bool} {l : List α} {e : α} (h : f e = false) : (l ++ [e]).filter f = l.filter f := by simp [h]
theorem take_app {α : Type} (X T : List α) (N : Nat) : (X.take N ++ T).take N = (X ++ T).take N := by
  by_cases h : N ≤ X.length
  · rw [List.take_append_of_le_length h, List.take_append_of_le_length (by simp; omega), List.take_take, Nat.min_self]
  · rw [List.take_of_length_le (l := X) (by omega)]
theorem dpt_congr (b : Nat) : ∀ {F G : List Nd}, F.map Prod.fst = G.map Prod.fst → dpt b F = dpt b G
  | [], [], _ => rfl
  | [], _ :: _, h => by simp at h
  | _ :: _, [], h => by simp at h
  | n :: F, m :: G, h => by
    simp only [List.map_cons, List.cons.injEq] at h
    unfold dpt
    rw [h.1, dpt_congr b h.2]
/-- the nodes once quarters below q are done -/
def gq (bk d x y N : Nat) (P : PL) (F : List Nd) (q m : Nat) : List Nd := (F ++ (d + 1, x, y, P.length, m, low P) :: kids (fun x y P => tr bk d x y P) x y (2 ^ d) P q).take N
theorem gq_get {bk d x y N : Nat} {P : PL} {F : List Nd} {q m : Nat} (h : F.length < N) : (gq bk d x y N P F q m)[F.length]? = some (d + 1, x, y, P.length, m, low P) := by
  unfold gq
  rw [List.getElem?_take, if_pos h]
  simp
theorem gq_lt {bk d x y N : Nat} {P : PL} {F : List Nd} {q m : Nat} (h : F.length < N) : F.length < (gq bk d x y N P F q m).length := (List.getElem?_eq_some_iff.mp (gq_get h)).1
theorem gq_set {bk d x y N : Nat} {P : PL} {F : List Nd} {q m m' : Nat} : (gq bk d x y N P F q m).set F.length (d + 1, x, y, P.length, m', low P) = gq bk d x y N P F q m' := by
  unfold gq
  rw [← List.take_set, set_mid]
theorem gq_len {bk d x y N : Nat} {P : PL} {F : List Nd} {q m m' : Nat} : (gq bk d x y N P F q m).length = (gq bk d x y N P F q m').length := by
  rw [← gq_set (m := m) (m' := m'), List.length_set]
theorem gq_dpt {b bk d x y N : Nat} {P : PL} {F : List Nd} {q m m' : Nat} : dpt b (gq bk d x y N P F q m) = dpt b (gq bk d x y N P F q m') := by
  apply dpt_congr
  unfold gq
  rw [List.map_take, List.map_take]
  simp
theorem gq_kid {bk d x y N : Nat} {P : PL} {F : List Nd} {q m : Nat} (h : ¬ (sub x y (2 ^ d) P q).length = 0) : (gq bk d x y N P F q m ++ tr bk d (x + q % 2 * 2 ^ d) (y + q / 2 * 2 ^ d) (sub x y (2 ^ d) P q)).take N = gq bk d x y N P F (q + 1) m := by
  unfold gq
  rw [take_app]
  show _ = (F ++ (d + 1, x, y, P.length, m, low P) :: (kids (fun x y P => tr bk d x y P) x y (2 ^ d) P q ++ kid (fun x y P => tr bk d x y P) x y (2 ^ d) P q)).take N
  unfold kid
  rw [if_neg h]
  simp
theorem gq_nokid {bk d x y N : Nat} {P : PL} {F : List Nd} {q m : Nat} (h : (sub x y (2 ^ d) P q).length = 0) : gq bk d x y N P F q m = gq bk d x y N P F (q + 1) m := by
  unfold gq
  show _ = (F ++ (d + 1, x, y, P.length, m, low P) :: (kids (fun x y P => tr bk d x y P) x y (2 ^ d) P q ++ kid (fun x y P => tr bk d x y P) x y (2 ^ d) P q)).take N
  unfold kid
  rw [if_pos h]
  simp
theorem gq_mask {f : Nat → Int32} {bk d x y N : Nat} {P : PL} {F : List Nd} {q m m' : Nat} (hF : F.length < N) (h : fOk f (gq bk d x y N P F q m)) : fOk (upd f (F.length * 6 + 4) (nI m')) (gq bk d x y N P F q m') := by
  have h1 := fOk_mask (m := m') h (gq_lt hF)
  rw [List.getD_eq_getElem?_getD, gq_get hF] at h1
  rw [← gq_set (m := m) (m' := m')]
  exact h1
theorem gq_at {f : Nat → Int32} {bk d x y N : Nat} {P : PL} {F : List Nd} {q m : Nat} (hF : F.length < N) (h : fOk f (gq bk d x y N P F q m)) : f (F.length * 6 + 4) = nI m := by
  have h1 := (h _ (gq_lt hF)).2.2.2.2.1
  rw [List.getD_eq_getElem?_getD, gq_get hF] at h1
  exact h1
def gF (bk d x y N : Nat) (P : PL) (F : List Nd) : List Nd := (F ++ tr bk d x y P).take N
theorem gF_full {bk d x y N : Nat} {P : PL} {F : List Nd} (h : F.length = N) : gF bk d x y N P F = F := by
  unfold gF
  rw [List.take_append_of_le_length (by omega), List.take_of_length_le (by omega)]
theorem gF_leaf0 {bk x y N : Nat} {P : PL} {F : List Nd} (h : F.length < N) : gF bk 0 x y N P F = F ++ [(0, x, y, P.length, 0, low P)] := by
  unfold gF tr
  rw [List.take_of_length_le (by simp; omega)]
theorem gF_leaf {bk d x y N : Nat} {P : PL} {F : List Nd} (h : F.length < N) (hb : P.length ≤ bk) : gF bk (d + 1) x y N P F = F ++ [(d + 1, x, y, P.length, 0, low P)] := by
  unfold gF tr
  rw [if_pos hb, List.take_of_length_le (by simp; omega)]
theorem gF_inner {bk d x y N : Nat} {P : PL} {F : List Nd} (hb : ¬ P.length ≤ bk) : gF bk (d + 1) x y N P F = gq bk d x y N P F 4 (msk x y (2 ^ d) P 4) := by
  unfold gF tr
  rw [if_neg hb]; rfl
theorem gq_0 {bk d x y N : Nat} {P : PL} {F : List Nd} (h : F.length < N) : gq bk d x y N P F 0 (msk x y (2 ^ d) P 0) = F ++ [(d + 1, x, y, P.length, 0, low P)] := by
  unfold gq kids msk
  rw [List.take_of_length_le (by simp; omega)]
theorem mmax_nI {a b : Nat} (ha : a < 2 ^ 31) (hb : b < 2 ^ 31) : (if nI a < nI b then nI b else nI a) = nI (max a b) := by
  by_cases h : a < b
  · rw [if_pos (nI_lt h hb), Nat.max_eq_right (by omega)]
  · rw [if_neg (nI_nlt (by omega) ha), Nat.max_eq_left (by omega)]
theorem or_msk {m q : Nat} (h : m < 2 ^ q) : nI m ||| nI (2 ^ q) = nI (m + 2 ^ q) := by
  rw [bI_or]
  have h1 := Nat.two_pow_add_eq_or_of_lt h 1
  rw [Nat.mul_one] at h1
  rw [Nat.or_comm, ← h1, Nat.add_comm]
theorem q_apart {x y h q q' : Nat} {e : Nat × Nat} (hq : q < 4) (hq' : q' < 4) (hne : q ≠ q') (h1 : inq (x + q % 2 * h) (y + q / 2 * h) h e = true) : inq (x + q' % 2 * h) (y + q' / 2 * h) h e = false := by
  unfold inq at h1 ⊢
  rw [decide_eq_true_eq] at h1
  rw [decide_eq_false_iff_not]
  rcases (show q = 0 ∨ q = 1 ∨ q = 2 ∨ q = 3 by omega) with rfl | rfl | rfl | rfl <;> rcases (show q' = 0 ∨ q' = 1 ∨ q' = 2 ∨ q' = 3 by omega) with rfl | rfl | rfl | rfl <;> simp at h1 hne ⊢ <;> omega
theorem r_step {L : PL} {R R2 S : List Nat} {x y h q q' : Nat} (hq : q < 4) (hq' : q' < 4) (hlt : q < q') (hR : R2.Perm (R.filter (fun i => !inS L (x + q % 2 * h) (y + q / 2 * h) h i))) (hS : (R.filter (inS L (x + q' % 2 * h) (y + q' / 2 * h) h)).Perm (S.filter (inS L (x + q' % 2 * h) (y + q' / 2 * h) h))) : (R2.filter (inS L (x + q' % 2 * h) (y + q' / 2 * h) h)).Perm (S.filter (inS L (x + q' % 2 * h) (y + q' / 2 * h) h)) := by
  refine ((hR.filter _).trans ?_).trans hS
  rw [List.filter_filter]
  apply List.Perm.of_eq
  apply List.filter_congr
  intro i _
  cases hz : inS L (x + q' % 2 * h) (y + q' / 2 * h) h i with
  | false => rfl
  | true =>
    have := q_apart (e := L.getD i (0, 0)) hq' hq (by omega) hz
    show (true && !inS L (x + q % 2 * h) (y + q / 2 * h) h i) = true
    rw [show inS L (x + q % 2 * h) (y + q / 2 * h) h i = false from this]; rfl
theorem reg1 {L : PL} {S : List Nat} {x y : Nat} (hs : pSort L) (hl : ∀ i ∈ S, i < L.length) (hn : S.Nodup) (hr : ∀ i ∈ S, inS L x y 1 i = true) : S.length ≤ 1 := by
  rcases S with _ | ⟨a, _ | ⟨b, S⟩⟩
  · simp
  · simp
  · exfalso
    have ha := hr a (by simp)
    have hb := hr b (by simp)
    have la := hl a (by simp)
    have lb := hl b (by simp)
    have hab : a ≠ b := by
      intro z
      subst z
      simp at hn
    unfold inS inq at ha hb
    rw [decide_eq_true_eq] at ha hb
    have e : pK L a = pK L b := by
      show (L.getD a (0, 0)).1 = (L.getD b (0, 0)).1
      omega
    rcases Nat.lt_or_ge a b with z | z
    · have := sort_ij hs z lb; omega
    · have := sort_ij hs (show b < a by omega) la; omega
theorem ps_len (L : PL) (S : List Nat) : (ps L S).length = S.length := by simp [ps]
theorem ps_perm {L : PL} {S T : List Nat} (h : S.Perm T) : (ps L S).Perm (ps L T) := h.map _
theorem ps_range (L : PL) : ps L (List.range L.length) = L := by
  unfold ps
  apply List.ext_getElem?
  intro i
  rw [List.getElem?_map]
  by_cases h : i < L.length
  · rw [List.getElem?_range h]
    simp [h]
  · rw [List.getElem?_eq_none (by simp; omega), List.getElem?_eq_none (by omega)]; rfl
theorem o_range {o : Nat → Int32} {n : Nat} (h : ∀ j, j < n → o j = nI j) : oOk o ([] ++ List.range n ++ []) n := by
  simp only [List.nil_append, List.append_nil]
  refine ⟨fun i hi => ?_, fun i hi => List.mem_range.mp hi⟩
  rw [List.length_range] at hi
  rw [h i hi, List.getD_eq_getElem?_getD, List.getElem?_range hi]; rfl
end
section
/-! Points: contracts, laid by program (wip/gen/spec_pts.py) -/
set_option maxHeartbeats 4000000 in
set_option maxRecDepth 100000 in
theorem c_X2_isFull (l : Launch) (X : kX) (p k v n w : Nat) (hn : n ≤ 512) : CRi l X yX2_isFull wsX2_isFull 0 [.ref p] [(p, .inr (2, [.ref k, .ref v, .int (nI n), .int (nI w)]))] (fun r => ((512 ≤ n) ∧ r = nI 1) ∨ (¬ (512 ≤ n) ∧ r = nI 0)) := by
  refine Met.ofW (cc := cX2_isFull) (maxL := 1) (ret := some (.boolean)) (by decide) rfl ?_
  intro pz ez sz mz args below meth cz s₁ Bz hml hv
  obtain ⟨rfl, hP, hK, hD0, hN⟩ := hv
  have hx := Bz.exec
  have hb := Bz.bytes
  have hr := Bz.returns
  have hts := atoms_spec (ws := wsX2_isFull) Bz.pre
  have hown : sz.vm.findClass RX2 = some mz.cls := findClass_of_methodNamed Bz.named
  have hlocks := Bz.notSynchronized
  have hD := inW.self hD0
  have hS : va_S (inW [(p, .inr (2, [.ref k, .ref v, .int (nI n), .int (nI w)]))]) sz.heap sz.heap [] := va_S.rf
  have hl := lv_entry ([.ref p]) (n := 1) (Nat.le_of_ble_eq_true rfl)
  rw [lg_entry_eq]
  generalize (lg_sl ([.ref p]) ++ List.replicate (1 - (lg_sl ([.ref p])).length) Slot.unset).toArray = ls at hl ⊢
  have hl : lv_has ls 1 [(0, .ref p)] := hl
  have lk18 := hts (.fieldLink RX2 18 "PointStore$Points" "total" "I") (by decide +kernel)
  have hin2 : ∀ w ∈ u_ws RX2 TX2 4, w ∈ wsX2_isFull := by decide +kernel
  refine wQ (fun Q hQ => ?_)
  generalize hAe : inW [(p, .inr (2, [.ref k, .ref v, .int (nI n), .int (nI w)]))] = A_ at hD hS
  refine lv_aload_n hx hb dX2_isFull_0 rfl (lv_at hl 0 rfl) ?_
  refine va_get (D := X.1) (ci := 2) (v := .int (nI n)) (C := RX2) (T := TX2) (N := 4) hx hb hts hin2 hown hK hP 0 rfl rfl 2 (by decide) lk18 (fun _ h9 => h9) rfl dX2_isFull_1 ?_
  refine lv_sipush (v := nI 512) hx hb dX2_isFull_4 (by decide) ?_
  refine lv_icmp_lt (tgt := 14) hx hb dX2_isFull_7 (by decide) (fun c_7 => ?_) (fun c_7 => ?_)
  · replace c_7 : n < 512 := (nI_ltI (by omega) (by omega)).mp c_7
    refine lv_iconst (v := nI 0) hx hb dX2_isFull_14 (by decide) ?_
    refine wM hQ ?_
    exact rtRZ hx hb hr hlocks (by decide) (Or.inr ⟨by omega, rfl⟩) dX2_isFull_15
  · replace c_7 : ¬ n < 512 := fun h9 => c_7 ((nI_ltI (by omega) (by omega)).mpr h9)
    refine lv_iconst (v := nI 1) hx hb dX2_isFull_10 (by decide) ?_
    refine lv_goto (tgt := 15) hx hb dX2_isFull_11 (by decide) ?_
    refine wM hQ ?_
    exact rtRZ hx hb hr hlocks (by decide) (Or.inl ⟨by omega, rfl⟩) dX2_isFull_15
set_option maxHeartbeats 4000000 in
set_option maxRecDepth 100000 in
theorem c_X2_keyAt (l : Launch) (X : kX) (p k v n w i : Nat) (kf : Nat → Int32) (hn : n ≤ 512) (hi : i < 2 ^ 31) : CRi l X yX2_keyAt wsX2_keyAt 0 [.ref p, .int (nI i)] [(p, .inr (2, [.ref k, .ref v, .int (nI n), .int (nI w)])), (k, .inl (X.2.1, 512, .inl kf))] (fun r => r = if i < n then kf i else nI 1073741824) := by
  refine Met.ofW (cc := cX2_keyAt) (maxL := 2) (ret := some (.int)) (by decide) rfl ?_
  intro pz ez sz mz args below meth cz s₁ Bz hml hv
  obtain ⟨rfl, hP, hK, hD0, hN⟩ := hv
  have hx := Bz.exec
  have hb := Bz.bytes
  have hr := Bz.returns
  have hts := atoms_spec (ws := wsX2_keyAt) Bz.pre
  have hown : sz.vm.findClass RX2 = some mz.cls := findClass_of_methodNamed Bz.named
  have hlocks := Bz.notSynchronized
  have hD := inW.self hD0
  have hS : va_S (inW [(p, .inr (2, [.ref k, .ref v, .int (nI n), .int (nI w)])), (k, .inl (X.2.1, 512, .inl kf))]) sz.heap sz.heap [] := va_S.rf
  have hl := lv_entry ([.ref p, .int (nI i)]) (n := 2) (Nat.le_of_ble_eq_true rfl)
  rw [lg_entry_eq]
  generalize (lg_sl ([.ref p, .int (nI i)]) ++ List.replicate (2 - (lg_sl ([.ref p, .int (nI i)])).length) Slot.unset).toArray = ls at hl ⊢
  have hl : lv_has ls 2 [(0, .ref p), (1, .int (nI i))] := hl
  have lk9 := hts (.fieldLink RX2 9 "PointStore$Points" "keys" "[I") (by decide +kernel)
  have lk18 := hts (.fieldLink RX2 18 "PointStore$Points" "total" "I") (by decide +kernel)
  have hin2 : ∀ w ∈ u_ws RX2 TX2 4, w ∈ wsX2_keyAt := by decide +kernel
  refine wQ (fun Q hQ => ?_)
  generalize hAe : inW [(p, .inr (2, [.ref k, .ref v, .int (nI n), .int (nI w)])), (k, .inl (X.2.1, 512, .inl kf))] = A_ at hD hS
  refine lv_iload_n hx hb dX2_keyAt_0 rfl (lv_at hl 1 rfl) ?_
  refine lv_if_lt (tgt := 21) hx hb dX2_keyAt_1 (by decide) (fun c_1 => ?_) (fun c_1 => ?_)
  · exact absurd c_1 (by first | exact nI_pos (by omega) | exact fun h9 => h9 (nI_pos' (by omega)))
  · change ¬ (nI i < nI 0) at c_1
    replace c_1 : ¬ i < 0 := fun h9 => c_1 ((nI_ltI (by omega) (by omega)).mpr h9)
    refine lv_iload_n hx hb dX2_keyAt_4 rfl (lv_at hl 1 rfl) ?_
    refine lv_aload_n hx hb dX2_keyAt_5 rfl (lv_at hl 0 rfl) ?_
    refine va_get (D := X.1) (ci := 2) (v := .int (nI n)) (C := RX2) (T := TX2) (N := 4) hx hb hts hin2 hown hK hP 0 rfl rfl 2 (by decide) lk18 (fun _ h9 => h9) rfl dX2_keyAt_6 ?_
    refine lv_icmp_ge (tgt := 21) hx hb dX2_keyAt_9 (by decide) (fun c_9 => ?_) (fun c_9 => ?_)
    · replace c_9 : n ≤ i := (nI_leI (by omega) (by omega)).mp c_9
      refine lv_ldc (v := 1073741824) hx hb hown (hts (.constant RX2 25 (1073741824)) (by decide +kernel)) dX2_keyAt_21 ?_
      refine lv_topi (fun x_1 ex_1 => ?_)
      obtain rfl : x_1 = nI 1073741824 := by
        rw [ex_1]
        rfl
      refine wM hQ ?_
      exact rtRI hx hb hr hlocks ((by show _ = _; first | rw [if_pos (by omega)] | rw [if_neg (by omega)])) dX2_keyAt_23
    · replace c_9 : ¬ n ≤ i := fun h9 => c_9 ((nI_leI (by omega) (by omega)).mpr h9)
      refine lv_aload_n hx hb dX2_keyAt_12 rfl (lv_at hl 0 rfl) ?_
      refine va_get (D := X.1) (ci := 2) (v := .ref k) (C := RX2) (T := TX2) (N := 4) hx hb hts hin2 hown hK hP 0 rfl rfl 0 (by decide) lk9 (fun _ h9 => h9) rfl dX2_keyAt_13 ?_
      refine lv_iload_n hx hb dX2_keyAt_16 rfl (lv_at hl 1 rfl) ?_
      have hi_2 : vp_in (nI i) 512 := vp_in_nI (by omega) (by omega)
      refine va_iald hx hb hK hP 1 0 rfl rfl hi_2 dX2_keyAt_17 ?_
      refine lv_topi (fun x_3 ex_3 => ?_)
      obtain rfl : x_3 = kf i := by
        rw [ex_3]
        rw [nI_clamp (by omega)]
      refine lv_goto (tgt := 23) hx hb dX2_keyAt_18 (by decide) ?_
      refine wM hQ ?_
      exact rtRI hx hb hr hlocks ((by show _ = _; first | rw [if_pos (by omega)] | rw [if_neg (by omega)])) dX2_keyAt_23
set_option maxHeartbeats 4000000 in
set_option maxRecDepth 100000 in
theorem c_X2_placeOf (l : Launch) (X : kX) (p k v w key : Nat) (kf vf : Nat → Int32) (L : PL) (h : ptOk kf vf L) (hk : key < 2 ^ 31) : CRi l X yX2_placeOf wsX2_placeOf 0 [.ref p, .int (nI key)] [(p, .inr (2, [.ref k, .ref v, .int (nI L.length), .int (nI w)])), (k, .inl (X.2.1, 512, .inl kf))] (fun r => r = nI (rk L key)) := by
  refine Met.ofW (cc := cX2_placeOf) (maxL := 4) (ret := some (.int)) (by decide) rfl ?_
  intro pz ez sz mz args below meth cz s₁ Bz hml hv
  obtain ⟨rfl, hP, hK, hD0, hN⟩ := hv
  have hx := Bz.exec
  have hb := Bz.bytes
  have hr := Bz.returns
  have hts := atoms_spec (ws := wsX2_placeOf) Bz.pre
  have hown : sz.vm.findClass RX2 = some mz.cls := findClass_of_methodNamed Bz.named
  have hlocks := Bz.notSynchronized
  have hD := inW.self hD0
  have hS : va_S (inW [(p, .inr (2, [.ref k, .ref v, .int (nI L.length), .int (nI w)])), (k, .inl (X.2.1, 512, .inl kf))]) sz.heap sz.heap [] := va_S.rf
  have hl := lv_entry ([.ref p, .int (nI key)]) (n := 4) (Nat.le_of_ble_eq_true rfl)
  rw [lg_entry_eq]
  generalize (lg_sl ([.ref p, .int (nI key)]) ++ List.replicate (4 - (lg_sl ([.ref p, .int (nI key)])).length) Slot.unset).toArray = ls at hl ⊢
  have hl : lv_has ls 4 [(0, .ref p), (1, .int (nI key))] := hl
  have lk9 := hts (.fieldLink RX2 9 "PointStore$Points" "keys" "[I") (by decide +kernel)
  have lk18 := hts (.fieldLink RX2 18 "PointStore$Points" "total" "I") (by decide +kernel)
  have hin2 : ∀ w ∈ u_ws RX2 TX2 4, w ∈ wsX2_placeOf := by decide +kernel
  refine wQ (fun Q hQ => ?_)
  generalize hAe : inW [(p, .inr (2, [.ref k, .ref v, .int (nI L.length), .int (nI w)])), (k, .inl (X.2.1, 512, .inl kf))] = A_ at hD hS
  have hL := h.1
  have hrl := rk_le L key
  refine lv_iconst (v := nI 0) hx hb dX2_placeOf_0 (by decide) ?_
  refine lv_istore_n (lv' := [(2, .int (nI 0)), (0, .ref p), (1, .int (nI key))]) hx hb dX2_placeOf_1 rfl hl (by decide) rfl (fun ls hl => ?_)
  refine lv_sipush (v := nI 512) hx hb dX2_placeOf_2 (by decide) ?_
  refine lv_istore_n (lv' := [(3, .int (nI 512)), (2, .int (nI 0)), (0, .ref p), (1, .int (nI key))]) hx hb dX2_placeOf_5 rfl hl (by decide) rfl (fun ls hl => ?_)
  have loop_6 : ∀ (fu : Nat) (at_ : Nat) (sp : Nat), (at_ ≤ rk L key) → ((sp = 0 ∧ rk L key = at_) ∨ (0 < sp ∧ rk L key < at_ + 2 * sp)) → (sp = 0 ∨ sp = 1 ∨ sp = 2 ∨ sp = 4 ∨ sp = 8 ∨ sp = 16 ∨ sp = 32 ∨ sp = 64 ∨ sp = 128 ∨ sp = 256 ∨ sp = 512) → sp < fu → ∀ (ls : Array Slot), lv_has ls 4 [(0, .ref p), (1, .int (nI key)), (2, .int (nI at_)), (3, .int (nI sp))] → W pz l ez (headSpec wsX2_placeOf (rmk 0)).room sz mz ([.ref p, .int (nI key)].toArray) below meth cz sz.heap [] 0 0 Q (F0 mz 6 ls []) := by
    intro fu
    induction fu with
    | zero => intro at_ sp h1 h2 h3 hfu; exact absurd hfu (Nat.not_lt_zero _)
    | succ fu ih =>
      intro at_ sp h1 h2 h3 hfu ls hl
      refine lv_iload_n hx hb dX2_placeOf_6 rfl (lv_at hl 3 rfl) ?_
      refine lv_if_le (tgt := 45) hx hb dX2_placeOf_7 (by decide) (fun c_7 => ?_) (fun c_7 => ?_)
      · change nI sp ≤ nI 0 at c_7
        replace c_7 : sp ≤ 0 := (nI_leI (by omega) (by omega)).mp c_7
        refine lv_iload_n hx hb dX2_placeOf_45 rfl (lv_at hl 2 rfl) ?_
        refine wM hQ ?_
        exact rtRI hx hb hr hlocks ((by show nI _ = nI _; congr 1; omega)) dX2_placeOf_46
      · change ¬ (nI sp ≤ nI 0) at c_7
        replace c_7 : ¬ sp ≤ 0 := fun h9 => c_7 ((nI_leI (by omega) (by omega)).mpr h9)
        refine lv_iload_n hx hb dX2_placeOf_10 rfl (lv_at hl 2 rfl) ?_
        refine lv_iload_n hx hb dX2_placeOf_11 rfl (lv_at hl 3 rfl) ?_
        refine lv_iadd hx hb dX2_placeOf_12 ?_
        refine lv_topi (fun x_1 ex_1 => ?_)
        obtain rfl : x_1 = nI (at_ + sp) := by
          rw [ex_1]
          exact nI_add _ _
        refine lv_aload_n hx hb dX2_placeOf_13 rfl (lv_at hl 0 rfl) ?_
        refine va_get (D := X.1) (ci := 2) (v := .int (nI L.length)) (C := RX2) (T := TX2) (N := 4) hx hb hts hin2 hown hK hP 0 rfl rfl 2 (by decide) lk18 (fun _ h9 => h9) rfl dX2_placeOf_14 ?_
        refine lv_icmp_gt (tgt := 38) hx hb dX2_placeOf_17 (by decide) (fun c_17 => ?_) (fun c_17 => ?_)
        · replace c_17 : L.length < (at_ + sp) := (nI_ltI (by omega) (by omega)).mp c_17
          refine lv_iload_n hx hb dX2_placeOf_38 rfl (lv_at hl 3 rfl) ?_
          refine lv_iconst (v := nI 1) hx hb dX2_placeOf_39 (by decide) ?_
          refine lv_ishr hx hb dX2_placeOf_40 ?_
          refine lv_topi (fun x_2 ex_2 => ?_)
          obtain rfl : x_2 = nI (sp / 2) := by
            rw [ex_2]
            exact pk_shrN (by omega) _ 1 (by decide)
          refine lv_istore_n (lv' := [(3, .int (nI (sp / 2))), (0, .ref p), (1, .int (nI key)), (2, .int (nI at_))]) hx hb dX2_placeOf_41 rfl hl (by decide) rfl (fun ls hl => ?_)
          refine lv_goto (tgt := 6) hx hb dX2_placeOf_42 (by decide) ?_
          exact ih at_ (sp / 2) (by omega) (by omega) (by omega) (by omega) ls (lv_sub hl [1, 2, 3, 0] rfl)
        · replace c_17 : ¬ L.length < (at_ + sp) := fun h9 => c_17 ((nI_ltI (by omega) (by omega)).mpr h9)
          refine lv_aload_n hx hb dX2_placeOf_20 rfl (lv_at hl 0 rfl) ?_
          refine va_get (D := X.1) (ci := 2) (v := .ref k) (C := RX2) (T := TX2) (N := 4) hx hb hts hin2 hown hK hP 0 rfl rfl 0 (by decide) lk9 (fun _ h9 => h9) rfl dX2_placeOf_21 ?_
          refine lv_iload_n hx hb dX2_placeOf_24 rfl (lv_at hl 2 rfl) ?_
          refine lv_iload_n hx hb dX2_placeOf_25 rfl (lv_at hl 3 rfl) ?_
          refine lv_iadd hx hb dX2_placeOf_26 ?_
          refine lv_topi (fun x_3 ex_3 => ?_)
          obtain rfl : x_3 = nI (at_ + sp) := by
            rw [ex_3]
            exact nI_add _ _
          refine lv_iconst (v := nI 1) hx hb dX2_placeOf_27 (by decide) ?_
          refine lv_isub hx hb dX2_placeOf_28 ?_
          refine lv_topi (fun x_4 ex_4 => ?_)
          obtain rfl : x_4 = nI ((at_ + sp) - 1) := by
            rw [ex_4]
            exact pk_sub (by omega)
          have hi_5 : vp_in (nI ((at_ + sp) - 1)) 512 := vp_in_nI (by omega) (by omega)
          refine va_iald hx hb hK hP 1 0 rfl rfl hi_5 dX2_placeOf_29 ?_
          refine lv_topi (fun x_6 ex_6 => ?_)
          obtain rfl : x_6 = kf ((at_ + sp) - 1) := by
            rw [ex_6]
            rw [nI_clamp (by omega)]
          refine lv_topi (fun x_7 ex_7 => ?_)
          obtain rfl : x_7 = nI (pK L (at_ + sp - 1)) := by
            rw [ex_7]
            exact h.k (by omega)
          refine lv_iload_n hx hb dX2_placeOf_30 rfl (lv_at hl 1 rfl) ?_
          have hkb := h.kb (i := at_ + sp - 1) (by omega)
          refine lv_icmp_ge (tgt := 38) hx hb dX2_placeOf_31 (by decide) (fun c_31 => ?_) (fun c_31 => ?_)
          · replace c_31 : key ≤ (pK L (at_ + sp - 1)) := (nI_leI (by omega) (by omega)).mp c_31
            have q1 : rk L key ≤ at_ + sp - 1 := by
              rcases Nat.lt_or_ge (at_ + sp - 1) (rk L key) with z | z
              · have := rk_lt L key _ z
                omega
              · exact z
            refine lv_iload_n hx hb dX2_placeOf_38 rfl (lv_at hl 3 rfl) ?_
            refine lv_iconst (v := nI 1) hx hb dX2_placeOf_39 (by decide) ?_
            refine lv_ishr hx hb dX2_placeOf_40 ?_
            refine lv_topi (fun x_8 ex_8 => ?_)
            obtain rfl : x_8 = nI (sp / 2) := by
              rw [ex_8]
              exact pk_shrN (by omega) _ 1 (by decide)
            refine lv_istore_n (lv' := [(3, .int (nI (sp / 2))), (0, .ref p), (1, .int (nI key)), (2, .int (nI at_))]) hx hb dX2_placeOf_41 rfl hl (by decide) rfl (fun ls hl => ?_)
            refine lv_goto (tgt := 6) hx hb dX2_placeOf_42 (by decide) ?_
            exact ih at_ (sp / 2) (by omega) (by omega) (by omega) (by omega) ls (lv_sub hl [1, 2, 3, 0] rfl)
          · replace c_31 : ¬ key ≤ (pK L (at_ + sp - 1)) := fun h9 => c_31 ((nI_leI (by omega) (by omega)).mpr h9)
            have q1 : at_ + sp - 1 < rk L key := by
              rcases Nat.lt_or_ge (at_ + sp - 1) (rk L key) with z | z
              · exact z
              · have := rk_ge L key _ h.2.2.1 z (by omega)
                omega
            refine lv_iload_n hx hb dX2_placeOf_34 rfl (lv_at hl 2 rfl) ?_
            refine lv_iload_n hx hb dX2_placeOf_35 rfl (lv_at hl 3 rfl) ?_
            refine lv_iadd hx hb dX2_placeOf_36 ?_
            refine lv_topi (fun x_9 ex_9 => ?_)
            obtain rfl : x_9 = nI (at_ + sp) := by
              rw [ex_9]
              exact nI_add _ _
            refine lv_istore_n (lv' := [(2, .int (nI (at_ + sp))), (0, .ref p), (1, .int (nI key)), (3, .int (nI sp))]) hx hb dX2_placeOf_37 rfl hl (by decide) rfl (fun ls hl => ?_)
            refine lv_iload_n hx hb dX2_placeOf_38 rfl (lv_at hl 3 rfl) ?_
            refine lv_iconst (v := nI 1) hx hb dX2_placeOf_39 (by decide) ?_
            refine lv_ishr hx hb dX2_placeOf_40 ?_
            refine lv_topi (fun x_10 ex_10 => ?_)
            obtain rfl : x_10 = nI (sp / 2) := by
              rw [ex_10]
              exact pk_shrN (by omega) _ 1 (by decide)
            refine lv_istore_n (lv' := [(3, .int (nI (sp / 2))), (2, .int (nI (at_ + sp))), (0, .ref p), (1, .int (nI key))]) hx hb dX2_placeOf_41 rfl hl (by decide) rfl (fun ls hl => ?_)
            refine lv_goto (tgt := 6) hx hb dX2_placeOf_42 (by decide) ?_
            exact ih (at_ + sp) (sp / 2) (by omega) (by omega) (by omega) (by omega) ls (lv_sub hl [2, 3, 1, 0] rfl)
  exact loop_6 _ 0 512 (by omega) (by omega) (by omega) (Nat.lt_succ_self _) ls (lv_sub hl [2, 3, 1, 0] rfl)
set_option maxHeartbeats 4000000 in
set_option maxRecDepth 100000 in
theorem c_X2_valueOf (l : Launch) (X : kX) (p k v w key : Nat) (kf vf : Nat → Int32) (L : PL) (h : ptOk kf vf L) (hk : key < 2 ^ 30) : CRi l X yX2_valueOf wsX2_valueOf 1 [.ref p, .int (nI key)] [(p, .inr (2, [.ref k, .ref v, .int (nI L.length), .int (nI w)])), (k, .inl (X.2.1, 512, .inl kf)), (v, .inl (X.2.1, 512, .inl vf))] (fun r => r = vOf L key) := by
  refine Met.ofW (cc := cX2_valueOf) (maxL := 3) (ret := some (.int)) (by decide) rfl ?_
  intro pz ez sz mz args below meth cz s₁ Bz hml hv
  obtain ⟨rfl, hP, hK, hD0, hN⟩ := hv
  have hx := Bz.exec
  have hb := Bz.bytes
  have hr := Bz.returns
  have hts := atoms_spec (ws := wsX2_valueOf) Bz.pre
  have hown : sz.vm.findClass RX2 = some mz.cls := findClass_of_methodNamed Bz.named
  have hlocks := Bz.notSynchronized
  have hD := inW.self hD0
  have hS : va_S (inW [(p, .inr (2, [.ref k, .ref v, .int (nI L.length), .int (nI w)])), (k, .inl (X.2.1, 512, .inl kf)), (v, .inl (X.2.1, 512, .inl vf))]) sz.heap sz.heap [] := va_S.rf
  have hl := lv_entry ([.ref p, .int (nI key)]) (n := 3) (Nat.le_of_ble_eq_true rfl)
  rw [lg_entry_eq]
  generalize (lg_sl ([.ref p, .int (nI key)]) ++ List.replicate (3 - (lg_sl ([.ref p, .int (nI key)])).length) Slot.unset).toArray = ls at hl ⊢
  have hl : lv_has ls 3 [(0, .ref p), (1, .int (nI key))] := hl
  have lk15 := hts (.fieldLink RX2 15 "PointStore$Points" "values" "[I") (by decide +kernel)
  have hin2 : ∀ w ∈ u_ws RX2 TX2 4, w ∈ wsX2_valueOf := by decide +kernel
  refine wQ (fun Q hQ => ?_)
  generalize hAe : inW [(p, .inr (2, [.ref k, .ref v, .int (nI L.length), .int (nI w)])), (k, .inl (X.2.1, 512, .inl kf)), (v, .inl (X.2.1, 512, .inl vf))] = A_ at hD hS
  have hL := h.1
  have hrl := rk_le L key
  have hlk := lkp_rk L key h.2.2.1
  refine lv_aload_n hx hb dX2_valueOf_0 rfl (lv_at hl 0 rfl) ?_
  refine lv_iload_n hx hb dX2_valueOf_1 rfl (lv_at hl 1 rfl) ?_
  refine ckVRi (As := [.int (nI key)]) (rest := []) 0 [0, 1] (c_X2_placeOf l X p k v w key kf vf L h (by omega)) ⟨hx, hb, hml, hown, hts⟩ (cwV 1 hts gX2_valueOf_X2_placeOf rfl rfl rfl (by decide +kernel) ⟨Nat.le_of_ble_eq_true rfl, Nat.le_of_ble_eq_true rfl⟩) hK hN hP hD (by decide) rfl (ci := 2) rfl rfl rfl hl.1 rfl (Nat.le_of_ble_eq_true rfl) dX2_valueOf_2 ⟨Nat.zero_le _, Nat.zero_le _⟩ (fun r_1 hc_2 => ?_)
  subst hc_2
  refine lv_istore_n (lv' := [(2, .int (nI (rk L key))), (0, .ref p), (1, .int (nI key))]) hx hb dX2_valueOf_5 rfl hl (by decide) rfl (fun ls hl => ?_)
  refine lv_aload_n hx hb dX2_valueOf_6 rfl (lv_at hl 1 rfl) ?_
  refine lv_iload_n hx hb dX2_valueOf_7 rfl (lv_at hl 0 rfl) ?_
  refine ckVRi (As := [.int (nI (rk L key))]) (rest := []) 0 [0, 1] (c_X2_keyAt l X p k v L.length w (rk L key) kf hL (by omega)) ⟨hx, hb, hml, hown, hts⟩ (cwV 1 hts gX2_valueOf_X2_keyAt rfl rfl rfl (by decide +kernel) ⟨Nat.le_of_ble_eq_true rfl, Nat.le_of_ble_eq_true rfl⟩) hK hN hP hD (by decide) rfl (ci := 2) rfl rfl rfl hl.1 rfl (Nat.le_of_ble_eq_true rfl) dX2_valueOf_8 ⟨Nat.zero_le _, Nat.zero_le _⟩ (fun r_2 hc_8 => ?_)
  by_cases hlt : rk L key < L.length
  · skip
    rw [if_pos hlt, h.k hlt] at hc_8
    subst hc_8
    have hkb := h.kb hlt
    refine lv_iload_n hx hb dX2_valueOf_11 rfl (lv_at hl 2 rfl) ?_
    refine lv_icmp_ne (tgt := 24) hx hb dX2_valueOf_12 (by decide) (fun c_12 => ?_) (fun c_12 => ?_)
    · replace c_12 : ¬ (pK L (rk L key)) = key := fun h9 => c_12 ((nI_eq (by omega) (by omega)).mpr h9)
      refine lv_iconst (v := (-1)) hx hb dX2_valueOf_24 (by decide) ?_
      refine wM hQ ?_
      exact rtRI hx hb hr hlocks ((by show _ = _; unfold vOf; first | rw [hlk, if_pos ⟨hlt, c_12⟩, h.v hlt] | rw [hlk, if_neg (fun z => by omega)])) dX2_valueOf_25
    · replace c_12 : (pK L (rk L key)) = key := (nI_eq (by omega) (by omega)).mp c_12
      refine lv_aload_n hx hb dX2_valueOf_15 rfl (lv_at hl 1 rfl) ?_
      refine va_get (D := X.1) (ci := 2) (v := .ref v) (C := RX2) (T := TX2) (N := 4) hx hb hts hin2 hown hK hP 0 rfl rfl 1 (by decide) lk15 (fun _ h9 => h9) rfl dX2_valueOf_16 ?_
      refine lv_iload_n hx hb dX2_valueOf_19 rfl (lv_at hl 0 rfl) ?_
      have hi_3 : vp_in (nI (rk L key)) 512 := vp_in_nI (by omega) (by omega)
      refine va_iald hx hb hK hP 2 0 rfl rfl hi_3 dX2_valueOf_20 ?_
      refine lv_topi (fun x_4 ex_4 => ?_)
      obtain rfl : x_4 = vf (rk L key) := by
        rw [ex_4]
        rw [nI_clamp (by omega)]
      refine lv_goto (tgt := 25) hx hb dX2_valueOf_21 (by decide) ?_
      refine wM hQ ?_
      exact rtRI hx hb hr hlocks ((by show _ = _; unfold vOf; first | rw [hlk, if_pos ⟨hlt, c_12⟩, h.v hlt] | rw [hlk, if_neg (fun z => by omega)])) dX2_valueOf_25
  · skip
    rw [if_neg hlt] at hc_8
    subst hc_8
    refine lv_iload_n hx hb dX2_valueOf_11 rfl (lv_at hl 2 rfl) ?_
    refine lv_icmp_ne (tgt := 24) hx hb dX2_valueOf_12 (by decide) (fun c_12 => ?_) (fun c_12 => ?_)
    · replace c_12 : ¬ 1073741824 = key := fun h9 => c_12 ((nI_eq (by omega) (by omega)).mpr h9)
      refine lv_iconst (v := (-1)) hx hb dX2_valueOf_24 (by decide) ?_
      refine wM hQ ?_
      exact rtRI hx hb hr hlocks ((by show _ = _; unfold vOf; first | rw [hlk, if_pos ⟨hlt, c_12⟩, h.v hlt] | rw [hlk, if_neg (fun z => by omega)])) dX2_valueOf_25
    · replace c_12 : 1073741824 = key := (nI_eq (by omega) (by omega)).mp c_12
      omega
set_option maxHeartbeats 4000000 in
set_option maxRecDepth 100000 in
theorem c_X2_put (l : Launch) (X : kX) (p k v w key x : Nat) (kf vf : Nat → Int32) (L : PL) (h : ptOk kf vf L) (hk : key < 2 ^ 30) (hx0 : x < 2 ^ 31) (hl0 : (pput L key x).length ≤ 512) : CWv l X yX2_put wsX2_put 1 [.ref p, .int (nI key), .int (nI x)] [(p, .inr (2, [.ref k, .ref v, .int (nI L.length), .int (nI w)])), (k, .inl (X.2.1, 512, .inl kf)), (v, .inl (X.2.1, 512, .inl vf))] (S := (Nat → Int32) × (Nat → Int32)) (fun u => ptOk u.1 u.2 (pput L key x)) (fun ⟨kf2, vf2⟩ => [(p, .inr (2, [.ref k, .ref v, .int (nI ((pput L key x).length)), .int (nI (w + 1))])), (k, .inl (X.2.1, 512, .inl kf2)), (v, .inl (X.2.1, 512, .inl vf2))]) := by
  refine Met.ofW (cc := cX2_put) (maxL := 4) (ret := none) (by decide) rfl ?_
  intro pz ez sz mz args below meth cz s₁ Bz hml hv
  obtain ⟨rfl, hP, hK, hD0, hN⟩ := hv
  have hx := Bz.exec
  have hb := Bz.bytes
  have hr := Bz.returns
  have hts := atoms_spec (ws := wsX2_put) Bz.pre
  have hown : sz.vm.findClass RX2 = some mz.cls := findClass_of_methodNamed Bz.named
  have hlocks := Bz.notSynchronized
  have hD := inW.self hD0
  have hS : va_S (inW [(p, .inr (2, [.ref k, .ref v, .int (nI L.length), .int (nI w)])), (k, .inl (X.2.1, 512, .inl kf)), (v, .inl (X.2.1, 512, .inl vf))]) sz.heap sz.heap [] := va_S.rf
  have hl := lv_entry ([.ref p, .int (nI key), .int (nI x)]) (n := 4) (Nat.le_of_ble_eq_true rfl)
  rw [lg_entry_eq]
  generalize (lg_sl ([.ref p, .int (nI key), .int (nI x)]) ++ List.replicate (4 - (lg_sl ([.ref p, .int (nI key), .int (nI x)])).length) Slot.unset).toArray = ls at hl ⊢
  have hl : lv_has ls 4 [(0, .ref p), (1, .int (nI key)), (2, .int (nI x))] := hl
  have lk9 := hts (.fieldLink RX2 9 "PointStore$Points" "keys" "[I") (by decide +kernel)
  have lk15 := hts (.fieldLink RX2 15 "PointStore$Points" "values" "[I") (by decide +kernel)
  have lk18 := hts (.fieldLink RX2 18 "PointStore$Points" "total" "I") (by decide +kernel)
  have lk22 := hts (.fieldLink RX2 22 "PointStore$Points" "version" "I") (by decide +kernel)
  have hin2 : ∀ w ∈ u_ws RX2 TX2 4, w ∈ wsX2_put := by decide +kernel
  refine wQ (fun Q hQ => ?_)
  generalize hAe : inW [(p, .inr (2, [.ref k, .ref v, .int (nI L.length), .int (nI w)])), (k, .inl (X.2.1, 512, .inl kf)), (v, .inl (X.2.1, 512, .inl vf))] = A_ at hD hS hQ
  have hL := h.1
  have hrl := rk_le L key
  have hnew := fun hn hl => pt_put_new (v := x) h (key := key) hn hl hk hx0
  have hold := fun hn hkk => pt_put_old (v := x) h (key := key) hn hkk hx0
  refine lv_aload_n hx hb dX2_put_0 rfl (lv_at hl 0 rfl) ?_
  refine lv_iload_n hx hb dX2_put_1 rfl (lv_at hl 1 rfl) ?_
  refine ckVRi (As := [.int (nI key)]) (rest := []) 0 [0, 1] (c_X2_placeOf l X p k v w key kf vf L h (by omega)) ⟨hx, hb, hml, hown, hts⟩ (cwV 1 hts gX2_put_X2_placeOf rfl rfl rfl (by decide +kernel) ⟨Nat.le_of_ble_eq_true rfl, Nat.le_of_ble_eq_true rfl⟩) hK hN hP hD (by decide) rfl (ci := 2) rfl rfl rfl hl.1 rfl (Nat.le_of_ble_eq_true rfl) dX2_put_2 ⟨Nat.zero_le _, Nat.zero_le _⟩ (fun r_1 hc_2 => ?_)
  subst hc_2
  refine lv_istore_n (lv' := [(3, .int (nI (rk L key))), (0, .ref p), (1, .int (nI key)), (2, .int (nI x))]) hx hb dX2_put_5 rfl hl (by decide) rfl (fun ls hl => ?_)
  refine lv_aload_n hx hb dX2_put_6 rfl (lv_at hl 1 rfl) ?_
  refine lv_iload_n hx hb dX2_put_7 rfl (lv_at hl 0 rfl) ?_
  refine ckVRi (As := [.int (nI (rk L key))]) (rest := []) 0 [0, 1] (c_X2_keyAt l X p k v L.length w (rk L key) kf hL (by omega)) ⟨hx, hb, hml, hown, hts⟩ (cwV 1 hts gX2_put_X2_keyAt rfl rfl rfl (by decide +kernel) ⟨Nat.le_of_ble_eq_true rfl, Nat.le_of_ble_eq_true rfl⟩) hK hN hP hD (by decide) rfl (ci := 2) rfl rfl rfl hl.1 rfl (Nat.le_of_ble_eq_true rfl) dX2_put_8 ⟨Nat.zero_le _, Nat.zero_le _⟩ (fun r_2 hc_8 => ?_)
  by_cases hlt : rk L key < L.length
  · skip
    rw [if_pos hlt, h.k hlt] at hc_8
    subst hc_8
    have hkb := h.kb hlt
    refine lv_iload_n hx hb dX2_put_11 rfl (lv_at hl 2 rfl) ?_
    refine lv_icmp_eq (tgt := 82) hx hb dX2_put_12 (by decide) (fun c_12 => ?_) (fun c_12 => ?_)
    · replace c_12 : (pK L (rk L key)) = key := (nI_eq (by omega) (by omega)).mp c_12
      refine lv_aload_n hx hb dX2_put_82 rfl (lv_at hl 1 rfl) ?_
      refine va_get (D := X.1) (ci := 2) (v := .ref v) (C := RX2) (T := TX2) (N := 4) hx hb hts hin2 hown hK hP 0 rfl rfl 1 (by decide) lk15 (fun _ h9 => h9) rfl dX2_put_83 ?_
      refine lv_iload_n hx hb dX2_put_86 rfl (lv_at hl 0 rfl) ?_
      refine lv_iload_n hx hb dX2_put_87 rfl (lv_at hl 3 rfl) ?_
      have hi_3 : vp_in (nI (rk L key)) 512 := vp_in_nI (by omega) (by omega)
      refine va_iast hx hb hK hP hD hS 2 0 rfl rfl hi_3 dX2_put_88 (fun H locs hP hD hS => ?_)
      rw [nI_clamp (by omega)] at hP hD
      have hP : va_P X.1 vwCl [(p, .inr (2, [.ref k, .ref v, .int (nI L.length), .int (nI w)])), (k, .inl (X.2.1, 512, .inl kf)), (v, .inl (X.2.1, 512, .inl (upd vf (rk L key) (nI x))))] H := hP
      have hD : va_D A_ [(p, .inr (2, [.ref k, .ref v, .int (nI L.length), .int (nI w)])), (k, .inl (X.2.1, 512, .inl kf)), (v, .inl (X.2.1, 512, .inl (upd vf (rk L key) (nI x))))] := hD
      refine lv_aload_n hx hb dX2_put_89 rfl (lv_at hl 1 rfl) ?_
      refine lv_dup hx hb dX2_put_90 rfl ?_
      refine va_get (D := X.1) (ci := 2) (v := .int (nI w)) (C := RX2) (T := TX2) (N := 4) hx hb hts hin2 hown hK hP 0 rfl rfl 3 (by decide) lk22 (fun _ h9 => h9) rfl dX2_put_91 ?_
      refine lv_iconst (v := nI 1) hx hb dX2_put_94 (by decide) ?_
      refine lv_iadd hx hb dX2_put_95 ?_
      refine lv_topi (fun x_4 ex_4 => ?_)
      obtain rfl : x_4 = nI (w + 1) := by
        rw [ex_4]
        exact nI_add _ _
      refine va_put (D := X.1) (ci := 2) (v := .int (nI (w + 1))) (ty := .int) (C := RX2) (T := TX2) (N := 4) hx hb hts hin2 tyX2 tyX2_ok nmX2 hown hK hP hD hS 0 rfl rfl 3 (by decide) lk22 (fun _ h9 => h9) rfl (by decide +kernel) rfl rfl (Nat.le_of_ble_eq_true rfl) dX2_put_96 (fun H locs hP hD hS => ?_)
      have hP : va_P X.1 vwCl [(p, .inr (2, [.ref k, .ref v, .int (nI L.length), .int (nI (w + 1))])), (k, .inl (X.2.1, 512, .inl kf)), (v, .inl (X.2.1, 512, .inl (upd vf (rk L key) (nI x))))] H := hP
      have hD : va_D A_ [(p, .inr (2, [.ref k, .ref v, .int (nI L.length), .int (nI (w + 1))])), (k, .inl (X.2.1, 512, .inl kf)), (v, .inl (X.2.1, 512, .inl (upd vf (rk L key) (nI x))))] := hD
      rw [← (hold hlt c_12).2] at hP
      refine wM hQ ?_
      exact rtV (kf, upd vf (rk L key) (nI x)) hx hb hr hlocks hP hS ((hold hlt c_12).1) dX2_put_99
    · replace c_12 : ¬ (pK L (rk L key)) = key := fun h9 => c_12 ((nI_eq (by omega) (by omega)).mpr h9)
      refine lv_aload_n hx hb dX2_put_15 rfl (lv_at hl 1 rfl) ?_
      refine ckVRi (As := []) (rest := []) 0 [0] (c_X2_isFull l X p k v L.length w hL) ⟨hx, hb, hml, hown, hts⟩ (cwV 0 hts gX2_put_X2_isFull rfl rfl rfl (by decide +kernel) ⟨Nat.le_of_ble_eq_true rfl, Nat.le_of_ble_eq_true rfl⟩) hK hN hP hD (by decide) rfl (ci := 2) rfl rfl rfl hl.1 rfl (Nat.le_of_ble_eq_true rfl) dX2_put_16 ⟨Nat.zero_le _, Nat.zero_le _⟩ (fun r_5 hc_16 => ?_)
      rcases hc_16 with ⟨hc_16, rfl⟩ | ⟨hc_16, rfl⟩
      · skip
        have hlen : (pput L key x).length = L.length + 1 := by
          rw [pput_new L key x h.2.2.1 (fun z => by omega)]
          simp
          omega
        omega
      · skip
        refine lv_if_eq (tgt := 23) hx hb dX2_put_19 (by decide) (fun c_19 => ?_) (fun c_19 => ?_)
        · skip
          refine lv_aload_n hx hb dX2_put_23 rfl (lv_at hl 1 rfl) ?_
          refine va_get (D := X.1) (ci := 2) (v := .ref k) (C := RX2) (T := TX2) (N := 4) hx hb hts hin2 hown hK hP 0 rfl rfl 0 (by decide) lk9 (fun _ h9 => h9) rfl dX2_put_24 ?_
          refine lv_iload_n hx hb dX2_put_27 rfl (lv_at hl 0 rfl) ?_
          refine lv_aload_n hx hb dX2_put_28 rfl (lv_at hl 1 rfl) ?_
          refine va_get (D := X.1) (ci := 2) (v := .ref k) (C := RX2) (T := TX2) (N := 4) hx hb hts hin2 hown hK hP 0 rfl rfl 0 (by decide) lk9 (fun _ h9 => h9) rfl dX2_put_29 ?_
          refine lv_iload_n hx hb dX2_put_32 rfl (lv_at hl 0 rfl) ?_
          refine lv_iconst (v := nI 1) hx hb dX2_put_33 (by decide) ?_
          refine lv_iadd hx hb dX2_put_34 ?_
          refine lv_topi (fun x_6 ex_6 => ?_)
          obtain rfl : x_6 = nI ((rk L key) + 1) := by
            rw [ex_6]
            exact nI_add _ _
          refine lv_aload_n hx hb dX2_put_35 rfl (lv_at hl 1 rfl) ?_
          refine va_get (D := X.1) (ci := 2) (v := .int (nI L.length)) (C := RX2) (T := TX2) (N := 4) hx hb hts hin2 hown hK hP 0 rfl rfl 2 (by decide) lk18 (fun _ h9 => h9) rfl dX2_put_36 ?_
          refine lv_iload_n hx hb dX2_put_39 rfl (lv_at hl 0 rfl) ?_
          refine lv_isub hx hb dX2_put_40 ?_
          refine lv_topi (fun x_7 ex_7 => ?_)
          obtain rfl : x_7 = nI (L.length - (rk L key)) := by
            rw [ex_7]
            exact pk_sub (by omega)
          refine va_copyi hx hb (hml.trans hl.1.symm) hown (hts (.methodLink RX2 37 arraycopyName) (by decide +kernel)) (hts (.native arraycopyName) (by decide +kernel)) (hts (.static arraycopyName) (by decide +kernel)) (hts (.initialized "java/lang/System") (by decide +kernel)) hK hP hD hS 1 1 0 0 rfl rfl rfl rfl rfl (nI_pos (by omega)) (nI_pos (by omega)) (nI_pos (by omega)) (by rw [nI_clamp (by omega), nI_clamp (by omega)]; omega) (by rw [nI_clamp (by omega), nI_clamp (by omega)]; omega) (fun _ _ => rfl) (Nat.le_of_ble_eq_true rfl) (by decide) dX2_put_41 (fun H locs hP hD hS => ?_)
          rw [nI_clamp (n := rk L key) (by omega), nI_clamp (n := (rk L key) + 1) (by omega), nI_clamp (n := L.length - (rk L key)) (by omega)] at hP hD
          have hP : va_P X.1 vwCl [(p, .inr (2, [.ref k, .ref v, .int (nI L.length), .int (nI w)])), (k, .inl (X.2.1, 512, .inl (va_cpy kf kf (rk L key) ((rk L key) + 1) (L.length - (rk L key))))), (v, .inl (X.2.1, 512, .inl vf))] H := hP
          have hD : va_D A_ [(p, .inr (2, [.ref k, .ref v, .int (nI L.length), .int (nI w)])), (k, .inl (X.2.1, 512, .inl (va_cpy kf kf (rk L key) ((rk L key) + 1) (L.length - (rk L key))))), (v, .inl (X.2.1, 512, .inl vf))] := hD
          refine lv_aload_n hx hb dX2_put_44 rfl (lv_at hl 1 rfl) ?_
          refine va_get (D := X.1) (ci := 2) (v := .ref v) (C := RX2) (T := TX2) (N := 4) hx hb hts hin2 hown hK hP 0 rfl rfl 1 (by decide) lk15 (fun _ h9 => h9) rfl dX2_put_45 ?_
          refine lv_iload_n hx hb dX2_put_48 rfl (lv_at hl 0 rfl) ?_
          refine lv_aload_n hx hb dX2_put_49 rfl (lv_at hl 1 rfl) ?_
          refine va_get (D := X.1) (ci := 2) (v := .ref v) (C := RX2) (T := TX2) (N := 4) hx hb hts hin2 hown hK hP 0 rfl rfl 1 (by decide) lk15 (fun _ h9 => h9) rfl dX2_put_50 ?_
          refine lv_iload_n hx hb dX2_put_53 rfl (lv_at hl 0 rfl) ?_
          refine lv_iconst (v := nI 1) hx hb dX2_put_54 (by decide) ?_
          refine lv_iadd hx hb dX2_put_55 ?_
          refine lv_topi (fun x_8 ex_8 => ?_)
          obtain rfl : x_8 = nI ((rk L key) + 1) := by
            rw [ex_8]
            exact nI_add _ _
          refine lv_aload_n hx hb dX2_put_56 rfl (lv_at hl 1 rfl) ?_
          refine va_get (D := X.1) (ci := 2) (v := .int (nI L.length)) (C := RX2) (T := TX2) (N := 4) hx hb hts hin2 hown hK hP 0 rfl rfl 2 (by decide) lk18 (fun _ h9 => h9) rfl dX2_put_57 ?_
          refine lv_iload_n hx hb dX2_put_60 rfl (lv_at hl 0 rfl) ?_
          refine lv_isub hx hb dX2_put_61 ?_
          refine lv_topi (fun x_9 ex_9 => ?_)
          obtain rfl : x_9 = nI (L.length - (rk L key)) := by
            rw [ex_9]
            exact pk_sub (by omega)
          refine va_copyi hx hb (hml.trans hl.1.symm) hown (hts (.methodLink RX2 37 arraycopyName) (by decide +kernel)) (hts (.native arraycopyName) (by decide +kernel)) (hts (.static arraycopyName) (by decide +kernel)) (hts (.initialized "java/lang/System") (by decide +kernel)) hK hP hD hS 2 2 0 0 rfl rfl rfl rfl rfl (nI_pos (by omega)) (nI_pos (by omega)) (nI_pos (by omega)) (by rw [nI_clamp (by omega), nI_clamp (by omega)]; omega) (by rw [nI_clamp (by omega), nI_clamp (by omega)]; omega) (fun _ _ => rfl) (Nat.le_of_ble_eq_true rfl) (by decide) dX2_put_62 (fun H locs hP hD hS => ?_)
          rw [nI_clamp (n := rk L key) (by omega), nI_clamp (n := (rk L key) + 1) (by omega), nI_clamp (n := L.length - (rk L key)) (by omega)] at hP hD
          have hP : va_P X.1 vwCl [(p, .inr (2, [.ref k, .ref v, .int (nI L.length), .int (nI w)])), (k, .inl (X.2.1, 512, .inl (va_cpy kf kf (rk L key) ((rk L key) + 1) (L.length - (rk L key))))), (v, .inl (X.2.1, 512, .inl (va_cpy vf vf (rk L key) ((rk L key) + 1) (L.length - (rk L key)))))] H := hP
          have hD : va_D A_ [(p, .inr (2, [.ref k, .ref v, .int (nI L.length), .int (nI w)])), (k, .inl (X.2.1, 512, .inl (va_cpy kf kf (rk L key) ((rk L key) + 1) (L.length - (rk L key))))), (v, .inl (X.2.1, 512, .inl (va_cpy vf vf (rk L key) ((rk L key) + 1) (L.length - (rk L key)))))] := hD
          refine lv_aload_n hx hb dX2_put_65 rfl (lv_at hl 1 rfl) ?_
          refine va_get (D := X.1) (ci := 2) (v := .ref k) (C := RX2) (T := TX2) (N := 4) hx hb hts hin2 hown hK hP 0 rfl rfl 0 (by decide) lk9 (fun _ h9 => h9) rfl dX2_put_66 ?_
          refine lv_iload_n hx hb dX2_put_69 rfl (lv_at hl 0 rfl) ?_
          refine lv_iload_n hx hb dX2_put_70 rfl (lv_at hl 2 rfl) ?_
          have hi_10 : vp_in (nI (rk L key)) 512 := vp_in_nI (by omega) (by omega)
          refine va_iast hx hb hK hP hD hS 1 0 rfl rfl hi_10 dX2_put_71 (fun H locs hP hD hS => ?_)
          rw [nI_clamp (by omega)] at hP hD
          have hP : va_P X.1 vwCl [(p, .inr (2, [.ref k, .ref v, .int (nI L.length), .int (nI w)])), (k, .inl (X.2.1, 512, .inl (upd (va_cpy kf kf (rk L key) ((rk L key) + 1) (L.length - (rk L key))) (rk L key) (nI key)))), (v, .inl (X.2.1, 512, .inl (va_cpy vf vf (rk L key) ((rk L key) + 1) (L.length - (rk L key)))))] H := hP
          have hD : va_D A_ [(p, .inr (2, [.ref k, .ref v, .int (nI L.length), .int (nI w)])), (k, .inl (X.2.1, 512, .inl (upd (va_cpy kf kf (rk L key) ((rk L key) + 1) (L.length - (rk L key))) (rk L key) (nI key)))), (v, .inl (X.2.1, 512, .inl (va_cpy vf vf (rk L key) ((rk L key) + 1) (L.length - (rk L key)))))] := hD
          refine lv_aload_n hx hb dX2_put_72 rfl (lv_at hl 1 rfl) ?_
          refine lv_dup hx hb dX2_put_73 rfl ?_
          refine va_get (D := X.1) (ci := 2) (v := .int (nI L.length)) (C := RX2) (T := TX2) (N := 4) hx hb hts hin2 hown hK hP 0 rfl rfl 2 (by decide) lk18 (fun _ h9 => h9) rfl dX2_put_74 ?_
          refine lv_iconst (v := nI 1) hx hb dX2_put_77 (by decide) ?_
          refine lv_iadd hx hb dX2_put_78 ?_
          refine lv_topi (fun x_11 ex_11 => ?_)
          obtain rfl : x_11 = nI (L.length + 1) := by
            rw [ex_11]
            exact nI_add _ _
          refine va_put (D := X.1) (ci := 2) (v := .int (nI (L.length + 1))) (ty := .int) (C := RX2) (T := TX2) (N := 4) hx hb hts hin2 tyX2 tyX2_ok nmX2 hown hK hP hD hS 0 rfl rfl 2 (by decide) lk18 (fun _ h9 => h9) rfl (by decide +kernel) rfl rfl (Nat.le_of_ble_eq_true rfl) dX2_put_79 (fun H locs hP hD hS => ?_)
          have hP : va_P X.1 vwCl [(p, .inr (2, [.ref k, .ref v, .int (nI (L.length + 1)), .int (nI w)])), (k, .inl (X.2.1, 512, .inl (upd (va_cpy kf kf (rk L key) ((rk L key) + 1) (L.length - (rk L key))) (rk L key) (nI key)))), (v, .inl (X.2.1, 512, .inl (va_cpy vf vf (rk L key) ((rk L key) + 1) (L.length - (rk L key)))))] H := hP
          have hD : va_D A_ [(p, .inr (2, [.ref k, .ref v, .int (nI (L.length + 1)), .int (nI w)])), (k, .inl (X.2.1, 512, .inl (upd (va_cpy kf kf (rk L key) ((rk L key) + 1) (L.length - (rk L key))) (rk L key) (nI key)))), (v, .inl (X.2.1, 512, .inl (va_cpy vf vf (rk L key) ((rk L key) + 1) (L.length - (rk L key)))))] := hD
          refine lv_aload_n hx hb dX2_put_82 rfl (lv_at hl 1 rfl) ?_
          refine va_get (D := X.1) (ci := 2) (v := .ref v) (C := RX2) (T := TX2) (N := 4) hx hb hts hin2 hown hK hP 0 rfl rfl 1 (by decide) lk15 (fun _ h9 => h9) rfl dX2_put_83 ?_
          refine lv_iload_n hx hb dX2_put_86 rfl (lv_at hl 0 rfl) ?_
          refine lv_iload_n hx hb dX2_put_87 rfl (lv_at hl 3 rfl) ?_
          have hi_12 : vp_in (nI (rk L key)) 512 := vp_in_nI (by omega) (by omega)
          refine va_iast hx hb hK hP hD hS 2 0 rfl rfl hi_12 dX2_put_88 (fun H locs hP hD hS => ?_)
          rw [nI_clamp (by omega)] at hP hD
          have hP : va_P X.1 vwCl [(p, .inr (2, [.ref k, .ref v, .int (nI (L.length + 1)), .int (nI w)])), (k, .inl (X.2.1, 512, .inl (upd (va_cpy kf kf (rk L key) ((rk L key) + 1) (L.length - (rk L key))) (rk L key) (nI key)))), (v, .inl (X.2.1, 512, .inl (upd (va_cpy vf vf (rk L key) ((rk L key) + 1) (L.length - (rk L key))) (rk L key) (nI x))))] H := hP
          have hD : va_D A_ [(p, .inr (2, [.ref k, .ref v, .int (nI (L.length + 1)), .int (nI w)])), (k, .inl (X.2.1, 512, .inl (upd (va_cpy kf kf (rk L key) ((rk L key) + 1) (L.length - (rk L key))) (rk L key) (nI key)))), (v, .inl (X.2.1, 512, .inl (upd (va_cpy vf vf (rk L key) ((rk L key) + 1) (L.length - (rk L key))) (rk L key) (nI x))))] := hD
          refine lv_aload_n hx hb dX2_put_89 rfl (lv_at hl 1 rfl) ?_
          refine lv_dup hx hb dX2_put_90 rfl ?_
          refine va_get (D := X.1) (ci := 2) (v := .int (nI w)) (C := RX2) (T := TX2) (N := 4) hx hb hts hin2 hown hK hP 0 rfl rfl 3 (by decide) lk22 (fun _ h9 => h9) rfl dX2_put_91 ?_
          refine lv_iconst (v := nI 1) hx hb dX2_put_94 (by decide) ?_
          refine lv_iadd hx hb dX2_put_95 ?_
          refine lv_topi (fun x_13 ex_13 => ?_)
          obtain rfl : x_13 = nI (w + 1) := by
            rw [ex_13]
            exact nI_add _ _
          refine va_put (D := X.1) (ci := 2) (v := .int (nI (w + 1))) (ty := .int) (C := RX2) (T := TX2) (N := 4) hx hb hts hin2 tyX2 tyX2_ok nmX2 hown hK hP hD hS 0 rfl rfl 3 (by decide) lk22 (fun _ h9 => h9) rfl (by decide +kernel) rfl rfl (Nat.le_of_ble_eq_true rfl) dX2_put_96 (fun H locs hP hD hS => ?_)
          have hP : va_P X.1 vwCl [(p, .inr (2, [.ref k, .ref v, .int (nI (L.length + 1)), .int (nI (w + 1))])), (k, .inl (X.2.1, 512, .inl (upd (va_cpy kf kf (rk L key) ((rk L key) + 1) (L.length - (rk L key))) (rk L key) (nI key)))), (v, .inl (X.2.1, 512, .inl (upd (va_cpy vf vf (rk L key) ((rk L key) + 1) (L.length - (rk L key))) (rk L key) (nI x))))] H := hP
          have hD : va_D A_ [(p, .inr (2, [.ref k, .ref v, .int (nI (L.length + 1)), .int (nI (w + 1))])), (k, .inl (X.2.1, 512, .inl (upd (va_cpy kf kf (rk L key) ((rk L key) + 1) (L.length - (rk L key))) (rk L key) (nI key)))), (v, .inl (X.2.1, 512, .inl (upd (va_cpy vf vf (rk L key) ((rk L key) + 1) (L.length - (rk L key))) (rk L key) (nI x))))] := hD
          rw [← (hnew (fun z => by omega) (by omega)).2] at hP
          refine wM hQ ?_
          exact rtV (upd (va_cpy kf kf (rk L key) ((rk L key) + 1) (L.length - (rk L key))) (rk L key) (nI key), upd (va_cpy vf vf (rk L key) ((rk L key) + 1) (L.length - (rk L key))) (rk L key) (nI x)) hx hb hr hlocks hP hS ((hnew (fun z => by omega) (by omega)).1) dX2_put_99
        · exact absurd c_19 (by decide)
  · skip
    rw [if_neg hlt] at hc_8
    subst hc_8
    refine lv_iload_n hx hb dX2_put_11 rfl (lv_at hl 2 rfl) ?_
    refine lv_icmp_eq (tgt := 82) hx hb dX2_put_12 (by decide) (fun c_12 => ?_) (fun c_12 => ?_)
    · replace c_12 : 1073741824 = key := (nI_eq (by omega) (by omega)).mp c_12
      omega
    · replace c_12 : ¬ 1073741824 = key := fun h9 => c_12 ((nI_eq (by omega) (by omega)).mpr h9)
      refine lv_aload_n hx hb dX2_put_15 rfl (lv_at hl 1 rfl) ?_
      refine ckVRi (As := []) (rest := []) 0 [0] (c_X2_isFull l X p k v L.length w hL) ⟨hx, hb, hml, hown, hts⟩ (cwV 0 hts gX2_put_X2_isFull rfl rfl rfl (by decide +kernel) ⟨Nat.le_of_ble_eq_true rfl, Nat.le_of_ble_eq_true rfl⟩) hK hN hP hD (by decide) rfl (ci := 2) rfl rfl rfl hl.1 rfl (Nat.le_of_ble_eq_true rfl) dX2_put_16 ⟨Nat.zero_le _, Nat.zero_le _⟩ (fun r_14 hc_16 => ?_)
      rcases hc_16 with ⟨hc_16, rfl⟩ | ⟨hc_16, rfl⟩
      · skip
        have hlen : (pput L key x).length = L.length + 1 := by
          rw [pput_new L key x h.2.2.1 (fun z => by omega)]
          simp
          omega
        omega
      · skip
        refine lv_if_eq (tgt := 23) hx hb dX2_put_19 (by decide) (fun c_19 => ?_) (fun c_19 => ?_)
        · skip
          refine lv_aload_n hx hb dX2_put_23 rfl (lv_at hl 1 rfl) ?_
          refine va_get (D := X.1) (ci := 2) (v := .ref k) (C := RX2) (T := TX2) (N := 4) hx hb hts hin2 hown hK hP 0 rfl rfl 0 (by decide) lk9 (fun _ h9 => h9) rfl dX2_put_24 ?_
          refine lv_iload_n hx hb dX2_put_27 rfl (lv_at hl 0 rfl) ?_
          refine lv_aload_n hx hb dX2_put_28 rfl (lv_at hl 1 rfl) ?_
          refine va_get (D := X.1) (ci := 2) (v := .ref k) (C := RX2) (T := TX2) (N := 4) hx hb hts hin2 hown hK hP 0 rfl rfl 0 (by decide) lk9 (fun _ h9 => h9) rfl dX2_put_29 ?_
          refine lv_iload_n hx hb dX2_put_32 rfl (lv_at hl 0 rfl) ?_
          refine lv_iconst (v := nI 1) hx hb dX2_put_33 (by decide) ?_
          refine lv_iadd hx hb dX2_put_34 ?_
          refine lv_topi (fun x_15 ex_15 => ?_)
          obtain rfl : x_15 = nI ((rk L key) + 1) := by
            rw [ex_15]
            exact nI_add _ _
          refine lv_aload_n hx hb dX2_put_35 rfl (lv_at hl 1 rfl) ?_
          refine va_get (D := X.1) (ci := 2) (v := .int (nI L.length)) (C := RX2) (T := TX2) (N := 4) hx hb hts hin2 hown hK hP 0 rfl rfl 2 (by decide) lk18 (fun _ h9 => h9) rfl dX2_put_36 ?_
          refine lv_iload_n hx hb dX2_put_39 rfl (lv_at hl 0 rfl) ?_
          refine lv_isub hx hb dX2_put_40 ?_
          refine lv_topi (fun x_16 ex_16 => ?_)
          obtain rfl : x_16 = nI (L.length - (rk L key)) := by
            rw [ex_16]
            exact pk_sub (by omega)
          refine va_copyi hx hb (hml.trans hl.1.symm) hown (hts (.methodLink RX2 37 arraycopyName) (by decide +kernel)) (hts (.native arraycopyName) (by decide +kernel)) (hts (.static arraycopyName) (by decide +kernel)) (hts (.initialized "java/lang/System") (by decide +kernel)) hK hP hD hS 1 1 0 0 rfl rfl rfl rfl rfl (nI_pos (by omega)) (nI_pos (by omega)) (nI_pos (by omega)) (by rw [nI_clamp (by omega), nI_clamp (by omega)]; omega) (by rw [nI_clamp (by omega), nI_clamp (by omega)]; omega) (fun _ _ => rfl) (Nat.le_of_ble_eq_true rfl) (by decide) dX2_put_41 (fun H locs hP hD hS => ?_)
          rw [nI_clamp (n := rk L key) (by omega), nI_clamp (n := (rk L key) + 1) (by omega), nI_clamp (n := L.length - (rk L key)) (by omega)] at hP hD
          have hP : va_P X.1 vwCl [(p, .inr (2, [.ref k, .ref v, .int (nI L.length), .int (nI w)])), (k, .inl (X.2.1, 512, .inl (va_cpy kf kf (rk L key) ((rk L key) + 1) (L.length - (rk L key))))), (v, .inl (X.2.1, 512, .inl vf))] H := hP
          have hD : va_D A_ [(p, .inr (2, [.ref k, .ref v, .int (nI L.length), .int (nI w)])), (k, .inl (X.2.1, 512, .inl (va_cpy kf kf (rk L key) ((rk L key) + 1) (L.length - (rk L key))))), (v, .inl (X.2.1, 512, .inl vf))] := hD
          refine lv_aload_n hx hb dX2_put_44 rfl (lv_at hl 1 rfl) ?_
          refine va_get (D := X.1) (ci := 2) (v := .ref v) (C := RX2) (T := TX2) (N := 4) hx hb hts hin2 hown hK hP 0 rfl rfl 1 (by decide) lk15 (fun _ h9 => h9) rfl dX2_put_45 ?_
          refine lv_iload_n hx hb dX2_put_48 rfl (lv_at hl 0 rfl) ?_
          refine lv_aload_n hx hb dX2_put_49 rfl (lv_at hl 1 rfl) ?_
          refine va_get (D := X.1) (ci := 2) (v := .ref v) (C := RX2) (T := TX2) (N := 4) hx hb hts hin2 hown hK hP 0 rfl rfl 1 (by decide) lk15 (fun _ h9 => h9) rfl dX2_put_50 ?_
          refine lv_iload_n hx hb dX2_put_53 rfl (lv_at hl 0 rfl) ?_
          refine lv_iconst (v := nI 1) hx hb dX2_put_54 (by decide) ?_
          refine lv_iadd hx hb dX2_put_55 ?_
          refine lv_topi (fun x_17 ex_17 => ?_)
          obtain rfl : x_17 = nI ((rk L key) + 1) := by
            rw [ex_17]
            exact nI_add _ _
          refine lv_aload_n hx hb dX2_put_56 rfl (lv_at hl 1 rfl) ?_
          refine va_get (D := X.1) (ci := 2) (v := .int (nI L.length)) (C := RX2) (T := TX2) (N := 4) hx hb hts hin2 hown hK hP 0 rfl rfl 2 (by decide) lk18 (fun _ h9 => h9) rfl dX2_put_57 ?_
          refine lv_iload_n hx hb dX2_put_60 rfl (lv_at hl 0 rfl) ?_
          refine lv_isub hx hb dX2_put_61 ?_
          refine lv_topi (fun x_18 ex_18 => ?_)
          obtain rfl : x_18 = nI (L.length - (rk L key)) := by
            rw [ex_18]
            exact pk_sub (by omega)
          refine va_copyi hx hb (hml.trans hl.1.symm) hown (hts (.methodLink RX2 37 arraycopyName) (by decide +kernel)) (hts (.native arraycopyName) (by decide +kernel)) (hts (.static arraycopyName) (by decide +kernel)) (hts (.initialized "java/lang/System") (by decide +kernel)) hK hP hD hS 2 2 0 0 rfl rfl rfl rfl rfl (nI_pos (by omega)) (nI_pos (by omega)) (nI_pos (by omega)) (by rw [nI_clamp (by omega), nI_clamp (by omega)]; omega) (by rw [nI_clamp (by omega), nI_clamp (by omega)]; omega) (fun _ _ => rfl) (Nat.le_of_ble_eq_true rfl) (by decide) dX2_put_62 (fun H locs hP hD hS => ?_)
          rw [nI_clamp (n := rk L key) (by omega), nI_clamp (n := (rk L key) + 1) (by omega), nI_clamp (n := L.length - (rk L key)) (by omega)] at hP hD
          have hP : va_P X.1 vwCl [(p, .inr (2, [.ref k, .ref v, .int (nI L.length), .int (nI w)])), (k, .inl (X.2.1, 512, .inl (va_cpy kf kf (rk L key) ((rk L key) + 1) (L.length - (rk L key))))), (v, .inl (X.2.1, 512, .inl (va_cpy vf vf (rk L key) ((rk L key) + 1) (L.length - (rk L key)))))] H := hP
          have hD : va_D A_ [(p, .inr (2, [.ref k, .ref v, .int (nI L.length), .int (nI w)])), (k, .inl (X.2.1, 512, .inl (va_cpy kf kf (rk L key) ((rk L key) + 1) (L.length - (rk L key))))), (v, .inl (X.2.1, 512, .inl (va_cpy vf vf (rk L key) ((rk L key) + 1) (L.length - (rk L key)))))] := hD
          refine lv_aload_n hx hb dX2_put_65 rfl (lv_at hl 1 rfl) ?_
          refine va_get (D := X.1) (ci := 2) (v := .ref k) (C := RX2) (T := TX2) (N := 4) hx hb hts hin2 hown hK hP 0 rfl rfl 0 (by decide) lk9 (fun _ h9 => h9) rfl dX2_put_66 ?_
          refine lv_iload_n hx hb dX2_put_69 rfl (lv_at hl 0 rfl) ?_
          refine lv_iload_n hx hb dX2_put_70 rfl (lv_at hl 2 rfl) ?_
          have hi_19 : vp_in (nI (rk L key)) 512 := vp_in_nI (by omega) (by omega)
          refine va_iast hx hb hK hP hD hS 1 0 rfl rfl hi_19 dX2_put_71 (fun H locs hP hD hS => ?_)
          rw [nI_clamp (by omega)] at hP hD
          have hP : va_P X.1 vwCl [(p, .inr (2, [.ref k, .ref v, .int (nI L.length), .int (nI w)])), (k, .inl (X.2.1, 512, .inl (upd (va_cpy kf kf (rk L key) ((rk L key) + 1) (L.length - (rk L key))) (rk L key) (nI key)))), (v, .inl (X.2.1, 512, .inl (va_cpy vf vf (rk L key) ((rk L key) + 1) (L.length - (rk L key)))))] H := hP
          have hD : va_D A_ [(p, .inr (2, [.ref k, .ref v, .int (nI L.length), .int (nI w)])), (k, .inl (X.2.1, 512, .inl (upd (va_cpy kf kf (rk L key) ((rk L key) + 1) (L.length - (rk L key))) (rk L key) (nI key)))), (v, .inl (X.2.1, 512, .inl (va_cpy vf vf (rk L key) ((rk L key) + 1) (L.length - (rk L key)))))] := hD
          refine lv_aload_n hx hb dX2_put_72 rfl (lv_at hl 1 rfl) ?_
          refine lv_dup hx hb dX2_put_73 rfl ?_
          refine va_get (D := X.1) (ci := 2) (v := .int (nI L.length)) (C := RX2) (T := TX2) (N := 4) hx hb hts hin2 hown hK hP 0 rfl rfl 2 (by decide) lk18 (fun _ h9 => h9) rfl dX2_put_74 ?_
          refine lv_iconst (v := nI 1) hx hb dX2_put_77 (by decide) ?_
          refine lv_iadd hx hb dX2_put_78 ?_
          refine lv_topi (fun x_20 ex_20 => ?_)
          obtain rfl : x_20 = nI (L.length + 1) := by
            rw [ex_20]
            exact nI_add _ _
          refine va_put (D := X.1) (ci := 2) (v := .int (nI (L.length + 1))) (ty := .int) (C := RX2) (T := TX2) (N := 4) hx hb hts hin2 tyX2 tyX2_ok nmX2 hown hK hP hD hS 0 rfl rfl 2 (by decide) lk18 (fun _ h9 => h9) rfl (by decide +kernel) rfl rfl (Nat.le_of_ble_eq_true rfl) dX2_put_79 (fun H locs hP hD hS => ?_)
          have hP : va_P X.1 vwCl [(p, .inr (2, [.ref k, .ref v, .int (nI (L.length + 1)), .int (nI w)])), (k, .inl (X.2.1, 512, .inl (upd (va_cpy kf kf (rk L key) ((rk L key) + 1) (L.length - (rk L key))) (rk L key) (nI key)))), (v, .inl (X.2.1, 512, .inl (va_cpy vf vf (rk L key) ((rk L key) + 1) (L.length - (rk L key)))))] H := hP
          have hD : va_D A_ [(p, .inr (2, [.ref k, .ref v, .int (nI (L.length + 1)), .int (nI w)])), (k, .inl (X.2.1, 512, .inl (upd (va_cpy kf kf (rk L key) ((rk L key) + 1) (L.length - (rk L key))) (rk L key) (nI key)))), (v, .inl (X.2.1, 512, .inl (va_cpy vf vf (rk L key) ((rk L key) + 1) (L.length - (rk L key)))))] := hD
          refine lv_aload_n hx hb dX2_put_82 rfl (lv_at hl 1 rfl) ?_
          refine va_get (D := X.1) (ci := 2) (v := .ref v) (C := RX2) (T := TX2) (N := 4) hx hb hts hin2 hown hK hP 0 rfl rfl 1 (by decide) lk15 (fun _ h9 => h9) rfl dX2_put_83 ?_
          refine lv_iload_n hx hb dX2_put_86 rfl (lv_at hl 0 rfl) ?_
          refine lv_iload_n hx hb dX2_put_87 rfl (lv_at hl 3 rfl) ?_
          have hi_21 : vp_in (nI (rk L key)) 512 := vp_in_nI (by omega) (by omega)
          refine va_iast hx hb hK hP hD hS 2 0 rfl rfl hi_21 dX2_put_88 (fun H locs hP hD hS => ?_)
          rw [nI_clamp (by omega)] at hP hD
          have hP : va_P X.1 vwCl [(p, .inr (2, [.ref k, .ref v, .int (nI (L.length + 1)), .int (nI w)])), (k, .inl (X.2.1, 512, .inl (upd (va_cpy kf kf (rk L key) ((rk L key) + 1) (L.length - (rk L key))) (rk L key) (nI key)))), (v, .inl (X.2.1, 512, .inl (upd (va_cpy vf vf (rk L key) ((rk L key) + 1) (L.length - (rk L key))) (rk L key) (nI x))))] H := hP
          have hD : va_D A_ [(p, .inr (2, [.ref k, .ref v, .int (nI (L.length + 1)), .int (nI w)])), (k, .inl (X.2.1, 512, .inl (upd (va_cpy kf kf (rk L key) ((rk L key) + 1) (L.length - (rk L key))) (rk L key) (nI key)))), (v, .inl (X.2.1, 512, .inl (upd (va_cpy vf vf (rk L key) ((rk L key) + 1) (L.length - (rk L key))) (rk L key) (nI x))))] := hD
          refine lv_aload_n hx hb dX2_put_89 rfl (lv_at hl 1 rfl) ?_
          refine lv_dup hx hb dX2_put_90 rfl ?_
          refine va_get (D := X.1) (ci := 2) (v := .int (nI w)) (C := RX2) (T := TX2) (N := 4) hx hb hts hin2 hown hK hP 0 rfl rfl 3 (by decide) lk22 (fun _ h9 => h9) rfl dX2_put_91 ?_
          refine lv_iconst (v := nI 1) hx hb dX2_put_94 (by decide) ?_
          refine lv_iadd hx hb dX2_put_95 ?_
          refine lv_topi (fun x_22 ex_22 => ?_)
          obtain rfl : x_22 = nI (w + 1) := by
            rw [ex_22]
            exact nI_add _ _
          refine va_put (D := X.1) (ci := 2) (v := .int (nI (w + 1))) (ty := .int) (C := RX2) (T := TX2) (N := 4) hx hb hts hin2 tyX2 tyX2_ok nmX2 hown hK hP hD hS 0 rfl rfl 3 (by decide) lk22 (fun _ h9 => h9) rfl (by decide +kernel) rfl rfl (Nat.le_of_ble_eq_true rfl) dX2_put_96 (fun H locs hP hD hS => ?_)
          have hP : va_P X.1 vwCl [(p, .inr (2, [.ref k, .ref v, .int (nI (L.length + 1)), .int (nI (w + 1))])), (k, .inl (X.2.1, 512, .inl (upd (va_cpy kf kf (rk L key) ((rk L key) + 1) (L.length - (rk L key))) (rk L key) (nI key)))), (v, .inl (X.2.1, 512, .inl (upd (va_cpy vf vf (rk L key) ((rk L key) + 1) (L.length - (rk L key))) (rk L key) (nI x))))] H := hP
          have hD : va_D A_ [(p, .inr (2, [.ref k, .ref v, .int (nI (L.length + 1)), .int (nI (w + 1))])), (k, .inl (X.2.1, 512, .inl (upd (va_cpy kf kf (rk L key) ((rk L key) + 1) (L.length - (rk L key))) (rk L key) (nI key)))), (v, .inl (X.2.1, 512, .inl (upd (va_cpy vf vf (rk L key) ((rk L key) + 1) (L.length - (rk L key))) (rk L key) (nI x))))] := hD
          rw [← (hnew (fun z => by omega) (by omega)).2] at hP
          refine wM hQ ?_
          exact rtV (upd (va_cpy kf kf (rk L key) ((rk L key) + 1) (L.length - (rk L key))) (rk L key) (nI key), upd (va_cpy vf vf (rk L key) ((rk L key) + 1) (L.length - (rk L key))) (rk L key) (nI x)) hx hb hr hlocks hP hS ((hnew (fun z => by omega) (by omega)).1) dX2_put_99
        · exact absurd c_19 (by decide)
set_option maxHeartbeats 4000000 in
set_option maxRecDepth 100000 in
theorem c_X2_takeOut (l : Launch) (X : kX) (p k v w key : Nat) (kf vf : Nat → Int32) (L : PL) (h : ptOk kf vf L) (hk : key < 2 ^ 30) : CWv l X yX2_takeOut wsX2_takeOut 1 [.ref p, .int (nI key)] [(p, .inr (2, [.ref k, .ref v, .int (nI L.length), .int (nI w)])), (k, .inl (X.2.1, 512, .inl kf)), (v, .inl (X.2.1, 512, .inl vf))] (S := (Nat → Int32) × (Nat → Int32)) (fun u => ptOk u.1 u.2 (pdel L key)) (fun ⟨kf2, vf2⟩ => [(p, .inr (2, [.ref k, .ref v, .int (nI ((pdel L key).length)), .int (nI (tv L key w))])), (k, .inl (X.2.1, 512, .inl kf2)), (v, .inl (X.2.1, 512, .inl vf2))]) := by
  refine Met.ofW (cc := cX2_takeOut) (maxL := 3) (ret := none) (by decide) rfl ?_
  intro pz ez sz mz args below meth cz s₁ Bz hml hv
  obtain ⟨rfl, hP, hK, hD0, hN⟩ := hv
  have hx := Bz.exec
  have hb := Bz.bytes
  have hr := Bz.returns
  have hts := atoms_spec (ws := wsX2_takeOut) Bz.pre
  have hown : sz.vm.findClass RX2 = some mz.cls := findClass_of_methodNamed Bz.named
  have hlocks := Bz.notSynchronized
  have hD := inW.self hD0
  have hS : va_S (inW [(p, .inr (2, [.ref k, .ref v, .int (nI L.length), .int (nI w)])), (k, .inl (X.2.1, 512, .inl kf)), (v, .inl (X.2.1, 512, .inl vf))]) sz.heap sz.heap [] := va_S.rf
  have hl := lv_entry ([.ref p, .int (nI key)]) (n := 3) (Nat.le_of_ble_eq_true rfl)
  rw [lg_entry_eq]
  generalize (lg_sl ([.ref p, .int (nI key)]) ++ List.replicate (3 - (lg_sl ([.ref p, .int (nI key)])).length) Slot.unset).toArray = ls at hl ⊢
  have hl : lv_has ls 3 [(0, .ref p), (1, .int (nI key))] := hl
  have lk9 := hts (.fieldLink RX2 9 "PointStore$Points" "keys" "[I") (by decide +kernel)
  have lk15 := hts (.fieldLink RX2 15 "PointStore$Points" "values" "[I") (by decide +kernel)
  have lk18 := hts (.fieldLink RX2 18 "PointStore$Points" "total" "I") (by decide +kernel)
  have lk22 := hts (.fieldLink RX2 22 "PointStore$Points" "version" "I") (by decide +kernel)
  have hin2 : ∀ w ∈ u_ws RX2 TX2 4, w ∈ wsX2_takeOut := by decide +kernel
  refine wQ (fun Q hQ => ?_)
  generalize hAe : inW [(p, .inr (2, [.ref k, .ref v, .int (nI L.length), .int (nI w)])), (k, .inl (X.2.1, 512, .inl kf)), (v, .inl (X.2.1, 512, .inl vf))] = A_ at hD hS hQ
  have hL := h.1
  have hrl := rk_le L key
  have hlk := lkp_rk L key h.2.2.1
  have hdel := fun hn hkk => pt_del h (key := key) hn hkk
  refine lv_aload_n hx hb dX2_takeOut_0 rfl (lv_at hl 0 rfl) ?_
  refine lv_iload_n hx hb dX2_takeOut_1 rfl (lv_at hl 1 rfl) ?_
  refine ckVRi (As := [.int (nI key)]) (rest := []) 0 [0, 1] (c_X2_placeOf l X p k v w key kf vf L h (by omega)) ⟨hx, hb, hml, hown, hts⟩ (cwV 1 hts gX2_takeOut_X2_placeOf rfl rfl rfl (by decide +kernel) ⟨Nat.le_of_ble_eq_true rfl, Nat.le_of_ble_eq_true rfl⟩) hK hN hP hD (by decide) rfl (ci := 2) rfl rfl rfl hl.1 rfl (Nat.le_of_ble_eq_true rfl) dX2_takeOut_2 ⟨Nat.zero_le _, Nat.zero_le _⟩ (fun r_1 hc_2 => ?_)
  subst hc_2
  refine lv_istore_n (lv' := [(2, .int (nI (rk L key))), (0, .ref p), (1, .int (nI key))]) hx hb dX2_takeOut_5 rfl hl (by decide) rfl (fun ls hl => ?_)
  refine lv_aload_n hx hb dX2_takeOut_6 rfl (lv_at hl 1 rfl) ?_
  refine lv_iload_n hx hb dX2_takeOut_7 rfl (lv_at hl 0 rfl) ?_
  refine ckVRi (As := [.int (nI (rk L key))]) (rest := []) 0 [0, 1] (c_X2_keyAt l X p k v L.length w (rk L key) kf hL (by omega)) ⟨hx, hb, hml, hown, hts⟩ (cwV 1 hts gX2_takeOut_X2_keyAt rfl rfl rfl (by decide +kernel) ⟨Nat.le_of_ble_eq_true rfl, Nat.le_of_ble_eq_true rfl⟩) hK hN hP hD (by decide) rfl (ci := 2) rfl rfl rfl hl.1 rfl (Nat.le_of_ble_eq_true rfl) dX2_takeOut_8 ⟨Nat.zero_le _, Nat.zero_le _⟩ (fun r_2 hc_8 => ?_)
  by_cases hlt : rk L key < L.length
  · skip
    rw [if_pos hlt, h.k hlt] at hc_8
    subst hc_8
    have hkb := h.kb hlt
    refine lv_iload_n hx hb dX2_takeOut_11 rfl (lv_at hl 2 rfl) ?_
    refine lv_icmp_eq (tgt := 16) hx hb dX2_takeOut_12 (by decide) (fun c_12 => ?_) (fun c_12 => ?_)
    · replace c_12 : (pK L (rk L key)) = key := (nI_eq (by omega) (by omega)).mp c_12
      refine lv_aload_n hx hb dX2_takeOut_16 rfl (lv_at hl 1 rfl) ?_
      refine va_get (D := X.1) (ci := 2) (v := .ref k) (C := RX2) (T := TX2) (N := 4) hx hb hts hin2 hown hK hP 0 rfl rfl 0 (by decide) lk9 (fun _ h9 => h9) rfl dX2_takeOut_17 ?_
      refine lv_iload_n hx hb dX2_takeOut_20 rfl (lv_at hl 0 rfl) ?_
      refine lv_iconst (v := nI 1) hx hb dX2_takeOut_21 (by decide) ?_
      refine lv_iadd hx hb dX2_takeOut_22 ?_
      refine lv_topi (fun x_3 ex_3 => ?_)
      obtain rfl : x_3 = nI ((rk L key) + 1) := by
        rw [ex_3]
        exact nI_add _ _
      refine lv_aload_n hx hb dX2_takeOut_23 rfl (lv_at hl 1 rfl) ?_
      refine va_get (D := X.1) (ci := 2) (v := .ref k) (C := RX2) (T := TX2) (N := 4) hx hb hts hin2 hown hK hP 0 rfl rfl 0 (by decide) lk9 (fun _ h9 => h9) rfl dX2_takeOut_24 ?_
      refine lv_iload_n hx hb dX2_takeOut_27 rfl (lv_at hl 0 rfl) ?_
      refine lv_aload_n hx hb dX2_takeOut_28 rfl (lv_at hl 1 rfl) ?_
      refine va_get (D := X.1) (ci := 2) (v := .int (nI L.length)) (C := RX2) (T := TX2) (N := 4) hx hb hts hin2 hown hK hP 0 rfl rfl 2 (by decide) lk18 (fun _ h9 => h9) rfl dX2_takeOut_29 ?_
      refine lv_iload_n hx hb dX2_takeOut_32 rfl (lv_at hl 0 rfl) ?_
      refine lv_isub hx hb dX2_takeOut_33 ?_
      refine lv_topi (fun x_4 ex_4 => ?_)
      obtain rfl : x_4 = nI (L.length - (rk L key)) := by
        rw [ex_4]
        exact pk_sub (by omega)
      refine lv_iconst (v := nI 1) hx hb dX2_takeOut_34 (by decide) ?_
      refine lv_isub hx hb dX2_takeOut_35 ?_
      refine lv_topi (fun x_5 ex_5 => ?_)
      obtain rfl : x_5 = nI ((L.length - (rk L key)) - 1) := by
        rw [ex_5]
        exact pk_sub (by omega)
      refine va_copyi hx hb (hml.trans hl.1.symm) hown (hts (.methodLink RX2 37 arraycopyName) (by decide +kernel)) (hts (.native arraycopyName) (by decide +kernel)) (hts (.static arraycopyName) (by decide +kernel)) (hts (.initialized "java/lang/System") (by decide +kernel)) hK hP hD hS 1 1 0 0 rfl rfl rfl rfl rfl (nI_pos (by omega)) (nI_pos (by omega)) (nI_pos (by omega)) (by rw [nI_clamp (by omega), nI_clamp (by omega)]; omega) (by rw [nI_clamp (by omega), nI_clamp (by omega)]; omega) (fun _ _ => rfl) (Nat.le_of_ble_eq_true rfl) (by decide) dX2_takeOut_36 (fun H locs hP hD hS => ?_)
      rw [nI_clamp (n := (rk L key) + 1) (by omega), nI_clamp (n := rk L key) (by omega), nI_clamp (n := (L.length - (rk L key)) - 1) (by omega)] at hP hD
      have hP : va_P X.1 vwCl [(p, .inr (2, [.ref k, .ref v, .int (nI L.length), .int (nI w)])), (k, .inl (X.2.1, 512, .inl (va_cpy kf kf ((rk L key) + 1) (rk L key) ((L.length - (rk L key)) - 1)))), (v, .inl (X.2.1, 512, .inl vf))] H := hP
      have hD : va_D A_ [(p, .inr (2, [.ref k, .ref v, .int (nI L.length), .int (nI w)])), (k, .inl (X.2.1, 512, .inl (va_cpy kf kf ((rk L key) + 1) (rk L key) ((L.length - (rk L key)) - 1)))), (v, .inl (X.2.1, 512, .inl vf))] := hD
      refine lv_aload_n hx hb dX2_takeOut_39 rfl (lv_at hl 1 rfl) ?_
      refine va_get (D := X.1) (ci := 2) (v := .ref v) (C := RX2) (T := TX2) (N := 4) hx hb hts hin2 hown hK hP 0 rfl rfl 1 (by decide) lk15 (fun _ h9 => h9) rfl dX2_takeOut_40 ?_
      refine lv_iload_n hx hb dX2_takeOut_43 rfl (lv_at hl 0 rfl) ?_
      refine lv_iconst (v := nI 1) hx hb dX2_takeOut_44 (by decide) ?_
      refine lv_iadd hx hb dX2_takeOut_45 ?_
      refine lv_topi (fun x_6 ex_6 => ?_)
      obtain rfl : x_6 = nI ((rk L key) + 1) := by
        rw [ex_6]
        exact nI_add _ _
      refine lv_aload_n hx hb dX2_takeOut_46 rfl (lv_at hl 1 rfl) ?_
      refine va_get (D := X.1) (ci := 2) (v := .ref v) (C := RX2) (T := TX2) (N := 4) hx hb hts hin2 hown hK hP 0 rfl rfl 1 (by decide) lk15 (fun _ h9 => h9) rfl dX2_takeOut_47 ?_
      refine lv_iload_n hx hb dX2_takeOut_50 rfl (lv_at hl 0 rfl) ?_
      refine lv_aload_n hx hb dX2_takeOut_51 rfl (lv_at hl 1 rfl) ?_
      refine va_get (D := X.1) (ci := 2) (v := .int (nI L.length)) (C := RX2) (T := TX2) (N := 4) hx hb hts hin2 hown hK hP 0 rfl rfl 2 (by decide) lk18 (fun _ h9 => h9) rfl dX2_takeOut_52 ?_
      refine lv_iload_n hx hb dX2_takeOut_55 rfl (lv_at hl 0 rfl) ?_
      refine lv_isub hx hb dX2_takeOut_56 ?_
      refine lv_topi (fun x_7 ex_7 => ?_)
      obtain rfl : x_7 = nI (L.length - (rk L key)) := by
        rw [ex_7]
        exact pk_sub (by omega)
      refine lv_iconst (v := nI 1) hx hb dX2_takeOut_57 (by decide) ?_
      refine lv_isub hx hb dX2_takeOut_58 ?_
      refine lv_topi (fun x_8 ex_8 => ?_)
      obtain rfl : x_8 = nI ((L.length - (rk L key)) - 1) := by
        rw [ex_8]
        exact pk_sub (by omega)
      refine va_copyi hx hb (hml.trans hl.1.symm) hown (hts (.methodLink RX2 37 arraycopyName) (by decide +kernel)) (hts (.native arraycopyName) (by decide +kernel)) (hts (.static arraycopyName) (by decide +kernel)) (hts (.initialized "java/lang/System") (by decide +kernel)) hK hP hD hS 2 2 0 0 rfl rfl rfl rfl rfl (nI_pos (by omega)) (nI_pos (by omega)) (nI_pos (by omega)) (by rw [nI_clamp (by omega), nI_clamp (by omega)]; omega) (by rw [nI_clamp (by omega), nI_clamp (by omega)]; omega) (fun _ _ => rfl) (Nat.le_of_ble_eq_true rfl) (by decide) dX2_takeOut_59 (fun H locs hP hD hS => ?_)
      rw [nI_clamp (n := (rk L key) + 1) (by omega), nI_clamp (n := rk L key) (by omega), nI_clamp (n := (L.length - (rk L key)) - 1) (by omega)] at hP hD
      have hP : va_P X.1 vwCl [(p, .inr (2, [.ref k, .ref v, .int (nI L.length), .int (nI w)])), (k, .inl (X.2.1, 512, .inl (va_cpy kf kf ((rk L key) + 1) (rk L key) ((L.length - (rk L key)) - 1)))), (v, .inl (X.2.1, 512, .inl (va_cpy vf vf ((rk L key) + 1) (rk L key) ((L.length - (rk L key)) - 1))))] H := hP
      have hD : va_D A_ [(p, .inr (2, [.ref k, .ref v, .int (nI L.length), .int (nI w)])), (k, .inl (X.2.1, 512, .inl (va_cpy kf kf ((rk L key) + 1) (rk L key) ((L.length - (rk L key)) - 1)))), (v, .inl (X.2.1, 512, .inl (va_cpy vf vf ((rk L key) + 1) (rk L key) ((L.length - (rk L key)) - 1))))] := hD
      refine lv_aload_n hx hb dX2_takeOut_62 rfl (lv_at hl 1 rfl) ?_
      refine lv_dup hx hb dX2_takeOut_63 rfl ?_
      refine va_get (D := X.1) (ci := 2) (v := .int (nI L.length)) (C := RX2) (T := TX2) (N := 4) hx hb hts hin2 hown hK hP 0 rfl rfl 2 (by decide) lk18 (fun _ h9 => h9) rfl dX2_takeOut_64 ?_
      refine lv_iconst (v := nI 1) hx hb dX2_takeOut_67 (by decide) ?_
      refine lv_isub hx hb dX2_takeOut_68 ?_
      refine lv_topi (fun x_9 ex_9 => ?_)
      obtain rfl : x_9 = nI (L.length - 1) := by
        rw [ex_9]
        exact pk_sub (by omega)
      refine va_put (D := X.1) (ci := 2) (v := .int (nI (L.length - 1))) (ty := .int) (C := RX2) (T := TX2) (N := 4) hx hb hts hin2 tyX2 tyX2_ok nmX2 hown hK hP hD hS 0 rfl rfl 2 (by decide) lk18 (fun _ h9 => h9) rfl (by decide +kernel) rfl rfl (Nat.le_of_ble_eq_true rfl) dX2_takeOut_69 (fun H locs hP hD hS => ?_)
      have hP : va_P X.1 vwCl [(p, .inr (2, [.ref k, .ref v, .int (nI (L.length - 1)), .int (nI w)])), (k, .inl (X.2.1, 512, .inl (va_cpy kf kf ((rk L key) + 1) (rk L key) ((L.length - (rk L key)) - 1)))), (v, .inl (X.2.1, 512, .inl (va_cpy vf vf ((rk L key) + 1) (rk L key) ((L.length - (rk L key)) - 1))))] H := hP
      have hD : va_D A_ [(p, .inr (2, [.ref k, .ref v, .int (nI (L.length - 1)), .int (nI w)])), (k, .inl (X.2.1, 512, .inl (va_cpy kf kf ((rk L key) + 1) (rk L key) ((L.length - (rk L key)) - 1)))), (v, .inl (X.2.1, 512, .inl (va_cpy vf vf ((rk L key) + 1) (rk L key) ((L.length - (rk L key)) - 1))))] := hD
      refine lv_aload_n hx hb dX2_takeOut_72 rfl (lv_at hl 1 rfl) ?_
      refine lv_dup hx hb dX2_takeOut_73 rfl ?_
      refine va_get (D := X.1) (ci := 2) (v := .int (nI w)) (C := RX2) (T := TX2) (N := 4) hx hb hts hin2 hown hK hP 0 rfl rfl 3 (by decide) lk22 (fun _ h9 => h9) rfl dX2_takeOut_74 ?_
      refine lv_iconst (v := nI 1) hx hb dX2_takeOut_77 (by decide) ?_
      refine lv_iadd hx hb dX2_takeOut_78 ?_
      refine lv_topi (fun x_10 ex_10 => ?_)
      obtain rfl : x_10 = nI (w + 1) := by
        rw [ex_10]
        exact nI_add _ _
      refine va_put (D := X.1) (ci := 2) (v := .int (nI (w + 1))) (ty := .int) (C := RX2) (T := TX2) (N := 4) hx hb hts hin2 tyX2 tyX2_ok nmX2 hown hK hP hD hS 0 rfl rfl 3 (by decide) lk22 (fun _ h9 => h9) rfl (by decide +kernel) rfl rfl (Nat.le_of_ble_eq_true rfl) dX2_takeOut_79 (fun H locs hP hD hS => ?_)
      have hP : va_P X.1 vwCl [(p, .inr (2, [.ref k, .ref v, .int (nI (L.length - 1)), .int (nI (w + 1))])), (k, .inl (X.2.1, 512, .inl (va_cpy kf kf ((rk L key) + 1) (rk L key) ((L.length - (rk L key)) - 1)))), (v, .inl (X.2.1, 512, .inl (va_cpy vf vf ((rk L key) + 1) (rk L key) ((L.length - (rk L key)) - 1))))] H := hP
      have hD : va_D A_ [(p, .inr (2, [.ref k, .ref v, .int (nI (L.length - 1)), .int (nI (w + 1))])), (k, .inl (X.2.1, 512, .inl (va_cpy kf kf ((rk L key) + 1) (rk L key) ((L.length - (rk L key)) - 1)))), (v, .inl (X.2.1, 512, .inl (va_cpy vf vf ((rk L key) + 1) (rk L key) ((L.length - (rk L key)) - 1))))] := hD
      rw [← (hdel hlt c_12).2, show w + 1 = tv L key w from by unfold tv; rw [hlk, if_pos ⟨hlt, c_12⟩]] at hP
      refine wM hQ ?_
      exact rtV (va_cpy kf kf ((rk L key) + 1) (rk L key) ((L.length - (rk L key)) - 1), va_cpy vf vf ((rk L key) + 1) (rk L key) ((L.length - (rk L key)) - 1)) hx hb hr hlocks hP hS ((hdel hlt c_12).1) dX2_takeOut_82
    · replace c_12 : ¬ (pK L (rk L key)) = key := fun h9 => c_12 ((nI_eq (by omega) (by omega)).mpr h9)
      rw [show nI w = nI (tv L key w) from by unfold tv; rw [hlk, if_neg (fun z => by omega)], show L.length = (pdel L key).length from by rw [pdel_new L key h.2.2.1 (fun z => by omega)]] at hP
      refine wM hQ ?_
      exact rtV (kf, vf) hx hb hr hlocks hP hS ((by show ptOk kf vf _; rw [pdel_new L key h.2.2.1 (fun z => by omega)]; exact h)) dX2_takeOut_15
  · skip
    rw [if_neg hlt] at hc_8
    subst hc_8
    refine lv_iload_n hx hb dX2_takeOut_11 rfl (lv_at hl 2 rfl) ?_
    refine lv_icmp_eq (tgt := 16) hx hb dX2_takeOut_12 (by decide) (fun c_12 => ?_) (fun c_12 => ?_)
    · replace c_12 : 1073741824 = key := (nI_eq (by omega) (by omega)).mp c_12
      omega
    · replace c_12 : ¬ 1073741824 = key := fun h9 => c_12 ((nI_eq (by omega) (by omega)).mpr h9)
      rw [show nI w = nI (tv L key w) from by unfold tv; rw [hlk, if_neg (fun z => by omega)], show L.length = (pdel L key).length from by rw [pdel_new L key h.2.2.1 (fun z => by omega)]] at hP
      refine wM hQ ?_
      exact rtV (kf, vf) hx hb hr hlocks hP hS ((by show ptOk kf vf _; rw [pdel_new L key h.2.2.1 (fun z => by omega)]; exact h)) dX2_takeOut_15
set_option maxHeartbeats 4000000 in
set_option maxRecDepth 100000 in
theorem c_X2_clear (l : Launch) (X : kX) (p k v n w : Nat) : CWv l X yX2_clear wsX2_clear 0 [.ref p] [(p, .inr (2, [.ref k, .ref v, .int (nI n), .int (nI w)]))] (S := Unit) (fun _ => True) (fun _ => [(p, .inr (2, [.ref k, .ref v, .int (nI 0), .int (nI (w + 1))]))]) := by
  refine Met.ofW (cc := cX2_clear) (maxL := 1) (ret := none) (by decide) rfl ?_
  intro pz ez sz mz args below meth cz s₁ Bz hml hv
  obtain ⟨rfl, hP, hK, hD0, hN⟩ := hv
  have hx := Bz.exec
  have hb := Bz.bytes
  have hr := Bz.returns
  have hts := atoms_spec (ws := wsX2_clear) Bz.pre
  have hown : sz.vm.findClass RX2 = some mz.cls := findClass_of_methodNamed Bz.named
  have hlocks := Bz.notSynchronized
  have hD := inW.self hD0
  have hS : va_S (inW [(p, .inr (2, [.ref k, .ref v, .int (nI n), .int (nI w)]))]) sz.heap sz.heap [] := va_S.rf
  have hl := lv_entry ([.ref p]) (n := 1) (Nat.le_of_ble_eq_true rfl)
  rw [lg_entry_eq]
  generalize (lg_sl ([.ref p]) ++ List.replicate (1 - (lg_sl ([.ref p])).length) Slot.unset).toArray = ls at hl ⊢
  have hl : lv_has ls 1 [(0, .ref p)] := hl
  have lk18 := hts (.fieldLink RX2 18 "PointStore$Points" "total" "I") (by decide +kernel)
  have lk22 := hts (.fieldLink RX2 22 "PointStore$Points" "version" "I") (by decide +kernel)
  have hin2 : ∀ w ∈ u_ws RX2 TX2 4, w ∈ wsX2_clear := by decide +kernel
  refine wQ (fun Q hQ => ?_)
  generalize hAe : inW [(p, .inr (2, [.ref k, .ref v, .int (nI n), .int (nI w)]))] = A_ at hD hS hQ
  refine lv_aload_n hx hb dX2_clear_0 rfl (lv_at hl 0 rfl) ?_
  refine lv_iconst (v := nI 0) hx hb dX2_clear_1 (by decide) ?_
  refine va_put (D := X.1) (ci := 2) (v := .int (nI 0)) (ty := .int) (C := RX2) (T := TX2) (N := 4) hx hb hts hin2 tyX2 tyX2_ok nmX2 hown hK hP hD hS 0 rfl rfl 2 (by decide) lk18 (fun _ h9 => h9) rfl (by decide +kernel) rfl rfl (Nat.le_of_ble_eq_true rfl) dX2_clear_2 (fun H locs hP hD hS => ?_)
  have hP : va_P X.1 vwCl [(p, .inr (2, [.ref k, .ref v, .int (nI 0), .int (nI w)]))] H := hP
  have hD : va_D A_ [(p, .inr (2, [.ref k, .ref v, .int (nI 0), .int (nI w)]))] := hD
  refine lv_aload_n hx hb dX2_clear_5 rfl (lv_at hl 0 rfl) ?_
  refine lv_dup hx hb dX2_clear_6 rfl ?_
  refine va_get (D := X.1) (ci := 2) (v := .int (nI w)) (C := RX2) (T := TX2) (N := 4) hx hb hts hin2 hown hK hP 0 rfl rfl 3 (by decide) lk22 (fun _ h9 => h9) rfl dX2_clear_7 ?_
  refine lv_iconst (v := nI 1) hx hb dX2_clear_10 (by decide) ?_
  refine lv_iadd hx hb dX2_clear_11 ?_
  refine lv_topi (fun x_1 ex_1 => ?_)
  obtain rfl : x_1 = nI (w + 1) := by
    rw [ex_1]
    exact nI_add _ _
  refine va_put (D := X.1) (ci := 2) (v := .int (nI (w + 1))) (ty := .int) (C := RX2) (T := TX2) (N := 4) hx hb hts hin2 tyX2 tyX2_ok nmX2 hown hK hP hD hS 0 rfl rfl 3 (by decide) lk22 (fun _ h9 => h9) rfl (by decide +kernel) rfl rfl (Nat.le_of_ble_eq_true rfl) dX2_clear_12 (fun H locs hP hD hS => ?_)
  have hP : va_P X.1 vwCl [(p, .inr (2, [.ref k, .ref v, .int (nI 0), .int (nI (w + 1))]))] H := hP
  have hD : va_D A_ [(p, .inr (2, [.ref k, .ref v, .int (nI 0), .int (nI (w + 1))]))] := hD
  refine wM hQ ?_
  exact rtV () hx hb hr hlocks hP hS (trivial) dX2_clear_15
set_option maxHeartbeats 4000000 in
set_option maxRecDepth 100000 in
theorem c_X2_copyFrom (l : Launch) (X : kX) (p k v n w q k2 v2 w2 : Nat) (kf vf kg vg : Nat → Int32) (L : PL) (h : ptOk kg vg L) : CWv l X yX2_copyFrom wsX2_copyFrom 0 [.ref p, .ref q] [(p, .inr (2, [.ref k, .ref v, .int (nI n), .int (nI w)])), (k, .inl (X.2.1, 512, .inl kf)), (v, .inl (X.2.1, 512, .inl vf)), (q, .inr (2, [.ref k2, .ref v2, .int (nI L.length), .int (nI w2)])), (k2, .inl (X.2.1, 512, .inl kg)), (v2, .inl (X.2.1, 512, .inl vg))] (S := (Nat → Int32) × (Nat → Int32)) (fun u => ptOk u.1 u.2 L) (fun ⟨kf2, vf2⟩ => [(p, .inr (2, [.ref k, .ref v, .int (nI L.length), .int (nI (w + 1))])), (k, .inl (X.2.1, 512, .inl kf2)), (v, .inl (X.2.1, 512, .inl vf2)), (q, .inr (2, [.ref k2, .ref v2, .int (nI L.length), .int (nI w2)])), (k2, .inl (X.2.1, 512, .inl kg)), (v2, .inl (X.2.1, 512, .inl vg))]) := by
  refine Met.ofW (cc := cX2_copyFrom) (maxL := 2) (ret := none) (by decide) rfl ?_
  intro pz ez sz mz args below meth cz s₁ Bz hml hv
  obtain ⟨rfl, hP, hK, hD0, hN⟩ := hv
  have hx := Bz.exec
  have hb := Bz.bytes
  have hr := Bz.returns
  have hts := atoms_spec (ws := wsX2_copyFrom) Bz.pre
  have hown : sz.vm.findClass RX2 = some mz.cls := findClass_of_methodNamed Bz.named
  have hlocks := Bz.notSynchronized
  have hD := inW.self hD0
  have hS : va_S (inW [(p, .inr (2, [.ref k, .ref v, .int (nI n), .int (nI w)])), (k, .inl (X.2.1, 512, .inl kf)), (v, .inl (X.2.1, 512, .inl vf)), (q, .inr (2, [.ref k2, .ref v2, .int (nI L.length), .int (nI w2)])), (k2, .inl (X.2.1, 512, .inl kg)), (v2, .inl (X.2.1, 512, .inl vg))]) sz.heap sz.heap [] := va_S.rf
  have hl := lv_entry ([.ref p, .ref q]) (n := 2) (Nat.le_of_ble_eq_true rfl)
  rw [lg_entry_eq]
  generalize (lg_sl ([.ref p, .ref q]) ++ List.replicate (2 - (lg_sl ([.ref p, .ref q])).length) Slot.unset).toArray = ls at hl ⊢
  have hl : lv_has ls 2 [(0, .ref p), (1, .ref q)] := hl
  have lk9 := hts (.fieldLink RX2 9 "PointStore$Points" "keys" "[I") (by decide +kernel)
  have lk15 := hts (.fieldLink RX2 15 "PointStore$Points" "values" "[I") (by decide +kernel)
  have lk18 := hts (.fieldLink RX2 18 "PointStore$Points" "total" "I") (by decide +kernel)
  have lk22 := hts (.fieldLink RX2 22 "PointStore$Points" "version" "I") (by decide +kernel)
  have hin2 : ∀ w ∈ u_ws RX2 TX2 4, w ∈ wsX2_copyFrom := by decide +kernel
  refine wQ (fun Q hQ => ?_)
  generalize hAe : inW [(p, .inr (2, [.ref k, .ref v, .int (nI n), .int (nI w)])), (k, .inl (X.2.1, 512, .inl kf)), (v, .inl (X.2.1, 512, .inl vf)), (q, .inr (2, [.ref k2, .ref v2, .int (nI L.length), .int (nI w2)])), (k2, .inl (X.2.1, 512, .inl kg)), (v2, .inl (X.2.1, 512, .inl vg))] = A_ at hD hS hQ
  have hL := h.1
  refine lv_aload_n hx hb dX2_copyFrom_0 rfl (lv_at hl 1 rfl) ?_
  refine va_get (D := X.1) (ci := 2) (v := .ref k2) (C := RX2) (T := TX2) (N := 4) hx hb hts hin2 hown hK hP 3 rfl rfl 0 (by decide) lk9 (fun _ h9 => h9) rfl dX2_copyFrom_1 ?_
  refine lv_iconst (v := nI 0) hx hb dX2_copyFrom_4 (by decide) ?_
  refine lv_aload_n hx hb dX2_copyFrom_5 rfl (lv_at hl 0 rfl) ?_
  refine va_get (D := X.1) (ci := 2) (v := .ref k) (C := RX2) (T := TX2) (N := 4) hx hb hts hin2 hown hK hP 0 rfl rfl 0 (by decide) lk9 (fun _ h9 => h9) rfl dX2_copyFrom_6 ?_
  refine lv_iconst (v := nI 0) hx hb dX2_copyFrom_9 (by decide) ?_
  refine lv_aload_n hx hb dX2_copyFrom_10 rfl (lv_at hl 1 rfl) ?_
  refine va_get (D := X.1) (ci := 2) (v := .int (nI L.length)) (C := RX2) (T := TX2) (N := 4) hx hb hts hin2 hown hK hP 3 rfl rfl 2 (by decide) lk18 (fun _ h9 => h9) rfl dX2_copyFrom_11 ?_
  refine va_copyi hx hb (hml.trans hl.1.symm) hown (hts (.methodLink RX2 37 arraycopyName) (by decide +kernel)) (hts (.native arraycopyName) (by decide +kernel)) (hts (.static arraycopyName) (by decide +kernel)) (hts (.initialized "java/lang/System") (by decide +kernel)) hK hP hD hS 4 1 0 0 rfl rfl rfl rfl rfl (nI_pos (by omega)) (nI_pos (by omega)) (nI_pos (by omega)) (by rw [nI_clamp (by omega), nI_clamp (by omega)]; omega) (by rw [nI_clamp (by omega), nI_clamp (by omega)]; omega) (fun _ _ => rfl) (Nat.le_of_ble_eq_true rfl) (by decide) dX2_copyFrom_14 (fun H locs hP hD hS => ?_)
  rw [nI_clamp (n := 0) (by omega), nI_clamp (n := L.length) (by omega)] at hP hD
  have hP : va_P X.1 vwCl [(p, .inr (2, [.ref k, .ref v, .int (nI n), .int (nI w)])), (k, .inl (X.2.1, 512, .inl (va_cpy kg kf 0 0 L.length))), (v, .inl (X.2.1, 512, .inl vf)), (q, .inr (2, [.ref k2, .ref v2, .int (nI L.length), .int (nI w2)])), (k2, .inl (X.2.1, 512, .inl kg)), (v2, .inl (X.2.1, 512, .inl vg))] H := hP
  have hD : va_D A_ [(p, .inr (2, [.ref k, .ref v, .int (nI n), .int (nI w)])), (k, .inl (X.2.1, 512, .inl (va_cpy kg kf 0 0 L.length))), (v, .inl (X.2.1, 512, .inl vf)), (q, .inr (2, [.ref k2, .ref v2, .int (nI L.length), .int (nI w2)])), (k2, .inl (X.2.1, 512, .inl kg)), (v2, .inl (X.2.1, 512, .inl vg))] := hD
  refine lv_aload_n hx hb dX2_copyFrom_17 rfl (lv_at hl 1 rfl) ?_
  refine va_get (D := X.1) (ci := 2) (v := .ref v2) (C := RX2) (T := TX2) (N := 4) hx hb hts hin2 hown hK hP 3 rfl rfl 1 (by decide) lk15 (fun _ h9 => h9) rfl dX2_copyFrom_18 ?_
  refine lv_iconst (v := nI 0) hx hb dX2_copyFrom_21 (by decide) ?_
  refine lv_aload_n hx hb dX2_copyFrom_22 rfl (lv_at hl 0 rfl) ?_
  refine va_get (D := X.1) (ci := 2) (v := .ref v) (C := RX2) (T := TX2) (N := 4) hx hb hts hin2 hown hK hP 0 rfl rfl 1 (by decide) lk15 (fun _ h9 => h9) rfl dX2_copyFrom_23 ?_
  refine lv_iconst (v := nI 0) hx hb dX2_copyFrom_26 (by decide) ?_
  refine lv_aload_n hx hb dX2_copyFrom_27 rfl (lv_at hl 1 rfl) ?_
  refine va_get (D := X.1) (ci := 2) (v := .int (nI L.length)) (C := RX2) (T := TX2) (N := 4) hx hb hts hin2 hown hK hP 3 rfl rfl 2 (by decide) lk18 (fun _ h9 => h9) rfl dX2_copyFrom_28 ?_
  refine va_copyi hx hb (hml.trans hl.1.symm) hown (hts (.methodLink RX2 37 arraycopyName) (by decide +kernel)) (hts (.native arraycopyName) (by decide +kernel)) (hts (.static arraycopyName) (by decide +kernel)) (hts (.initialized "java/lang/System") (by decide +kernel)) hK hP hD hS 5 2 0 0 rfl rfl rfl rfl rfl (nI_pos (by omega)) (nI_pos (by omega)) (nI_pos (by omega)) (by rw [nI_clamp (by omega), nI_clamp (by omega)]; omega) (by rw [nI_clamp (by omega), nI_clamp (by omega)]; omega) (fun _ _ => rfl) (Nat.le_of_ble_eq_true rfl) (by decide) dX2_copyFrom_31 (fun H locs hP hD hS => ?_)
  rw [nI_clamp (n := 0) (by omega), nI_clamp (n := L.length) (by omega)] at hP hD
  have hP : va_P X.1 vwCl [(p, .inr (2, [.ref k, .ref v, .int (nI n), .int (nI w)])), (k, .inl (X.2.1, 512, .inl (va_cpy kg kf 0 0 L.length))), (v, .inl (X.2.1, 512, .inl (va_cpy vg vf 0 0 L.length))), (q, .inr (2, [.ref k2, .ref v2, .int (nI L.length), .int (nI w2)])), (k2, .inl (X.2.1, 512, .inl kg)), (v2, .inl (X.2.1, 512, .inl vg))] H := hP
  have hD : va_D A_ [(p, .inr (2, [.ref k, .ref v, .int (nI n), .int (nI w)])), (k, .inl (X.2.1, 512, .inl (va_cpy kg kf 0 0 L.length))), (v, .inl (X.2.1, 512, .inl (va_cpy vg vf 0 0 L.length))), (q, .inr (2, [.ref k2, .ref v2, .int (nI L.length), .int (nI w2)])), (k2, .inl (X.2.1, 512, .inl kg)), (v2, .inl (X.2.1, 512, .inl vg))] := hD
  refine lv_aload_n hx hb dX2_copyFrom_34 rfl (lv_at hl 0 rfl) ?_
  refine lv_aload_n hx hb dX2_copyFrom_35 rfl (lv_at hl 1 rfl) ?_
  refine va_get (D := X.1) (ci := 2) (v := .int (nI L.length)) (C := RX2) (T := TX2) (N := 4) hx hb hts hin2 hown hK hP 3 rfl rfl 2 (by decide) lk18 (fun _ h9 => h9) rfl dX2_copyFrom_36 ?_
  refine va_put (D := X.1) (ci := 2) (v := .int (nI L.length)) (ty := .int) (C := RX2) (T := TX2) (N := 4) hx hb hts hin2 tyX2 tyX2_ok nmX2 hown hK hP hD hS 0 rfl rfl 2 (by decide) lk18 (fun _ h9 => h9) rfl (by decide +kernel) rfl rfl (Nat.le_of_ble_eq_true rfl) dX2_copyFrom_39 (fun H locs hP hD hS => ?_)
  have hP : va_P X.1 vwCl [(p, .inr (2, [.ref k, .ref v, .int (nI L.length), .int (nI w)])), (k, .inl (X.2.1, 512, .inl (va_cpy kg kf 0 0 L.length))), (v, .inl (X.2.1, 512, .inl (va_cpy vg vf 0 0 L.length))), (q, .inr (2, [.ref k2, .ref v2, .int (nI L.length), .int (nI w2)])), (k2, .inl (X.2.1, 512, .inl kg)), (v2, .inl (X.2.1, 512, .inl vg))] H := hP
  have hD : va_D A_ [(p, .inr (2, [.ref k, .ref v, .int (nI L.length), .int (nI w)])), (k, .inl (X.2.1, 512, .inl (va_cpy kg kf 0 0 L.length))), (v, .inl (X.2.1, 512, .inl (va_cpy vg vf 0 0 L.length))), (q, .inr (2, [.ref k2, .ref v2, .int (nI L.length), .int (nI w2)])), (k2, .inl (X.2.1, 512, .inl kg)), (v2, .inl (X.2.1, 512, .inl vg))] := hD
  refine lv_aload_n hx hb dX2_copyFrom_42 rfl (lv_at hl 0 rfl) ?_
  refine lv_dup hx hb dX2_copyFrom_43 rfl ?_
  refine va_get (D := X.1) (ci := 2) (v := .int (nI w)) (C := RX2) (T := TX2) (N := 4) hx hb hts hin2 hown hK hP 0 rfl rfl 3 (by decide) lk22 (fun _ h9 => h9) rfl dX2_copyFrom_44 ?_
  refine lv_iconst (v := nI 1) hx hb dX2_copyFrom_47 (by decide) ?_
  refine lv_iadd hx hb dX2_copyFrom_48 ?_
  refine lv_topi (fun x_1 ex_1 => ?_)
  obtain rfl : x_1 = nI (w + 1) := by
    rw [ex_1]
    exact nI_add _ _
  refine va_put (D := X.1) (ci := 2) (v := .int (nI (w + 1))) (ty := .int) (C := RX2) (T := TX2) (N := 4) hx hb hts hin2 tyX2 tyX2_ok nmX2 hown hK hP hD hS 0 rfl rfl 3 (by decide) lk22 (fun _ h9 => h9) rfl (by decide +kernel) rfl rfl (Nat.le_of_ble_eq_true rfl) dX2_copyFrom_49 (fun H locs hP hD hS => ?_)
  have hP : va_P X.1 vwCl [(p, .inr (2, [.ref k, .ref v, .int (nI L.length), .int (nI (w + 1))])), (k, .inl (X.2.1, 512, .inl (va_cpy kg kf 0 0 L.length))), (v, .inl (X.2.1, 512, .inl (va_cpy vg vf 0 0 L.length))), (q, .inr (2, [.ref k2, .ref v2, .int (nI L.length), .int (nI w2)])), (k2, .inl (X.2.1, 512, .inl kg)), (v2, .inl (X.2.1, 512, .inl vg))] H := hP
  have hD : va_D A_ [(p, .inr (2, [.ref k, .ref v, .int (nI L.length), .int (nI (w + 1))])), (k, .inl (X.2.1, 512, .inl (va_cpy kg kf 0 0 L.length))), (v, .inl (X.2.1, 512, .inl (va_cpy vg vf 0 0 L.length))), (q, .inr (2, [.ref k2, .ref v2, .int (nI L.length), .int (nI w2)])), (k2, .inl (X.2.1, 512, .inl kg)), (v2, .inl (X.2.1, 512, .inl vg))] := hD
  refine wM hQ ?_
  exact rtV (va_cpy kg kf 0 0 L.length, va_cpy vg vf 0 0 L.length) hx hb hr hlocks hP hS (pt_copy h) dX2_copyFrom_52
end
section
/-! statics, Changes, Disk: contracts, laid by program (wip/gen/spec_cls.py) -/
set_option maxHeartbeats 4000000 in
set_option maxRecDepth 100000 in
theorem c_X5_xOf (l : Launch) (X : kX) (key : Nat) (hk : key < 2 ^ 30) : CRi l X yX5_xOf wsX5_xOf 0 [.int (nI key)] [] (fun r => r = nI (key / 32768)) := by
  refine Met.ofW (cc := cX5_xOf) (maxL := 1) (ret := some (.int)) (by decide) rfl ?_
  intro pz ez sz mz args below meth cz s₁ Bz hml hv
  obtain ⟨rfl, hP, hK, hD0, hN⟩ := hv
  have hx := Bz.exec
  have hb := Bz.bytes
  have hr := Bz.returns
  have hts := atoms_spec (ws := wsX5_xOf) Bz.pre
  have hown : sz.vm.findClass RX5 = some mz.cls := findClass_of_methodNamed Bz.named
  have hlocks := Bz.notSynchronized
  have hD := inW.self hD0
  have hS : va_S (inW []) sz.heap sz.heap [] := va_S.rf
  have hl := lv_entry ([.int (nI key)]) (n := 1) (Nat.le_of_ble_eq_true rfl)
  rw [lg_entry_eq]
  generalize (lg_sl ([.int (nI key)]) ++ List.replicate (1 - (lg_sl ([.int (nI key)])).length) Slot.unset).toArray = ls at hl ⊢
  have hl : lv_has ls 1 [(0, .int (nI key))] := hl
  refine wQ (fun Q hQ => ?_)
  generalize hAe : inW [] = A_ at hD hS
  refine lv_iload_n hx hb dX5_xOf_0 rfl (lv_at hl 0 rfl) ?_
  refine lv_bipush (v := nI 15) hx hb dX5_xOf_1 (by decide) ?_
  refine lv_ishr hx hb dX5_xOf_3 ?_
  refine lv_topi (fun x_1 ex_1 => ?_)
  obtain rfl : x_1 = nI (key / 32768) := by
    rw [ex_1]
    exact pk_shrN (by omega) _ 15 (by decide)
  refine wM hQ ?_
  exact rtRI hx hb hr hlocks (rfl) dX5_xOf_4
set_option maxHeartbeats 4000000 in
set_option maxRecDepth 100000 in
theorem c_X5_yOf (l : Launch) (X : kX) (key : Nat) (hk : key < 2 ^ 30) : CRi l X yX5_yOf wsX5_yOf 0 [.int (nI key)] [] (fun r => r = nI (key % 32768)) := by
  refine Met.ofW (cc := cX5_yOf) (maxL := 1) (ret := some (.int)) (by decide) rfl ?_
  intro pz ez sz mz args below meth cz s₁ Bz hml hv
  obtain ⟨rfl, hP, hK, hD0, hN⟩ := hv
  have hx := Bz.exec
  have hb := Bz.bytes
  have hr := Bz.returns
  have hts := atoms_spec (ws := wsX5_yOf) Bz.pre
  have hown : sz.vm.findClass RX5 = some mz.cls := findClass_of_methodNamed Bz.named
  have hlocks := Bz.notSynchronized
  have hD := inW.self hD0
  have hS : va_S (inW []) sz.heap sz.heap [] := va_S.rf
  have hl := lv_entry ([.int (nI key)]) (n := 1) (Nat.le_of_ble_eq_true rfl)
  rw [lg_entry_eq]
  generalize (lg_sl ([.int (nI key)]) ++ List.replicate (1 - (lg_sl ([.int (nI key)])).length) Slot.unset).toArray = ls at hl ⊢
  have hl : lv_has ls 1 [(0, .int (nI key))] := hl
  refine wQ (fun Q hQ => ?_)
  generalize hAe : inW [] = A_ at hD hS
  refine lv_iload_n hx hb dX5_yOf_0 rfl (lv_at hl 0 rfl) ?_
  refine lv_sipush (v := nI 32767) hx hb dX5_yOf_1 (by decide) ?_
  refine lv_iand hx hb dX5_yOf_4 ?_
  refine lv_topi (fun x_1 ex_1 => ?_)
  obtain rfl : x_1 = nI (key % 32768) := by
    rw [ex_1]
    exact pk_andN (by omega) 15 (by decide)
  refine wM hQ ?_
  exact rtRI hx hb hr hlocks (rfl) dX5_yOf_5
set_option maxHeartbeats 4000000 in
set_option maxRecDepth 100000 in
theorem c_X5_keyOf (l : Launch) (X : kX) (x y : Nat) (hx0 : x < 32768) (hy0 : y < 32768) : CRi l X yX5_keyOf wsX5_keyOf 0 [.int (nI x), .int (nI y)] [] (fun r => r = nI (x * 32768 + y)) := by
  refine Met.ofW (cc := cX5_keyOf) (maxL := 2) (ret := some (.int)) (by decide) rfl ?_
  intro pz ez sz mz args below meth cz s₁ Bz hml hv
  obtain ⟨rfl, hP, hK, hD0, hN⟩ := hv
  have hx := Bz.exec
  have hb := Bz.bytes
  have hr := Bz.returns
  have hts := atoms_spec (ws := wsX5_keyOf) Bz.pre
  have hown : sz.vm.findClass RX5 = some mz.cls := findClass_of_methodNamed Bz.named
  have hlocks := Bz.notSynchronized
  have hD := inW.self hD0
  have hS : va_S (inW []) sz.heap sz.heap [] := va_S.rf
  have hl := lv_entry ([.int (nI x), .int (nI y)]) (n := 2) (Nat.le_of_ble_eq_true rfl)
  rw [lg_entry_eq]
  generalize (lg_sl ([.int (nI x), .int (nI y)]) ++ List.replicate (2 - (lg_sl ([.int (nI x), .int (nI y)])).length) Slot.unset).toArray = ls at hl ⊢
  have hl : lv_has ls 2 [(0, .int (nI x)), (1, .int (nI y))] := hl
  refine wQ (fun Q hQ => ?_)
  generalize hAe : inW [] = A_ at hD hS
  refine lv_iload_n hx hb dX5_keyOf_0 rfl (lv_at hl 0 rfl) ?_
  refine lv_bipush (v := nI 15) hx hb dX5_keyOf_1 (by decide) ?_
  refine lv_ishl hx hb dX5_keyOf_3 ?_
  refine lv_iload_n hx hb dX5_keyOf_4 rfl (lv_at hl 1 rfl) ?_
  refine lv_ior hx hb dX5_keyOf_5 ?_
  refine lv_topi (fun x_1 ex_1 => ?_)
  obtain rfl : x_1 = nI (x * 32768 + y) := by
    rw [ex_1]
    exact bI_key hx0 hy0
  refine wM hQ ?_
  exact rtRI hx hb hr hlocks (rfl) dX5_keyOf_6
set_option maxHeartbeats 4000000 in
set_option maxRecDepth 100000 in
theorem c_X5_isWithin (l : Launch) (X : kX) (key : Nat) (x0 y0 x1 y1 : Int32) (hk : key < 2 ^ 30) : CRi l X yX5_isWithin wsX5_isWithin 1 [.int (nI key), .int x0, .int y0, .int x1, .int y1] [] (fun r => (win key x0 y0 x1 y1 ∧ r = nI 1) ∨ (¬ win key x0 y0 x1 y1 ∧ r = nI 0)) := by
  refine Met.ofW (cc := cX5_isWithin) (maxL := 7) (ret := some (.boolean)) (by decide) rfl ?_
  intro pz ez sz mz args below meth cz s₁ Bz hml hv
  obtain ⟨rfl, hP, hK, hD0, hN⟩ := hv
  have hx := Bz.exec
  have hb := Bz.bytes
  have hr := Bz.returns
  have hts := atoms_spec (ws := wsX5_isWithin) Bz.pre
  have hown : sz.vm.findClass RX5 = some mz.cls := findClass_of_methodNamed Bz.named
  have hlocks := Bz.notSynchronized
  have hD := inW.self hD0
  have hS : va_S (inW []) sz.heap sz.heap [] := va_S.rf
  have hl := lv_entry ([.int (nI key), .int x0, .int y0, .int x1, .int y1]) (n := 7) (Nat.le_of_ble_eq_true rfl)
  rw [lg_entry_eq]
  generalize (lg_sl ([.int (nI key), .int x0, .int y0, .int x1, .int y1]) ++ List.replicate (7 - (lg_sl ([.int (nI key), .int x0, .int y0, .int x1, .int y1])).length) Slot.unset).toArray = ls at hl ⊢
  have hl : lv_has ls 7 [(0, .int (nI key)), (1, .int x0), (2, .int y0), (3, .int x1), (4, .int y1)] := hl
  refine wQ (fun Q hQ => ?_)
  generalize hAe : inW [] = A_ at hD hS
  refine lv_iload_n hx hb dX5_isWithin_0 rfl (lv_at hl 0 rfl) ?_
  refine ckSRi (As := [.int (nI key)]) (rest := []) [] (c_X5_xOf l X key hk) ⟨hx, hb, hml, hown, hts⟩ (va_cwS 1 hts gX5_isWithin_X5_xOf rfl rfl rfl (by decide +kernel) ⟨Nat.le_of_ble_eq_true rfl, Nat.le_of_ble_eq_true rfl⟩) hK hN hP hD (by decide) rfl rfl hl.1 rfl (Nat.le_of_ble_eq_true rfl) dX5_isWithin_1 ⟨Nat.zero_le _, Nat.zero_le _⟩ (fun r_1 hc_1 => ?_)
  subst hc_1
  refine lv_istore (lv' := [(5, .int (nI (key / 32768))), (0, .int (nI key)), (1, .int x0), (2, .int y0), (3, .int x1), (4, .int y1)]) hx hb dX5_isWithin_4 hl (by decide) rfl (fun ls hl => ?_)
  refine lv_iload_n hx hb dX5_isWithin_6 rfl (lv_at hl 1 rfl) ?_
  refine ckSRi (As := [.int (nI key)]) (rest := []) [] (c_X5_yOf l X key hk) ⟨hx, hb, hml, hown, hts⟩ (va_cwS 1 hts gX5_isWithin_X5_yOf rfl rfl rfl (by decide +kernel) ⟨Nat.le_of_ble_eq_true rfl, Nat.le_of_ble_eq_true rfl⟩) hK hN hP hD (by decide) rfl rfl hl.1 rfl (Nat.le_of_ble_eq_true rfl) dX5_isWithin_7 ⟨Nat.zero_le _, Nat.zero_le _⟩ (fun r_2 hc_7 => ?_)
  subst hc_7
  refine lv_istore (lv' := [(6, .int (nI (key % 32768))), (5, .int (nI (key / 32768))), (0, .int (nI key)), (1, .int x0), (2, .int y0), (3, .int x1), (4, .int y1)]) hx hb dX5_isWithin_10 hl (by decide) rfl (fun ls hl => ?_)
  refine lv_iload_n hx hb dX5_isWithin_12 rfl (lv_at hl 3 rfl) ?_
  refine lv_iload hx hb dX5_isWithin_13 (lv_at hl 1 rfl) ?_
  refine lv_icmp_gt (tgt := 41) hx hb dX5_isWithin_15 (by decide) (fun c_15 => ?_) (fun c_15 => ?_)
  · skip
    refine lv_iconst (v := nI 0) hx hb dX5_isWithin_41 (by decide) ?_
    refine wM hQ ?_
    exact rtRZ hx hb hr hlocks (by decide) (Or.inr ⟨fun z => by first | exact z.1 c_15 | exact z.2.1 c_21 | exact z.2.2.1 c_27 | exact z.2.2.2 c_34, rfl⟩) dX5_isWithin_42
  · skip
    refine lv_iload hx hb dX5_isWithin_18 (lv_at hl 1 rfl) ?_
    refine lv_iload_n hx hb dX5_isWithin_20 rfl (lv_at hl 5 rfl) ?_
    refine lv_icmp_gt (tgt := 41) hx hb dX5_isWithin_21 (by decide) (fun c_21 => ?_) (fun c_21 => ?_)
    · skip
      refine lv_iconst (v := nI 0) hx hb dX5_isWithin_41 (by decide) ?_
      refine wM hQ ?_
      exact rtRZ hx hb hr hlocks (by decide) (Or.inr ⟨fun z => by first | exact z.1 c_15 | exact z.2.1 c_21 | exact z.2.2.1 c_27 | exact z.2.2.2 c_34, rfl⟩) dX5_isWithin_42
    · skip
      refine lv_iload_n hx hb dX5_isWithin_24 rfl (lv_at hl 4 rfl) ?_
      refine lv_iload hx hb dX5_isWithin_25 (lv_at hl 0 rfl) ?_
      refine lv_icmp_gt (tgt := 41) hx hb dX5_isWithin_27 (by decide) (fun c_27 => ?_) (fun c_27 => ?_)
      · skip
        refine lv_iconst (v := nI 0) hx hb dX5_isWithin_41 (by decide) ?_
        refine wM hQ ?_
        exact rtRZ hx hb hr hlocks (by decide) (Or.inr ⟨fun z => by first | exact z.1 c_15 | exact z.2.1 c_21 | exact z.2.2.1 c_27 | exact z.2.2.2 c_34, rfl⟩) dX5_isWithin_42
      · skip
        refine lv_iload hx hb dX5_isWithin_30 (lv_at hl 0 rfl) ?_
        refine lv_iload hx hb dX5_isWithin_32 (lv_at hl 6 rfl) ?_
        refine lv_icmp_gt (tgt := 41) hx hb dX5_isWithin_34 (by decide) (fun c_34 => ?_) (fun c_34 => ?_)
        · skip
          refine lv_iconst (v := nI 0) hx hb dX5_isWithin_41 (by decide) ?_
          refine wM hQ ?_
          exact rtRZ hx hb hr hlocks (by decide) (Or.inr ⟨fun z => by first | exact z.1 c_15 | exact z.2.1 c_21 | exact z.2.2.1 c_27 | exact z.2.2.2 c_34, rfl⟩) dX5_isWithin_42
        · skip
          refine lv_iconst (v := nI 1) hx hb dX5_isWithin_37 (by decide) ?_
          refine lv_goto (tgt := 42) hx hb dX5_isWithin_38 (by decide) ?_
          refine wM hQ ?_
          exact rtRZ hx hb hr hlocks (by decide) (Or.inl ⟨⟨c_15, c_21, c_27, c_34⟩, rfl⟩) dX5_isWithin_42
set_option maxHeartbeats 4000000 in
set_option maxRecDepth 100000 in
theorem c_X5_distance (l : Launch) (X : kX) (key : Nat) (x y : Int32) (hk : key < 2 ^ 30) : CRl l X yX5_distance wsX5_distance 1 [.int (nI key), .int x, .int y] [] (fun r => r = dst key x y) := by
  refine Met.ofW (cc := cX5_distance) (maxL := 7) (ret := some (.long)) (by decide) rfl ?_
  intro pz ez sz mz args below meth cz s₁ Bz hml hv
  obtain ⟨rfl, hP, hK, hD0, hN⟩ := hv
  have hx := Bz.exec
  have hb := Bz.bytes
  have hr := Bz.returns
  have hts := atoms_spec (ws := wsX5_distance) Bz.pre
  have hown : sz.vm.findClass RX5 = some mz.cls := findClass_of_methodNamed Bz.named
  have hlocks := Bz.notSynchronized
  have hD := inW.self hD0
  have hS : va_S (inW []) sz.heap sz.heap [] := va_S.rf
  have hl := lv_entry ([.int (nI key), .int x, .int y]) (n := 7) (Nat.le_of_ble_eq_true rfl)
  rw [lg_entry_eq]
  generalize (lg_sl ([.int (nI key), .int x, .int y]) ++ List.replicate (7 - (lg_sl ([.int (nI key), .int x, .int y])).length) Slot.unset).toArray = ls at hl ⊢
  have hl : lv_has ls 7 [(0, .int (nI key)), (1, .int x), (2, .int y)] := hl
  refine wQ (fun Q hQ => ?_)
  generalize hAe : inW [] = A_ at hD hS
  refine lv_iload_n hx hb dX5_distance_0 rfl (lv_at hl 0 rfl) ?_
  refine ckSRi (As := [.int (nI key)]) (rest := []) [] (c_X5_xOf l X key hk) ⟨hx, hb, hml, hown, hts⟩ (va_cwS 1 hts gX5_distance_X5_xOf rfl rfl rfl (by decide +kernel) ⟨Nat.le_of_ble_eq_true rfl, Nat.le_of_ble_eq_true rfl⟩) hK hN hP hD (by decide) rfl rfl hl.1 rfl (Nat.le_of_ble_eq_true rfl) dX5_distance_1 ⟨Nat.zero_le _, Nat.zero_le _⟩ (fun r_1 hc_1 => ?_)
  subst hc_1
  refine lv_iload_n hx hb dX5_distance_4 rfl (lv_at hl 1 rfl) ?_
  refine lv_isub hx hb dX5_distance_5 ?_
  refine lv_i2l (v := ((nI (key / 32768)) - x).toInt64) hx hb dX5_distance_6 rfl ?_
  refine lv_lstore_n (lv' := [(3, .long (((nI (key / 32768)) - x).toInt64)), (0, .int (nI key)), (1, .int x), (2, .int y)]) hx hb dX5_distance_7 rfl hl (by decide) rfl (fun ls hl => ?_)
  refine lv_iload_n hx hb dX5_distance_8 rfl (lv_at hl 1 rfl) ?_
  refine ckSRi (As := [.int (nI key)]) (rest := []) [] (c_X5_yOf l X key hk) ⟨hx, hb, hml, hown, hts⟩ (va_cwS 1 hts gX5_distance_X5_yOf rfl rfl rfl (by decide +kernel) ⟨Nat.le_of_ble_eq_true rfl, Nat.le_of_ble_eq_true rfl⟩) hK hN hP hD (by decide) rfl rfl hl.1 rfl (Nat.le_of_ble_eq_true rfl) dX5_distance_9 ⟨Nat.zero_le _, Nat.zero_le _⟩ (fun r_2 hc_9 => ?_)
  subst hc_9
  refine lv_iload_n hx hb dX5_distance_12 rfl (lv_at hl 3 rfl) ?_
  refine lv_isub hx hb dX5_distance_13 ?_
  refine lv_i2l (v := ((nI (key % 32768)) - y).toInt64) hx hb dX5_distance_14 rfl ?_
  refine lv_lstore (lv' := [(5, .long (((nI (key % 32768)) - y).toInt64)), (3, .long (((nI (key / 32768)) - x).toInt64)), (0, .int (nI key)), (1, .int x), (2, .int y)]) hx hb dX5_distance_15 hl (by decide) rfl (fun ls hl => ?_)
  refine lv_lload_n hx hb dX5_distance_17 rfl (lv_at hl 1 rfl) ?_
  refine lv_lload_n hx hb dX5_distance_18 rfl (lv_at hl 1 rfl) ?_
  refine lv_lmul hx hb dX5_distance_19 ?_
  refine lv_lload hx hb dX5_distance_20 (lv_at hl 0 rfl) ?_
  refine lv_lload hx hb dX5_distance_22 (lv_at hl 0 rfl) ?_
  refine lv_lmul hx hb dX5_distance_24 ?_
  refine lv_ladd hx hb dX5_distance_25 ?_
  refine wM hQ ?_
  exact rtRL hx hb hr hlocks (rfl) dX5_distance_26
set_option maxHeartbeats 4000000 in
set_option maxRecDepth 100000 in
theorem c_X5_isPlace (l : Launch) (X : kX) (x : Int32) : CRi l X yX5_isPlace wsX5_isPlace 0 [.int x] [] (fun r => (plc x ∧ r = nI 1) ∨ (¬ plc x ∧ r = nI 0)) := by
  refine Met.ofW (cc := cX5_isPlace) (maxL := 1) (ret := some (.boolean)) (by decide) rfl ?_
  intro pz ez sz mz args below meth cz s₁ Bz hml hv
  obtain ⟨rfl, hP, hK, hD0, hN⟩ := hv
  have hx := Bz.exec
  have hb := Bz.bytes
  have hr := Bz.returns
  have hts := atoms_spec (ws := wsX5_isPlace) Bz.pre
  have hown : sz.vm.findClass RX5 = some mz.cls := findClass_of_methodNamed Bz.named
  have hlocks := Bz.notSynchronized
  have hD := inW.self hD0
  have hS : va_S (inW []) sz.heap sz.heap [] := va_S.rf
  have hl := lv_entry ([.int x]) (n := 1) (Nat.le_of_ble_eq_true rfl)
  rw [lg_entry_eq]
  generalize (lg_sl ([.int x]) ++ List.replicate (1 - (lg_sl ([.int x])).length) Slot.unset).toArray = ls at hl ⊢
  have hl : lv_has ls 1 [(0, .int x)] := hl
  refine wQ (fun Q hQ => ?_)
  generalize hAe : inW [] = A_ at hD hS
  refine lv_iload_n hx hb dX5_isPlace_0 rfl (lv_at hl 0 rfl) ?_
  refine lv_if_lt (tgt := 14) hx hb dX5_isPlace_1 (by decide) (fun c_1 => ?_) (fun c_1 => ?_)
  · skip
    refine lv_iconst (v := nI 0) hx hb dX5_isPlace_14 (by decide) ?_
    refine wM hQ ?_
    exact rtRZ hx hb hr hlocks (by decide) (Or.inr ⟨fun z => by first | exact z.1 c_1 | exact z.2 c_7, rfl⟩) dX5_isPlace_15
  · skip
    refine lv_iload_n hx hb dX5_isPlace_4 rfl (lv_at hl 0 rfl) ?_
    refine lv_ldc (v := 65535) hx hb hown (hts (.constant RX5 205 (65535)) (by decide +kernel)) dX5_isPlace_5 ?_
    refine lv_topi (fun x_1 ex_1 => ?_)
    obtain rfl : x_1 = nI 65535 := by
      rw [ex_1]
      rfl
    refine lv_icmp_gt (tgt := 14) hx hb dX5_isPlace_7 (by decide) (fun c_7 => ?_) (fun c_7 => ?_)
    · skip
      refine lv_iconst (v := nI 0) hx hb dX5_isPlace_14 (by decide) ?_
      refine wM hQ ?_
      exact rtRZ hx hb hr hlocks (by decide) (Or.inr ⟨fun z => by first | exact z.1 c_1 | exact z.2 c_7, rfl⟩) dX5_isPlace_15
    · skip
      refine lv_iconst (v := nI 1) hx hb dX5_isPlace_10 (by decide) ?_
      refine lv_goto (tgt := 15) hx hb dX5_isPlace_11 (by decide) ?_
      refine wM hQ ?_
      exact rtRZ hx hb hr hlocks (by decide) (Or.inl ⟨⟨c_1, c_7⟩, rfl⟩) dX5_isPlace_15
set_option maxHeartbeats 4000000 in
set_option maxRecDepth 100000 in
theorem c_X5_fromOneTo (l : Launch) (X : kX) (mo ow : Nat) (a : Int32) : CRi l X yX5_fromOneTo wsX5_fromOneTo 0 [.int (nI mo), .int a, .int (nI ow)] [] (fun r => r = fot mo a ow) := by
  refine Met.ofW (cc := cX5_fromOneTo) (maxL := 3) (ret := some (.int)) (by decide) rfl ?_
  intro pz ez sz mz args below meth cz s₁ Bz hml hv
  obtain ⟨rfl, hP, hK, hD0, hN⟩ := hv
  have hx := Bz.exec
  have hb := Bz.bytes
  have hr := Bz.returns
  have hts := atoms_spec (ws := wsX5_fromOneTo) Bz.pre
  have hown : sz.vm.findClass RX5 = some mz.cls := findClass_of_methodNamed Bz.named
  have hlocks := Bz.notSynchronized
  have hD := inW.self hD0
  have hS : va_S (inW []) sz.heap sz.heap [] := va_S.rf
  have hl := lv_entry ([.int (nI mo), .int a, .int (nI ow)]) (n := 3) (Nat.le_of_ble_eq_true rfl)
  rw [lg_entry_eq]
  generalize (lg_sl ([.int (nI mo), .int a, .int (nI ow)]) ++ List.replicate (3 - (lg_sl ([.int (nI mo), .int a, .int (nI ow)])).length) Slot.unset).toArray = ls at hl ⊢
  have hl : lv_has ls 3 [(0, .int (nI mo)), (1, .int a), (2, .int (nI ow))] := hl
  refine wQ (fun Q hQ => ?_)
  generalize hAe : inW [] = A_ at hD hS
  refine lv_iload_n hx hb dX5_fromOneTo_0 rfl (lv_at hl 1 rfl) ?_
  refine lv_iconst (v := nI 1) hx hb dX5_fromOneTo_1 (by decide) ?_
  refine lv_icmp_lt (tgt := 14) hx hb dX5_fromOneTo_2 (by decide) (fun c_2 => ?_) (fun c_2 => ?_)
  · skip
    refine lv_iload_n hx hb dX5_fromOneTo_14 rfl (lv_at hl 2 rfl) ?_
    refine wM hQ ?_
    exact rtRI hx hb hr hlocks ((by show _ = _; unfold fot; first | exact (if_pos ⟨c_2, c_7⟩).symm | exact (if_neg (fun z => by first | exact z.1 c_2 | exact z.2 c_7)).symm)) dX5_fromOneTo_15
  · skip
    refine lv_iload_n hx hb dX5_fromOneTo_5 rfl (lv_at hl 1 rfl) ?_
    refine lv_iload_n hx hb dX5_fromOneTo_6 rfl (lv_at hl 0 rfl) ?_
    refine lv_icmp_gt (tgt := 14) hx hb dX5_fromOneTo_7 (by decide) (fun c_7 => ?_) (fun c_7 => ?_)
    · skip
      refine lv_iload_n hx hb dX5_fromOneTo_14 rfl (lv_at hl 2 rfl) ?_
      refine wM hQ ?_
      exact rtRI hx hb hr hlocks ((by show _ = _; unfold fot; first | exact (if_pos ⟨c_2, c_7⟩).symm | exact (if_neg (fun z => by first | exact z.1 c_2 | exact z.2 c_7)).symm)) dX5_fromOneTo_15
    · skip
      refine lv_iload_n hx hb dX5_fromOneTo_10 rfl (lv_at hl 1 rfl) ?_
      refine lv_goto (tgt := 15) hx hb dX5_fromOneTo_11 (by decide) ?_
      refine wM hQ ?_
      exact rtRI hx hb hr hlocks ((by show _ = _; unfold fot; first | exact (if_pos ⟨c_2, c_7⟩).symm | exact (if_neg (fun z => by first | exact z.1 c_2 | exact z.2 c_7)).symm)) dX5_fromOneTo_15
set_option maxHeartbeats 4000000 in
set_option maxRecDepth 100000 in
theorem c_X5_isOnPlane (l : Launch) (X : kX) (a d p t t2 ch rs sp : Nat) (f_bl f_bk f_pw f_ct f_cp : Int32) (x y : Int32) : CRi l X yX5_isOnPlane wsX5_isOnPlane 0 [.ref a, .int x, .int y] [(a, .inr (5, [.int f_bl, .int f_bk, .int (nI sp), .ref d, .ref p, .ref t, .ref t2, .ref ch, .ref rs, .int f_pw, .int f_ct, .int f_cp]))] (fun r => (onp x y sp ∧ r = nI 1) ∨ (¬ onp x y sp ∧ r = nI 0)) := by
  refine Met.ofW (cc := cX5_isOnPlane) (maxL := 3) (ret := some (.boolean)) (by decide) rfl ?_
  intro pz ez sz mz args below meth cz s₁ Bz hml hv
  obtain ⟨rfl, hP, hK, hD0, hN⟩ := hv
  have hx := Bz.exec
  have hb := Bz.bytes
  have hr := Bz.returns
  have hts := atoms_spec (ws := wsX5_isOnPlane) Bz.pre
  have hown : sz.vm.findClass RX5 = some mz.cls := findClass_of_methodNamed Bz.named
  have hlocks := Bz.notSynchronized
  have hD := inW.self hD0
  have hS : va_S (inW [(a, .inr (5, [.int f_bl, .int f_bk, .int (nI sp), .ref d, .ref p, .ref t, .ref t2, .ref ch, .ref rs, .int f_pw, .int f_ct, .int f_cp]))]) sz.heap sz.heap [] := va_S.rf
  have hl := lv_entry ([.ref a, .int x, .int y]) (n := 3) (Nat.le_of_ble_eq_true rfl)
  rw [lg_entry_eq]
  generalize (lg_sl ([.ref a, .int x, .int y]) ++ List.replicate (3 - (lg_sl ([.ref a, .int x, .int y])).length) Slot.unset).toArray = ls at hl ⊢
  have hl : lv_has ls 3 [(0, .ref a), (1, .int x), (2, .int y)] := hl
  have lk23 := hts (.fieldLink RX5 23 "PointStore" "span" "I") (by decide +kernel)
  have hin5 : ∀ w ∈ u_ws RX5 TX5 12, w ∈ wsX5_isOnPlane := by decide +kernel
  refine wQ (fun Q hQ => ?_)
  generalize hAe : inW [(a, .inr (5, [.int f_bl, .int f_bk, .int (nI sp), .ref d, .ref p, .ref t, .ref t2, .ref ch, .ref rs, .int f_pw, .int f_ct, .int f_cp]))] = A_ at hD hS
  refine lv_iload_n hx hb dX5_isOnPlane_0 rfl (lv_at hl 1 rfl) ?_
  refine lv_if_lt (tgt := 28) hx hb dX5_isOnPlane_1 (by decide) (fun c_1 => ?_) (fun c_1 => ?_)
  · skip
    refine lv_iconst (v := nI 0) hx hb dX5_isOnPlane_28 (by decide) ?_
    refine wM hQ ?_
    exact rtRZ hx hb hr hlocks (by decide) (Or.inr ⟨fun z => by first | exact z.1 c_1 | exact z.2.1 c_9 | exact z.2.2.1 c_13 | exact z.2.2.2 c_21, rfl⟩) dX5_isOnPlane_29
  · skip
    refine lv_iload_n hx hb dX5_isOnPlane_4 rfl (lv_at hl 1 rfl) ?_
    refine lv_aload_n hx hb dX5_isOnPlane_5 rfl (lv_at hl 0 rfl) ?_
    refine va_get (D := X.1) (ci := 5) (v := .int (nI sp)) (C := RX5) (T := TX5) (N := 12) hx hb hts hin5 hown hK hP 0 rfl rfl 2 (by decide) lk23 (fun _ h9 => h9) rfl dX5_isOnPlane_6 ?_
    refine lv_icmp_ge (tgt := 28) hx hb dX5_isOnPlane_9 (by decide) (fun c_9 => ?_) (fun c_9 => ?_)
    · skip
      refine lv_iconst (v := nI 0) hx hb dX5_isOnPlane_28 (by decide) ?_
      refine wM hQ ?_
      exact rtRZ hx hb hr hlocks (by decide) (Or.inr ⟨fun z => by first | exact z.1 c_1 | exact z.2.1 c_9 | exact z.2.2.1 c_13 | exact z.2.2.2 c_21, rfl⟩) dX5_isOnPlane_29
    · skip
      refine lv_iload_n hx hb dX5_isOnPlane_12 rfl (lv_at hl 2 rfl) ?_
      refine lv_if_lt (tgt := 28) hx hb dX5_isOnPlane_13 (by decide) (fun c_13 => ?_) (fun c_13 => ?_)
      · skip
        refine lv_iconst (v := nI 0) hx hb dX5_isOnPlane_28 (by decide) ?_
        refine wM hQ ?_
        exact rtRZ hx hb hr hlocks (by decide) (Or.inr ⟨fun z => by first | exact z.1 c_1 | exact z.2.1 c_9 | exact z.2.2.1 c_13 | exact z.2.2.2 c_21, rfl⟩) dX5_isOnPlane_29
      · skip
        refine lv_iload_n hx hb dX5_isOnPlane_16 rfl (lv_at hl 2 rfl) ?_
        refine lv_aload_n hx hb dX5_isOnPlane_17 rfl (lv_at hl 0 rfl) ?_
        refine va_get (D := X.1) (ci := 5) (v := .int (nI sp)) (C := RX5) (T := TX5) (N := 12) hx hb hts hin5 hown hK hP 0 rfl rfl 2 (by decide) lk23 (fun _ h9 => h9) rfl dX5_isOnPlane_18 ?_
        refine lv_icmp_ge (tgt := 28) hx hb dX5_isOnPlane_21 (by decide) (fun c_21 => ?_) (fun c_21 => ?_)
        · skip
          refine lv_iconst (v := nI 0) hx hb dX5_isOnPlane_28 (by decide) ?_
          refine wM hQ ?_
          exact rtRZ hx hb hr hlocks (by decide) (Or.inr ⟨fun z => by first | exact z.1 c_1 | exact z.2.1 c_9 | exact z.2.2.1 c_13 | exact z.2.2.2 c_21, rfl⟩) dX5_isOnPlane_29
        · skip
          refine lv_iconst (v := nI 1) hx hb dX5_isOnPlane_24 (by decide) ?_
          refine lv_goto (tgt := 29) hx hb dX5_isOnPlane_25 (by decide) ?_
          refine wM hQ ?_
          exact rtRZ hx hb hr hlocks (by decide) (Or.inl ⟨⟨c_1, c_9, c_13, c_21⟩, rfl⟩) dX5_isOnPlane_29
set_option maxHeartbeats 4000000 in
set_option maxRecDepth 100000 in
theorem c_X5_pointsOf (l : Launch) (X : kX) (a d p t t2 ch rs sp : Nat) (f_bl f_bk f_pw f_ct f_cp : Int32) (h lk lv se : Nat) (x : Int32) : CRq l X yX5_pointsOf wsX5_pointsOf 0 [.ref a, .int x] [(a, .inr (5, [.int f_bl, .int f_bk, .int (nI sp), .ref d, .ref p, .ref t, .ref t2, .ref ch, .ref rs, .int f_pw, .int f_ct, .int f_cp])), (d, .inr (1, [.ref h, .ref lk, .ref lv, .int (nI se)]))] (fun r => r = if x = 0 then some p else if x = nI 1 then some h else none) := by
  refine Met.ofW (cc := cX5_pointsOf) (maxL := 2) (ret := some ((.object "PointStore$Points"))) (by decide) rfl ?_
  intro pz ez sz mz args below meth cz s₁ Bz hml hv
  obtain ⟨rfl, hP, hK, hD0, hN⟩ := hv
  have hx := Bz.exec
  have hb := Bz.bytes
  have hr := Bz.returns
  have hts := atoms_spec (ws := wsX5_pointsOf) Bz.pre
  have hown : sz.vm.findClass RX5 = some mz.cls := findClass_of_methodNamed Bz.named
  have hlocks := Bz.notSynchronized
  have hD := inW.self hD0
  have hS : va_S (inW [(a, .inr (5, [.int f_bl, .int f_bk, .int (nI sp), .ref d, .ref p, .ref t, .ref t2, .ref ch, .ref rs, .int f_pw, .int f_ct, .int f_cp])), (d, .inr (1, [.ref h, .ref lk, .ref lv, .int (nI se)]))]) sz.heap sz.heap [] := va_S.rf
  have hl := lv_entry ([.ref a, .int x]) (n := 2) (Nat.le_of_ble_eq_true rfl)
  rw [lg_entry_eq]
  generalize (lg_sl ([.ref a, .int x]) ++ List.replicate (2 - (lg_sl ([.ref a, .int x])).length) Slot.unset).toArray = ls at hl ⊢
  have hl : lv_has ls 2 [(0, .ref a), (1, .int x)] := hl
  have lk31 := hts (.fieldLink RX5 31 "PointStore" "disk" "LPointStore$Disk;") (by decide +kernel)
  have lk35 := hts (.fieldLink RX5 35 "PointStore" "pending" "LPointStore$Points;") (by decide +kernel)
  have lk140 := hts (.fieldLink RX5 140 "PointStore$Disk" "home" "LPointStore$Points;") (by decide +kernel)
  have hin1 : ∀ w ∈ u_ws RX1 TX1 4, w ∈ wsX5_pointsOf := by decide +kernel
  have hin5 : ∀ w ∈ u_ws RX5 TX5 12, w ∈ wsX5_pointsOf := by decide +kernel
  refine wQ (fun Q hQ => ?_)
  generalize hAe : inW [(a, .inr (5, [.int f_bl, .int f_bk, .int (nI sp), .ref d, .ref p, .ref t, .ref t2, .ref ch, .ref rs, .int f_pw, .int f_ct, .int f_cp])), (d, .inr (1, [.ref h, .ref lk, .ref lv, .int (nI se)]))] = A_ at hD hS
  refine lv_iload_n hx hb dX5_pointsOf_0 rfl (lv_at hl 1 rfl) ?_
  refine lv_if_ne (tgt := 9) hx hb dX5_pointsOf_1 (by decide) (fun c_1 => ?_) (fun c_1 => ?_)
  · skip
    refine lv_iload_n hx hb dX5_pointsOf_9 rfl (lv_at hl 1 rfl) ?_
    refine lv_iconst (v := nI 1) hx hb dX5_pointsOf_10 (by decide) ?_
    refine lv_icmp_ne (tgt := 24) hx hb dX5_pointsOf_11 (by decide) (fun c_11 => ?_) (fun c_11 => ?_)
    · skip
      refine lv_null hx hb dX5_pointsOf_24 ?_
      refine wM hQ ?_
      exact rtRQ (v := none) rfl hx hb hr hlocks ((by show _ = _; first | rw [if_pos c_1] | rw [if_neg c_1, if_pos c_11] | rw [if_neg c_1, if_neg c_11])) dX5_pointsOf_25
    · skip
      refine lv_aload_n hx hb dX5_pointsOf_14 rfl (lv_at hl 0 rfl) ?_
      refine va_get (D := X.1) (ci := 5) (v := .ref d) (C := RX5) (T := TX5) (N := 12) hx hb hts hin5 hown hK hP 0 rfl rfl 3 (by decide) lk31 (fun _ h9 => h9) rfl dX5_pointsOf_15 ?_
      refine va_get (D := X.1) (ci := 1) (v := .ref h) (C := RX1) (T := TX1) (N := 4) hx hb hts hin1 hown hK hP 1 rfl rfl 0 (by decide) lk140 (fun _ h9 => h9) rfl dX5_pointsOf_18 ?_
      refine lv_goto (tgt := 25) hx hb dX5_pointsOf_21 (by decide) ?_
      refine wM hQ ?_
      exact rtRQ (v := some h) rfl hx hb hr hlocks ((by show _ = _; first | rw [if_pos c_1] | rw [if_neg c_1, if_pos c_11] | rw [if_neg c_1, if_neg c_11])) dX5_pointsOf_25
  · skip
    refine lv_aload_n hx hb dX5_pointsOf_4 rfl (lv_at hl 0 rfl) ?_
    refine va_get (D := X.1) (ci := 5) (v := .ref p) (C := RX5) (T := TX5) (N := 12) hx hb hts hin5 hown hK hP 0 rfl rfl 4 (by decide) lk35 (fun _ h9 => h9) rfl dX5_pointsOf_5 ?_
    refine wM hQ ?_
    exact rtRQ (v := some p) rfl hx hb hr hlocks ((by show _ = _; first | rw [if_pos c_1] | rw [if_neg c_1, if_pos c_11] | rw [if_neg c_1, if_neg c_11])) dX5_pointsOf_8
set_option maxHeartbeats 4000000 in
set_option maxRecDepth 100000 in
theorem c_X5_treeOf (l : Launch) (X : kX) (a d p t t2 ch rs sp : Nat) (f_bl f_bk f_pw f_ct f_cp : Int32) (x : Int32) : CRq l X yX5_treeOf wsX5_treeOf 0 [.ref a, .int x] [(a, .inr (5, [.int f_bl, .int f_bk, .int (nI sp), .ref d, .ref p, .ref t, .ref t2, .ref ch, .ref rs, .int f_pw, .int f_ct, .int f_cp]))] (fun r => r = if x = 0 then some t else if x = nI 1 then some t2 else none) := by
  refine Met.ofW (cc := cX5_treeOf) (maxL := 2) (ret := some ((.object "PointStore$Tree"))) (by decide) rfl ?_
  intro pz ez sz mz args below meth cz s₁ Bz hml hv
  obtain ⟨rfl, hP, hK, hD0, hN⟩ := hv
  have hx := Bz.exec
  have hb := Bz.bytes
  have hr := Bz.returns
  have hts := atoms_spec (ws := wsX5_treeOf) Bz.pre
  have hown : sz.vm.findClass RX5 = some mz.cls := findClass_of_methodNamed Bz.named
  have hlocks := Bz.notSynchronized
  have hD := inW.self hD0
  have hS : va_S (inW [(a, .inr (5, [.int f_bl, .int f_bk, .int (nI sp), .ref d, .ref p, .ref t, .ref t2, .ref ch, .ref rs, .int f_pw, .int f_ct, .int f_cp]))]) sz.heap sz.heap [] := va_S.rf
  have hl := lv_entry ([.ref a, .int x]) (n := 2) (Nat.le_of_ble_eq_true rfl)
  rw [lg_entry_eq]
  generalize (lg_sl ([.ref a, .int x]) ++ List.replicate (2 - (lg_sl ([.ref a, .int x])).length) Slot.unset).toArray = ls at hl ⊢
  have hl : lv_has ls 2 [(0, .ref a), (1, .int x)] := hl
  have lk44 := hts (.fieldLink RX5 44 "PointStore" "pendingTree" "LPointStore$Tree;") (by decide +kernel)
  have lk48 := hts (.fieldLink RX5 48 "PointStore" "committedTree" "LPointStore$Tree;") (by decide +kernel)
  have hin5 : ∀ w ∈ u_ws RX5 TX5 12, w ∈ wsX5_treeOf := by decide +kernel
  refine wQ (fun Q hQ => ?_)
  generalize hAe : inW [(a, .inr (5, [.int f_bl, .int f_bk, .int (nI sp), .ref d, .ref p, .ref t, .ref t2, .ref ch, .ref rs, .int f_pw, .int f_ct, .int f_cp]))] = A_ at hD hS
  refine lv_iload_n hx hb dX5_treeOf_0 rfl (lv_at hl 1 rfl) ?_
  refine lv_if_ne (tgt := 9) hx hb dX5_treeOf_1 (by decide) (fun c_1 => ?_) (fun c_1 => ?_)
  · skip
    refine lv_iload_n hx hb dX5_treeOf_9 rfl (lv_at hl 1 rfl) ?_
    refine lv_iconst (v := nI 1) hx hb dX5_treeOf_10 (by decide) ?_
    refine lv_icmp_ne (tgt := 21) hx hb dX5_treeOf_11 (by decide) (fun c_11 => ?_) (fun c_11 => ?_)
    · skip
      refine lv_null hx hb dX5_treeOf_21 ?_
      refine wM hQ ?_
      exact rtRQ (v := none) rfl hx hb hr hlocks ((by show _ = _; first | rw [if_pos c_1] | rw [if_neg c_1, if_pos c_11] | rw [if_neg c_1, if_neg c_11])) dX5_treeOf_22
    · skip
      refine lv_aload_n hx hb dX5_treeOf_14 rfl (lv_at hl 0 rfl) ?_
      refine va_get (D := X.1) (ci := 5) (v := .ref t2) (C := RX5) (T := TX5) (N := 12) hx hb hts hin5 hown hK hP 0 rfl rfl 6 (by decide) lk48 (fun _ h9 => h9) rfl dX5_treeOf_15 ?_
      refine lv_goto (tgt := 22) hx hb dX5_treeOf_18 (by decide) ?_
      refine wM hQ ?_
      exact rtRQ (v := some t2) rfl hx hb hr hlocks ((by show _ = _; first | rw [if_pos c_1] | rw [if_neg c_1, if_pos c_11] | rw [if_neg c_1, if_neg c_11])) dX5_treeOf_22
  · skip
    refine lv_aload_n hx hb dX5_treeOf_4 rfl (lv_at hl 0 rfl) ?_
    refine va_get (D := X.1) (ci := 5) (v := .ref t) (C := RX5) (T := TX5) (N := 12) hx hb hts hin5 hown hK hP 0 rfl rfl 5 (by decide) lk44 (fun _ h9 => h9) rfl dX5_treeOf_5 ?_
    refine wM hQ ?_
    exact rtRQ (v := some t) rfl hx hb hr hlocks ((by show _ = _; first | rw [if_pos c_1] | rw [if_neg c_1, if_pos c_11] | rw [if_neg c_1, if_neg c_11])) dX5_treeOf_8
set_option maxHeartbeats 4000000 in
set_option maxRecDepth 100000 in
theorem c_X0_isFull (l : Launch) (X : kX) (c k v n : Nat) (hn : n ≤ 60) : CRi l X yX0_isFull wsX0_isFull 0 [.ref c] [(c, .inr (0, [.ref k, .ref v, .int (nI n)]))] (fun r => ((60 ≤ n) ∧ r = nI 1) ∨ (¬ (60 ≤ n) ∧ r = nI 0)) := by
  refine Met.ofW (cc := cX0_isFull) (maxL := 1) (ret := some (.boolean)) (by decide) rfl ?_
  intro pz ez sz mz args below meth cz s₁ Bz hml hv
  obtain ⟨rfl, hP, hK, hD0, hN⟩ := hv
  have hx := Bz.exec
  have hb := Bz.bytes
  have hr := Bz.returns
  have hts := atoms_spec (ws := wsX0_isFull) Bz.pre
  have hown : sz.vm.findClass RX0 = some mz.cls := findClass_of_methodNamed Bz.named
  have hlocks := Bz.notSynchronized
  have hD := inW.self hD0
  have hS : va_S (inW [(c, .inr (0, [.ref k, .ref v, .int (nI n)]))]) sz.heap sz.heap [] := va_S.rf
  have hl := lv_entry ([.ref c]) (n := 1) (Nat.le_of_ble_eq_true rfl)
  rw [lg_entry_eq]
  generalize (lg_sl ([.ref c]) ++ List.replicate (1 - (lg_sl ([.ref c])).length) Slot.unset).toArray = ls at hl ⊢
  have hl : lv_has ls 1 [(0, .ref c)] := hl
  have lk18 := hts (.fieldLink RX0 18 "PointStore$Changes" "total" "I") (by decide +kernel)
  have hin0 : ∀ w ∈ u_ws RX0 TX0 3, w ∈ wsX0_isFull := by decide +kernel
  refine wQ (fun Q hQ => ?_)
  generalize hAe : inW [(c, .inr (0, [.ref k, .ref v, .int (nI n)]))] = A_ at hD hS
  refine lv_aload_n hx hb dX0_isFull_0 rfl (lv_at hl 0 rfl) ?_
  refine va_get (D := X.1) (ci := 0) (v := .int (nI n)) (C := RX0) (T := TX0) (N := 3) hx hb hts hin0 hown hK hP 0 rfl rfl 2 (by decide) lk18 (fun _ h9 => h9) rfl dX0_isFull_1 ?_
  refine lv_bipush (v := nI 60) hx hb dX0_isFull_4 (by decide) ?_
  refine lv_icmp_lt (tgt := 13) hx hb dX0_isFull_6 (by decide) (fun c_6 => ?_) (fun c_6 => ?_)
  · replace c_6 : n < 60 := (nI_ltI (by omega) (by omega)).mp c_6
    refine lv_iconst (v := nI 0) hx hb dX0_isFull_13 (by decide) ?_
    refine wM hQ ?_
    exact rtRZ hx hb hr hlocks (by decide) (Or.inr ⟨by omega, rfl⟩) dX0_isFull_14
  · replace c_6 : ¬ n < 60 := fun h9 => c_6 ((nI_ltI (by omega) (by omega)).mpr h9)
    refine lv_iconst (v := nI 1) hx hb dX0_isFull_9 (by decide) ?_
    refine lv_goto (tgt := 14) hx hb dX0_isFull_10 (by decide) ?_
    refine wM hQ ?_
    exact rtRZ hx hb hr hlocks (by decide) (Or.inl ⟨by omega, rfl⟩) dX0_isFull_14
set_option maxHeartbeats 4000000 in
set_option maxRecDepth 100000 in
theorem c_X0_clear (l : Launch) (X : kX) (c k v : Nat) (f_n : Int32) : CWv l X yX0_clear wsX0_clear 0 [.ref c] [(c, .inr (0, [.ref k, .ref v, .int f_n]))] (S := Unit) (fun _ => True) (fun _ => [(c, .inr (0, [.ref k, .ref v, .int (nI 0)]))]) := by
  refine Met.ofW (cc := cX0_clear) (maxL := 1) (ret := none) (by decide) rfl ?_
  intro pz ez sz mz args below meth cz s₁ Bz hml hv
  obtain ⟨rfl, hP, hK, hD0, hN⟩ := hv
  have hx := Bz.exec
  have hb := Bz.bytes
  have hr := Bz.returns
  have hts := atoms_spec (ws := wsX0_clear) Bz.pre
  have hown : sz.vm.findClass RX0 = some mz.cls := findClass_of_methodNamed Bz.named
  have hlocks := Bz.notSynchronized
  have hD := inW.self hD0
  have hS : va_S (inW [(c, .inr (0, [.ref k, .ref v, .int f_n]))]) sz.heap sz.heap [] := va_S.rf
  have hl := lv_entry ([.ref c]) (n := 1) (Nat.le_of_ble_eq_true rfl)
  rw [lg_entry_eq]
  generalize (lg_sl ([.ref c]) ++ List.replicate (1 - (lg_sl ([.ref c])).length) Slot.unset).toArray = ls at hl ⊢
  have hl : lv_has ls 1 [(0, .ref c)] := hl
  have lk18 := hts (.fieldLink RX0 18 "PointStore$Changes" "total" "I") (by decide +kernel)
  have hin0 : ∀ w ∈ u_ws RX0 TX0 3, w ∈ wsX0_clear := by decide +kernel
  refine wQ (fun Q hQ => ?_)
  generalize hAe : inW [(c, .inr (0, [.ref k, .ref v, .int f_n]))] = A_ at hD hS hQ
  refine lv_aload_n hx hb dX0_clear_0 rfl (lv_at hl 0 rfl) ?_
  refine lv_iconst (v := nI 0) hx hb dX0_clear_1 (by decide) ?_
  refine va_put (D := X.1) (ci := 0) (v := .int (nI 0)) (ty := .int) (C := RX0) (T := TX0) (N := 3) hx hb hts hin0 tyX0 tyX0_ok nmX0 hown hK hP hD hS 0 rfl rfl 2 (by decide) lk18 (fun _ h9 => h9) rfl (by decide +kernel) rfl rfl (Nat.le_of_ble_eq_true rfl) dX0_clear_2 (fun H locs hP hD hS => ?_)
  have hP : va_P X.1 vwCl [(c, .inr (0, [.ref k, .ref v, .int (nI 0)]))] H := hP
  have hD : va_D A_ [(c, .inr (0, [.ref k, .ref v, .int (nI 0)]))] := hD
  refine wM hQ ?_
  exact rtV () hx hb hr hlocks hP hS (trivial) dX0_clear_5
set_option maxHeartbeats 4000000 in
set_option maxRecDepth 100000 in
theorem c_X0_add (l : Launch) (X : kX) (c k v : Nat) (kf vf : Nat → Int32) (o : Op) (C : List Op) (h : chOk kf vf C) (hl0 : C.length < 60) (ho : opOk o) : CWv l X yX0_add wsX0_add 1 [.ref c, .int (opK o), .int (opV o)] [(c, .inr (0, [.ref k, .ref v, .int (nI C.length)])), (k, .inl (X.2.1, 60, .inl kf)), (v, .inl (X.2.1, 60, .inl vf))] (S := (Nat → Int32) × (Nat → Int32)) (fun u => chOk u.1 u.2 (C ++ [o])) (fun ⟨kf2, vf2⟩ => [(c, .inr (0, [.ref k, .ref v, .int (nI (C.length + 1))])), (k, .inl (X.2.1, 60, .inl kf2)), (v, .inl (X.2.1, 60, .inl vf2))]) := by
  refine Met.ofW (cc := cX0_add) (maxL := 3) (ret := none) (by decide) rfl ?_
  intro pz ez sz mz args below meth cz s₁ Bz hml hv
  obtain ⟨rfl, hP, hK, hD0, hN⟩ := hv
  have hx := Bz.exec
  have hb := Bz.bytes
  have hr := Bz.returns
  have hts := atoms_spec (ws := wsX0_add) Bz.pre
  have hown : sz.vm.findClass RX0 = some mz.cls := findClass_of_methodNamed Bz.named
  have hlocks := Bz.notSynchronized
  have hD := inW.self hD0
  have hS : va_S (inW [(c, .inr (0, [.ref k, .ref v, .int (nI C.length)])), (k, .inl (X.2.1, 60, .inl kf)), (v, .inl (X.2.1, 60, .inl vf))]) sz.heap sz.heap [] := va_S.rf
  have hl := lv_entry ([.ref c, .int (opK o), .int (opV o)]) (n := 3) (Nat.le_of_ble_eq_true rfl)
  rw [lg_entry_eq]
  generalize (lg_sl ([.ref c, .int (opK o), .int (opV o)]) ++ List.replicate (3 - (lg_sl ([.ref c, .int (opK o), .int (opV o)])).length) Slot.unset).toArray = ls at hl ⊢
  have hl : lv_has ls 3 [(0, .ref c), (1, .int (opK o)), (2, .int (opV o))] := hl
  have lk9 := hts (.fieldLink RX0 9 "PointStore$Changes" "keys" "[I") (by decide +kernel)
  have lk15 := hts (.fieldLink RX0 15 "PointStore$Changes" "values" "[I") (by decide +kernel)
  have lk18 := hts (.fieldLink RX0 18 "PointStore$Changes" "total" "I") (by decide +kernel)
  have hin0 : ∀ w ∈ u_ws RX0 TX0 3, w ∈ wsX0_add := by decide +kernel
  refine wQ (fun Q hQ => ?_)
  generalize hAe : inW [(c, .inr (0, [.ref k, .ref v, .int (nI C.length)])), (k, .inl (X.2.1, 60, .inl kf)), (v, .inl (X.2.1, 60, .inl vf))] = A_ at hD hS hQ
  refine lv_aload_n hx hb dX0_add_0 rfl (lv_at hl 0 rfl) ?_
  refine ckVRi (As := []) (rest := []) 0 [0] (c_X0_isFull l X c k v C.length h.1) ⟨hx, hb, hml, hown, hts⟩ (cwV 0 hts gX0_add_X0_isFull rfl rfl rfl (by decide +kernel) ⟨Nat.le_of_ble_eq_true rfl, Nat.le_of_ble_eq_true rfl⟩) hK hN hP hD (by decide) rfl (ci := 0) rfl rfl rfl hl.1 rfl (Nat.le_of_ble_eq_true rfl) dX0_add_1 ⟨Nat.zero_le _, Nat.zero_le _⟩ (fun r_1 hc_1 => ?_)
  rcases hc_1 with ⟨hc_1, rfl⟩ | ⟨hc_1, rfl⟩
  · skip
    omega
  · skip
    refine lv_if_eq (tgt := 8) hx hb dX0_add_4 (by decide) (fun c_4 => ?_) (fun c_4 => ?_)
    · skip
      refine lv_aload_n hx hb dX0_add_8 rfl (lv_at hl 0 rfl) ?_
      refine va_get (D := X.1) (ci := 0) (v := .ref k) (C := RX0) (T := TX0) (N := 3) hx hb hts hin0 hown hK hP 0 rfl rfl 0 (by decide) lk9 (fun _ h9 => h9) rfl dX0_add_9 ?_
      refine lv_aload_n hx hb dX0_add_12 rfl (lv_at hl 0 rfl) ?_
      refine va_get (D := X.1) (ci := 0) (v := .int (nI C.length)) (C := RX0) (T := TX0) (N := 3) hx hb hts hin0 hown hK hP 0 rfl rfl 2 (by decide) lk18 (fun _ h9 => h9) rfl dX0_add_13 ?_
      refine lv_iload_n hx hb dX0_add_16 rfl (lv_at hl 1 rfl) ?_
      have hi_2 : vp_in (nI C.length) 60 := vp_in_nI (by omega) (by omega)
      refine va_iast hx hb hK hP hD hS 1 0 rfl rfl hi_2 dX0_add_17 (fun H locs hP hD hS => ?_)
      rw [nI_clamp (by omega)] at hP hD
      have hP : va_P X.1 vwCl [(c, .inr (0, [.ref k, .ref v, .int (nI C.length)])), (k, .inl (X.2.1, 60, .inl (upd kf C.length (opK o)))), (v, .inl (X.2.1, 60, .inl vf))] H := hP
      have hD : va_D A_ [(c, .inr (0, [.ref k, .ref v, .int (nI C.length)])), (k, .inl (X.2.1, 60, .inl (upd kf C.length (opK o)))), (v, .inl (X.2.1, 60, .inl vf))] := hD
      refine lv_aload_n hx hb dX0_add_18 rfl (lv_at hl 0 rfl) ?_
      refine va_get (D := X.1) (ci := 0) (v := .ref v) (C := RX0) (T := TX0) (N := 3) hx hb hts hin0 hown hK hP 0 rfl rfl 1 (by decide) lk15 (fun _ h9 => h9) rfl dX0_add_19 ?_
      refine lv_aload_n hx hb dX0_add_22 rfl (lv_at hl 0 rfl) ?_
      refine va_get (D := X.1) (ci := 0) (v := .int (nI C.length)) (C := RX0) (T := TX0) (N := 3) hx hb hts hin0 hown hK hP 0 rfl rfl 2 (by decide) lk18 (fun _ h9 => h9) rfl dX0_add_23 ?_
      refine lv_iload_n hx hb dX0_add_26 rfl (lv_at hl 2 rfl) ?_
      have hi_3 : vp_in (nI C.length) 60 := vp_in_nI (by omega) (by omega)
      refine va_iast hx hb hK hP hD hS 2 0 rfl rfl hi_3 dX0_add_27 (fun H locs hP hD hS => ?_)
      rw [nI_clamp (by omega)] at hP hD
      have hP : va_P X.1 vwCl [(c, .inr (0, [.ref k, .ref v, .int (nI C.length)])), (k, .inl (X.2.1, 60, .inl (upd kf C.length (opK o)))), (v, .inl (X.2.1, 60, .inl (upd vf C.length (opV o))))] H := hP
      have hD : va_D A_ [(c, .inr (0, [.ref k, .ref v, .int (nI C.length)])), (k, .inl (X.2.1, 60, .inl (upd kf C.length (opK o)))), (v, .inl (X.2.1, 60, .inl (upd vf C.length (opV o))))] := hD
      refine lv_aload_n hx hb dX0_add_28 rfl (lv_at hl 0 rfl) ?_
      refine lv_dup hx hb dX0_add_29 rfl ?_
      refine va_get (D := X.1) (ci := 0) (v := .int (nI C.length)) (C := RX0) (T := TX0) (N := 3) hx hb hts hin0 hown hK hP 0 rfl rfl 2 (by decide) lk18 (fun _ h9 => h9) rfl dX0_add_30 ?_
      refine lv_iconst (v := nI 1) hx hb dX0_add_33 (by decide) ?_
      refine lv_iadd hx hb dX0_add_34 ?_
      refine lv_topi (fun x_4 ex_4 => ?_)
      obtain rfl : x_4 = nI (C.length + 1) := by
        rw [ex_4]
        exact nI_add _ _
      refine va_put (D := X.1) (ci := 0) (v := .int (nI (C.length + 1))) (ty := .int) (C := RX0) (T := TX0) (N := 3) hx hb hts hin0 tyX0 tyX0_ok nmX0 hown hK hP hD hS 0 rfl rfl 2 (by decide) lk18 (fun _ h9 => h9) rfl (by decide +kernel) rfl rfl (Nat.le_of_ble_eq_true rfl) dX0_add_35 (fun H locs hP hD hS => ?_)
      have hP : va_P X.1 vwCl [(c, .inr (0, [.ref k, .ref v, .int (nI (C.length + 1))])), (k, .inl (X.2.1, 60, .inl (upd kf C.length (opK o)))), (v, .inl (X.2.1, 60, .inl (upd vf C.length (opV o))))] H := hP
      have hD : va_D A_ [(c, .inr (0, [.ref k, .ref v, .int (nI (C.length + 1))])), (k, .inl (X.2.1, 60, .inl (upd kf C.length (opK o)))), (v, .inl (X.2.1, 60, .inl (upd vf C.length (opV o))))] := hD
      refine wM hQ ?_
      exact rtV (upd kf C.length (opK o), upd vf C.length (opV o)) hx hb hr hlocks hP hS (ch_add h hl0 ho) dX0_add_38
    · exact absurd c_4 (by decide)
set_option maxHeartbeats 4000000 in
set_option maxRecDepth 100000 in
theorem c_X1_seal (l : Launch) (X : kX) (d h lk lv : Nat) (f_se : Int32) (n : Nat) : CWv l X yX1_seal wsX1_seal 0 [.ref d, .int (nI n)] [(d, .inr (1, [.ref h, .ref lk, .ref lv, .int f_se]))] (S := Unit) (fun _ => True) (fun _ => [(d, .inr (1, [.ref h, .ref lk, .ref lv, .int (nI n)]))]) := by
  refine Met.ofW (cc := cX1_seal) (maxL := 2) (ret := none) (by decide) rfl ?_
  intro pz ez sz mz args below meth cz s₁ Bz hml hv
  obtain ⟨rfl, hP, hK, hD0, hN⟩ := hv
  have hx := Bz.exec
  have hb := Bz.bytes
  have hr := Bz.returns
  have hts := atoms_spec (ws := wsX1_seal) Bz.pre
  have hown : sz.vm.findClass RX1 = some mz.cls := findClass_of_methodNamed Bz.named
  have hlocks := Bz.notSynchronized
  have hD := inW.self hD0
  have hS : va_S (inW [(d, .inr (1, [.ref h, .ref lk, .ref lv, .int f_se]))]) sz.heap sz.heap [] := va_S.rf
  have hl := lv_entry ([.ref d, .int (nI n)]) (n := 2) (Nat.le_of_ble_eq_true rfl)
  rw [lg_entry_eq]
  generalize (lg_sl ([.ref d, .int (nI n)]) ++ List.replicate (2 - (lg_sl ([.ref d, .int (nI n)])).length) Slot.unset).toArray = ls at hl ⊢
  have hl : lv_has ls 2 [(0, .ref d), (1, .int (nI n))] := hl
  have lk18 := hts (.fieldLink RX1 18 "PointStore$Disk" "sealed" "I") (by decide +kernel)
  have hin1 : ∀ w ∈ u_ws RX1 TX1 4, w ∈ wsX1_seal := by decide +kernel
  refine wQ (fun Q hQ => ?_)
  generalize hAe : inW [(d, .inr (1, [.ref h, .ref lk, .ref lv, .int f_se]))] = A_ at hD hS hQ
  refine lv_aload_n hx hb dX1_seal_0 rfl (lv_at hl 0 rfl) ?_
  refine lv_iload_n hx hb dX1_seal_1 rfl (lv_at hl 1 rfl) ?_
  refine va_put (D := X.1) (ci := 1) (v := .int (nI n)) (ty := .int) (C := RX1) (T := TX1) (N := 4) hx hb hts hin1 tyX1 tyX1_ok nmX1 hown hK hP hD hS 0 rfl rfl 3 (by decide) lk18 (fun _ h9 => h9) rfl (by decide +kernel) rfl rfl (Nat.le_of_ble_eq_true rfl) dX1_seal_2 (fun H locs hP hD hS => ?_)
  have hP : va_P X.1 vwCl [(d, .inr (1, [.ref h, .ref lk, .ref lv, .int (nI n)]))] H := hP
  have hD : va_D A_ [(d, .inr (1, [.ref h, .ref lk, .ref lv, .int (nI n)]))] := hD
  refine wM hQ ?_
  exact rtV () hx hb hr hlocks hP hS (trivial) dX1_seal_5
set_option maxHeartbeats 4000000 in
set_option maxRecDepth 100000 in
theorem c_X1_end (l : Launch) (X : kX) (d h lk lv : Nat) (f_se : Int32) : CWv l X yX1_end wsX1_end 0 [.ref d] [(d, .inr (1, [.ref h, .ref lk, .ref lv, .int f_se]))] (S := Unit) (fun _ => True) (fun _ => [(d, .inr (1, [.ref h, .ref lk, .ref lv, .int (nI 0)]))]) := by
  refine Met.ofW (cc := cX1_end) (maxL := 1) (ret := none) (by decide) rfl ?_
  intro pz ez sz mz args below meth cz s₁ Bz hml hv
  obtain ⟨rfl, hP, hK, hD0, hN⟩ := hv
  have hx := Bz.exec
  have hb := Bz.bytes
  have hr := Bz.returns
  have hts := atoms_spec (ws := wsX1_end) Bz.pre
  have hown : sz.vm.findClass RX1 = some mz.cls := findClass_of_methodNamed Bz.named
  have hlocks := Bz.notSynchronized
  have hD := inW.self hD0
  have hS : va_S (inW [(d, .inr (1, [.ref h, .ref lk, .ref lv, .int f_se]))]) sz.heap sz.heap [] := va_S.rf
  have hl := lv_entry ([.ref d]) (n := 1) (Nat.le_of_ble_eq_true rfl)
  rw [lg_entry_eq]
  generalize (lg_sl ([.ref d]) ++ List.replicate (1 - (lg_sl ([.ref d])).length) Slot.unset).toArray = ls at hl ⊢
  have hl : lv_has ls 1 [(0, .ref d)] := hl
  have lk18 := hts (.fieldLink RX1 18 "PointStore$Disk" "sealed" "I") (by decide +kernel)
  have hin1 : ∀ w ∈ u_ws RX1 TX1 4, w ∈ wsX1_end := by decide +kernel
  refine wQ (fun Q hQ => ?_)
  generalize hAe : inW [(d, .inr (1, [.ref h, .ref lk, .ref lv, .int f_se]))] = A_ at hD hS hQ
  refine lv_aload_n hx hb dX1_end_0 rfl (lv_at hl 0 rfl) ?_
  refine lv_iconst (v := nI 0) hx hb dX1_end_1 (by decide) ?_
  refine va_put (D := X.1) (ci := 1) (v := .int (nI 0)) (ty := .int) (C := RX1) (T := TX1) (N := 4) hx hb hts hin1 tyX1 tyX1_ok nmX1 hown hK hP hD hS 0 rfl rfl 3 (by decide) lk18 (fun _ h9 => h9) rfl (by decide +kernel) rfl rfl (Nat.le_of_ble_eq_true rfl) dX1_end_2 (fun H locs hP hD hS => ?_)
  have hP : va_P X.1 vwCl [(d, .inr (1, [.ref h, .ref lk, .ref lv, .int (nI 0)]))] H := hP
  have hD : va_D A_ [(d, .inr (1, [.ref h, .ref lk, .ref lv, .int (nI 0)]))] := hD
  refine wM hQ ?_
  exact rtV () hx hb hr hlocks hP hS (trivial) dX1_end_5
set_option maxHeartbeats 4000000 in
set_option maxRecDepth 100000 in
theorem c_X1_writeLog (l : Launch) (X : kX) (d h lk lv se c k v pt : Nat) (lkf lvf kf vf : Nat → Int32) (C : List Op) (hc : chOk kf vf C) (hp : pt ≤ 256) : CWv l X yX1_writeLog wsX1_writeLog 0 [.ref d, .ref c, .int (nI pt)] [(d, .inr (1, [.ref h, .ref lk, .ref lv, .int (nI se)])), (lk, .inl (X.2.1, 60, .inl lkf)), (lv, .inl (X.2.1, 60, .inl lvf)), (c, .inr (0, [.ref k, .ref v, .int (nI C.length)])), (k, .inl (X.2.1, 60, .inl kf)), (v, .inl (X.2.1, 60, .inl vf))] (S := (Nat → Int32) × (Nat → Int32)) (fun u => pt = 256 → chOk u.1 u.2 C) (fun ⟨lk2, lv2⟩ => [(d, .inr (1, [.ref h, .ref lk, .ref lv, .int (nI se)])), (lk, .inl (X.2.1, 60, .inl lk2)), (lv, .inl (X.2.1, 60, .inl lv2)), (c, .inr (0, [.ref k, .ref v, .int (nI C.length)])), (k, .inl (X.2.1, 60, .inl kf)), (v, .inl (X.2.1, 60, .inl vf))]) := by
  refine Met.ofW (cc := cX1_writeLog) (maxL := 4) (ret := none) (by decide) rfl ?_
  intro pz ez sz mz args below meth cz s₁ Bz hml hv
  obtain ⟨rfl, hP, hK, hD0, hN⟩ := hv
  have hx := Bz.exec
  have hb := Bz.bytes
  have hr := Bz.returns
  have hts := atoms_spec (ws := wsX1_writeLog) Bz.pre
  have hown : sz.vm.findClass RX1 = some mz.cls := findClass_of_methodNamed Bz.named
  have hlocks := Bz.notSynchronized
  have hD := inW.self hD0
  have hS : va_S (inW [(d, .inr (1, [.ref h, .ref lk, .ref lv, .int (nI se)])), (lk, .inl (X.2.1, 60, .inl lkf)), (lv, .inl (X.2.1, 60, .inl lvf)), (c, .inr (0, [.ref k, .ref v, .int (nI C.length)])), (k, .inl (X.2.1, 60, .inl kf)), (v, .inl (X.2.1, 60, .inl vf))]) sz.heap sz.heap [] := va_S.rf
  have hl := lv_entry ([.ref d, .ref c, .int (nI pt)]) (n := 4) (Nat.le_of_ble_eq_true rfl)
  rw [lg_entry_eq]
  generalize (lg_sl ([.ref d, .ref c, .int (nI pt)]) ++ List.replicate (4 - (lg_sl ([.ref d, .ref c, .int (nI pt)])).length) Slot.unset).toArray = ls at hl ⊢
  have hl : lv_has ls 4 [(0, .ref d), (1, .ref c), (2, .int (nI pt))] := hl
  have lk9 := hts (.fieldLink RX1 9 "PointStore$Disk" "logKeys" "[I") (by decide +kernel)
  have lk15 := hts (.fieldLink RX1 15 "PointStore$Disk" "logValues" "[I") (by decide +kernel)
  have lk26 := hts (.fieldLink RX1 26 "PointStore$Changes" "total" "I") (by decide +kernel)
  have lk31 := hts (.fieldLink RX1 31 "PointStore$Changes" "keys" "[I") (by decide +kernel)
  have lk40 := hts (.fieldLink RX1 40 "PointStore$Changes" "values" "[I") (by decide +kernel)
  have hin0 : ∀ w ∈ u_ws RX0 TX0 3, w ∈ wsX1_writeLog := by decide +kernel
  have hin1 : ∀ w ∈ u_ws RX1 TX1 4, w ∈ wsX1_writeLog := by decide +kernel
  refine wQ (fun Q hQ => ?_)
  generalize hAe : inW [(d, .inr (1, [.ref h, .ref lk, .ref lv, .int (nI se)])), (lk, .inl (X.2.1, 60, .inl lkf)), (lv, .inl (X.2.1, 60, .inl lvf)), (c, .inr (0, [.ref k, .ref v, .int (nI C.length)])), (k, .inl (X.2.1, 60, .inl kf)), (v, .inl (X.2.1, 60, .inl vf))] = A_ at hD hS hQ
  have hC := hc.1
  have hm : C.length * pt ≤ 60 * 256 := Nat.mul_le_mul hC hp
  have hq : C.length * pt / 256 ≤ C.length := by
    have := Nat.mul_le_mul_left C.length hp
    omega
  have hq2 : pt = 256 → C.length * pt / 256 = C.length := fun z => by subst z; omega
  generalize hw0 : C.length * pt / 256 = wh at hq hq2
  refine lv_aload_n hx hb dX1_writeLog_0 rfl (lv_at hl 1 rfl) ?_
  refine va_get (D := X.1) (ci := 0) (v := .int (nI C.length)) (C := RX0) (T := TX0) (N := 3) hx hb hts hin0 hown hK hP 3 rfl rfl 2 (by decide) lk26 (fun _ h9 => h9) rfl dX1_writeLog_1 ?_
  refine lv_iload_n hx hb dX1_writeLog_4 rfl (lv_at hl 2 rfl) ?_
  refine lv_imul hx hb dX1_writeLog_5 ?_
  refine lv_topi (fun x_1 ex_1 => ?_)
  obtain rfl : x_1 = nI (C.length * pt) := by
    rw [ex_1]
    exact pk_mul _ _
  refine lv_sipush (v := nI 256) hx hb dX1_writeLog_6 (by decide) ?_
  refine lv_idiv hx hb dX1_writeLog_9 (by decide) ?_
  refine lv_topi (fun x_2 ex_2 => ?_)
  obtain rfl : x_2 = nI wh := by
    rw [ex_2]
    rw [← hw0]
    exact pk_div (by omega) (by omega) (by omega)
  refine lv_istore_n (lv' := [(3, .int (nI wh)), (0, .ref d), (1, .ref c), (2, .int (nI pt))]) hx hb dX1_writeLog_10 rfl hl (by decide) rfl (fun ls hl => ?_)
  refine lv_aload_n hx hb dX1_writeLog_11 rfl (lv_at hl 2 rfl) ?_
  refine va_get (D := X.1) (ci := 0) (v := .ref k) (C := RX0) (T := TX0) (N := 3) hx hb hts hin0 hown hK hP 3 rfl rfl 0 (by decide) lk31 (fun _ h9 => h9) rfl dX1_writeLog_12 ?_
  refine lv_iconst (v := nI 0) hx hb dX1_writeLog_15 (by decide) ?_
  refine lv_aload_n hx hb dX1_writeLog_16 rfl (lv_at hl 1 rfl) ?_
  refine va_get (D := X.1) (ci := 1) (v := .ref lk) (C := RX1) (T := TX1) (N := 4) hx hb hts hin1 hown hK hP 0 rfl rfl 1 (by decide) lk9 (fun _ h9 => h9) rfl dX1_writeLog_17 ?_
  refine lv_iconst (v := nI 0) hx hb dX1_writeLog_20 (by decide) ?_
  refine lv_iload_n hx hb dX1_writeLog_21 rfl (lv_at hl 0 rfl) ?_
  refine va_copyi hx hb (hml.trans hl.1.symm) hown (hts (.methodLink RX1 34 arraycopyName) (by decide +kernel)) (hts (.native arraycopyName) (by decide +kernel)) (hts (.static arraycopyName) (by decide +kernel)) (hts (.initialized "java/lang/System") (by decide +kernel)) hK hP hD hS 4 1 0 0 rfl rfl rfl rfl rfl (nI_pos (by omega)) (nI_pos (by omega)) (nI_pos (by omega)) (by rw [nI_clamp (by omega), nI_clamp (by omega)]; omega) (by rw [nI_clamp (by omega), nI_clamp (by omega)]; omega) (fun _ _ => rfl) (Nat.le_of_ble_eq_true rfl) (by decide) dX1_writeLog_22 (fun H locs hP hD hS => ?_)
  rw [nI_clamp (n := 0) (by omega), nI_clamp (n := wh) (by omega)] at hP hD
  have hP : va_P X.1 vwCl [(d, .inr (1, [.ref h, .ref lk, .ref lv, .int (nI se)])), (lk, .inl (X.2.1, 60, .inl (va_cpy kf lkf 0 0 wh))), (lv, .inl (X.2.1, 60, .inl lvf)), (c, .inr (0, [.ref k, .ref v, .int (nI C.length)])), (k, .inl (X.2.1, 60, .inl kf)), (v, .inl (X.2.1, 60, .inl vf))] H := hP
  have hD : va_D A_ [(d, .inr (1, [.ref h, .ref lk, .ref lv, .int (nI se)])), (lk, .inl (X.2.1, 60, .inl (va_cpy kf lkf 0 0 wh))), (lv, .inl (X.2.1, 60, .inl lvf)), (c, .inr (0, [.ref k, .ref v, .int (nI C.length)])), (k, .inl (X.2.1, 60, .inl kf)), (v, .inl (X.2.1, 60, .inl vf))] := hD
  refine lv_aload_n hx hb dX1_writeLog_25 rfl (lv_at hl 2 rfl) ?_
  refine va_get (D := X.1) (ci := 0) (v := .ref v) (C := RX0) (T := TX0) (N := 3) hx hb hts hin0 hown hK hP 3 rfl rfl 1 (by decide) lk40 (fun _ h9 => h9) rfl dX1_writeLog_26 ?_
  refine lv_iconst (v := nI 0) hx hb dX1_writeLog_29 (by decide) ?_
  refine lv_aload_n hx hb dX1_writeLog_30 rfl (lv_at hl 1 rfl) ?_
  refine va_get (D := X.1) (ci := 1) (v := .ref lv) (C := RX1) (T := TX1) (N := 4) hx hb hts hin1 hown hK hP 0 rfl rfl 2 (by decide) lk15 (fun _ h9 => h9) rfl dX1_writeLog_31 ?_
  refine lv_iconst (v := nI 0) hx hb dX1_writeLog_34 (by decide) ?_
  refine lv_iload_n hx hb dX1_writeLog_35 rfl (lv_at hl 0 rfl) ?_
  refine va_copyi hx hb (hml.trans hl.1.symm) hown (hts (.methodLink RX1 34 arraycopyName) (by decide +kernel)) (hts (.native arraycopyName) (by decide +kernel)) (hts (.static arraycopyName) (by decide +kernel)) (hts (.initialized "java/lang/System") (by decide +kernel)) hK hP hD hS 5 2 0 0 rfl rfl rfl rfl rfl (nI_pos (by omega)) (nI_pos (by omega)) (nI_pos (by omega)) (by rw [nI_clamp (by omega), nI_clamp (by omega)]; omega) (by rw [nI_clamp (by omega), nI_clamp (by omega)]; omega) (fun _ _ => rfl) (Nat.le_of_ble_eq_true rfl) (by decide) dX1_writeLog_36 (fun H locs hP hD hS => ?_)
  rw [nI_clamp (n := 0) (by omega), nI_clamp (n := wh) (by omega)] at hP hD
  have hP : va_P X.1 vwCl [(d, .inr (1, [.ref h, .ref lk, .ref lv, .int (nI se)])), (lk, .inl (X.2.1, 60, .inl (va_cpy kf lkf 0 0 wh))), (lv, .inl (X.2.1, 60, .inl (va_cpy vf lvf 0 0 wh))), (c, .inr (0, [.ref k, .ref v, .int (nI C.length)])), (k, .inl (X.2.1, 60, .inl kf)), (v, .inl (X.2.1, 60, .inl vf))] H := hP
  have hD : va_D A_ [(d, .inr (1, [.ref h, .ref lk, .ref lv, .int (nI se)])), (lk, .inl (X.2.1, 60, .inl (va_cpy kf lkf 0 0 wh))), (lv, .inl (X.2.1, 60, .inl (va_cpy vf lvf 0 0 wh))), (c, .inr (0, [.ref k, .ref v, .int (nI C.length)])), (k, .inl (X.2.1, 60, .inl kf)), (v, .inl (X.2.1, 60, .inl vf))] := hD
  refine lv_iload_n hx hb dX1_writeLog_39 rfl (lv_at hl 0 rfl) ?_
  refine lv_aload_n hx hb dX1_writeLog_40 rfl (lv_at hl 2 rfl) ?_
  refine va_get (D := X.1) (ci := 0) (v := .int (nI C.length)) (C := RX0) (T := TX0) (N := 3) hx hb hts hin0 hown hK hP 3 rfl rfl 2 (by decide) lk26 (fun _ h9 => h9) rfl dX1_writeLog_41 ?_
  refine lv_icmp_ge (tgt := 59) hx hb dX1_writeLog_44 (by decide) (fun c_44 => ?_) (fun c_44 => ?_)
  · replace c_44 : C.length ≤ wh := (nI_leI (by omega) (by omega)).mp c_44
    refine wM hQ ?_
    exact rtV (va_cpy kf lkf 0 0 wh, va_cpy vf lvf 0 0 wh) hx hb hr hlocks hP hS (fun z => by
        have hwz := hq2 z
        first | omega | (show chOk _ _ _; rw [hwz]; exact ch_copy hc)) dX1_writeLog_59
  · replace c_44 : ¬ C.length ≤ wh := fun h9 => c_44 ((nI_leI (by omega) (by omega)).mpr h9)
    refine lv_aload_n hx hb dX1_writeLog_47 rfl (lv_at hl 1 rfl) ?_
    refine va_get (D := X.1) (ci := 1) (v := .ref lk) (C := RX1) (T := TX1) (N := 4) hx hb hts hin1 hown hK hP 0 rfl rfl 1 (by decide) lk9 (fun _ h9 => h9) rfl dX1_writeLog_48 ?_
    refine lv_iload_n hx hb dX1_writeLog_51 rfl (lv_at hl 0 rfl) ?_
    refine lv_aload_n hx hb dX1_writeLog_52 rfl (lv_at hl 2 rfl) ?_
    refine va_get (D := X.1) (ci := 0) (v := .ref k) (C := RX0) (T := TX0) (N := 3) hx hb hts hin0 hown hK hP 3 rfl rfl 0 (by decide) lk31 (fun _ h9 => h9) rfl dX1_writeLog_53 ?_
    refine lv_iload_n hx hb dX1_writeLog_56 rfl (lv_at hl 0 rfl) ?_
    have hi_3 : vp_in (nI wh) 60 := vp_in_nI (by omega) (by omega)
    refine va_iald hx hb hK hP 4 0 rfl rfl hi_3 dX1_writeLog_57 ?_
    refine lv_topi (fun x_4 ex_4 => ?_)
    obtain rfl : x_4 = kf wh := by
      rw [ex_4]
      rw [nI_clamp (by omega)]
    have hi_5 : vp_in (nI wh) 60 := vp_in_nI (by omega) (by omega)
    refine va_iast hx hb hK hP hD hS 1 0 rfl rfl hi_5 dX1_writeLog_58 (fun H locs hP hD hS => ?_)
    rw [nI_clamp (by omega)] at hP hD
    have hP : va_P X.1 vwCl [(d, .inr (1, [.ref h, .ref lk, .ref lv, .int (nI se)])), (lk, .inl (X.2.1, 60, .inl (upd (va_cpy kf lkf 0 0 wh) wh (kf wh)))), (lv, .inl (X.2.1, 60, .inl (va_cpy vf lvf 0 0 wh))), (c, .inr (0, [.ref k, .ref v, .int (nI C.length)])), (k, .inl (X.2.1, 60, .inl kf)), (v, .inl (X.2.1, 60, .inl vf))] H := hP
    have hD : va_D A_ [(d, .inr (1, [.ref h, .ref lk, .ref lv, .int (nI se)])), (lk, .inl (X.2.1, 60, .inl (upd (va_cpy kf lkf 0 0 wh) wh (kf wh)))), (lv, .inl (X.2.1, 60, .inl (va_cpy vf lvf 0 0 wh))), (c, .inr (0, [.ref k, .ref v, .int (nI C.length)])), (k, .inl (X.2.1, 60, .inl kf)), (v, .inl (X.2.1, 60, .inl vf))] := hD
    refine wM hQ ?_
    exact rtV (upd (va_cpy kf lkf 0 0 wh) wh (kf wh), va_cpy vf lvf 0 0 wh) hx hb hr hlocks hP hS (fun z => by
        have hwz := hq2 z
        first | omega | (show chOk _ _ _; rw [hwz]; exact ch_copy hc)) dX1_writeLog_59
set_option maxHeartbeats 4000000 in
set_option maxRecDepth 100000 in
theorem c_X1_writeAtHome_ev (l : Launch) (X : kX) (d h lk lv se k v w : Nat) (kf vf : Nat → Int32) (L : PL) (hp : ptOk kf vf L) : CWv l X yX1_writeAtHome wsX1_writeAtHome 2 [.ref d, .int (-1), .int (-1)] [(d, .inr (1, [.ref h, .ref lk, .ref lv, .int (nI se)])), (h, .inr (2, [.ref k, .ref v, .int (nI L.length), .int (nI w)])), (k, .inl (X.2.1, 512, .inl kf)), (v, .inl (X.2.1, 512, .inl vf))] (S := (Nat → Int32) × (Nat → Int32)) (fun u => ptOk u.1 u.2 ([] : PL)) (fun ⟨kf2, vf2⟩ => [(d, .inr (1, [.ref h, .ref lk, .ref lv, .int (nI se)])), (h, .inr (2, [.ref k, .ref v, .int (nI 0), .int (nI (w + 1))])), (k, .inl (X.2.1, 512, .inl kf2)), (v, .inl (X.2.1, 512, .inl vf2))]) := by
  refine Met.ofW (cc := cX1_writeAtHome) (maxL := 3) (ret := none) (by decide) rfl ?_
  intro pz ez sz mz args below meth cz s₁ Bz hml hv
  obtain ⟨rfl, hP, hK, hD0, hN⟩ := hv
  have hx := Bz.exec
  have hb := Bz.bytes
  have hr := Bz.returns
  have hts := atoms_spec (ws := wsX1_writeAtHome) Bz.pre
  have hown : sz.vm.findClass RX1 = some mz.cls := findClass_of_methodNamed Bz.named
  have hlocks := Bz.notSynchronized
  have hD := inW.self hD0
  have hS : va_S (inW [(d, .inr (1, [.ref h, .ref lk, .ref lv, .int (nI se)])), (h, .inr (2, [.ref k, .ref v, .int (nI L.length), .int (nI w)])), (k, .inl (X.2.1, 512, .inl kf)), (v, .inl (X.2.1, 512, .inl vf))]) sz.heap sz.heap [] := va_S.rf
  have hl := lv_entry ([.ref d, .int (-1), .int (-1)]) (n := 3) (Nat.le_of_ble_eq_true rfl)
  rw [lg_entry_eq]
  generalize (lg_sl ([.ref d, .int (-1), .int (-1)]) ++ List.replicate (3 - (lg_sl ([.ref d, .int (-1), .int (-1)])).length) Slot.unset).toArray = ls at hl ⊢
  have hl : lv_has ls 3 [(0, .ref d), (1, .int (-1)), (2, .int (-1))] := hl
  have lk22 := hts (.fieldLink RX1 22 "PointStore$Disk" "home" "LPointStore$Points;") (by decide +kernel)
  have hin1 : ∀ w ∈ u_ws RX1 TX1 4, w ∈ wsX1_writeAtHome := by decide +kernel
  refine wQ (fun Q hQ => ?_)
  generalize hAe : inW [(d, .inr (1, [.ref h, .ref lk, .ref lv, .int (nI se)])), (h, .inr (2, [.ref k, .ref v, .int (nI L.length), .int (nI w)])), (k, .inl (X.2.1, 512, .inl kf)), (v, .inl (X.2.1, 512, .inl vf))] = A_ at hD hS hQ
  refine lv_iload_n hx hb dX1_writeAtHome_0 rfl (lv_at hl 1 rfl) ?_
  refine lv_iconst (v := (-1)) hx hb dX1_writeAtHome_1 (by decide) ?_
  refine lv_icmp_ne (tgt := 15) hx hb dX1_writeAtHome_2 (by decide) (fun c_2 => ?_) (fun c_2 => ?_)
  · skip
    exact absurd rfl c_2
  · skip
    refine lv_aload_n hx hb dX1_writeAtHome_5 rfl (lv_at hl 0 rfl) ?_
    refine va_get (D := X.1) (ci := 1) (v := .ref h) (C := RX1) (T := TX1) (N := 4) hx hb hts hin1 hown hK hP 0 rfl rfl 0 (by decide) lk22 (fun _ h9 => h9) rfl dX1_writeAtHome_6 ?_
    refine ckVv (As := []) (rest := []) 0 [1] (c_X2_clear l X h k v L.length w) ⟨hx, hb, hml, hown, hts⟩ (cwV 0 hts gX1_writeAtHome_X2_clear rfl rfl rfl (by decide +kernel) ⟨Nat.le_of_ble_eq_true rfl, Nat.le_of_ble_eq_true rfl⟩) hK hN hP hD hS (by decide) rfl (ci := 2) rfl rfl (fun _ => rfl) rfl hl.1 rfl (Nat.le_of_ble_eq_true rfl) dX1_writeAtHome_9 ⟨Nat.zero_le _, Nat.zero_le _⟩ (fun u_1 H locs hc_9 hP hD hS => ?_)
    have hP : va_P X.1 vwCl [(d, .inr (1, [.ref h, .ref lk, .ref lv, .int (nI se)])), (h, .inr (2, [.ref k, .ref v, .int (nI 0), .int (nI (w + 1))])), (k, .inl (X.2.1, 512, .inl kf)), (v, .inl (X.2.1, 512, .inl vf))] H := hP
    have hD : va_D A_ [(d, .inr (1, [.ref h, .ref lk, .ref lv, .int (nI se)])), (h, .inr (2, [.ref k, .ref v, .int (nI 0), .int (nI (w + 1))])), (k, .inl (X.2.1, 512, .inl kf)), (v, .inl (X.2.1, 512, .inl vf))] := hD
    refine lv_goto (tgt := 40) hx hb dX1_writeAtHome_12 (by decide) ?_
    refine wM hQ ?_
    exact rtV (kf, vf) hx hb hr hlocks hP hS (pt_nil) dX1_writeAtHome_40
set_option maxHeartbeats 4000000 in
set_option maxRecDepth 100000 in
theorem c_X1_writeAtHome_del (l : Launch) (X : kX) (d h lk lv se k v w : Nat) (kf vf : Nat → Int32) (L : PL) (key : Nat) (hk : key < 2 ^ 30) (hp : ptOk kf vf L) : CWv l X yX1_writeAtHome wsX1_writeAtHome 2 [.ref d, .int (nI key), .int (-1)] [(d, .inr (1, [.ref h, .ref lk, .ref lv, .int (nI se)])), (h, .inr (2, [.ref k, .ref v, .int (nI L.length), .int (nI w)])), (k, .inl (X.2.1, 512, .inl kf)), (v, .inl (X.2.1, 512, .inl vf))] (S := (Nat → Int32) × (Nat → Int32)) (fun u => ptOk u.1 u.2 (pdel L key)) (fun ⟨kf2, vf2⟩ => [(d, .inr (1, [.ref h, .ref lk, .ref lv, .int (nI se)])), (h, .inr (2, [.ref k, .ref v, .int (nI ((pdel L key).length)), .int (nI (tv L key w))])), (k, .inl (X.2.1, 512, .inl kf2)), (v, .inl (X.2.1, 512, .inl vf2))]) := by
  refine Met.ofW (cc := cX1_writeAtHome) (maxL := 3) (ret := none) (by decide) rfl ?_
  intro pz ez sz mz args below meth cz s₁ Bz hml hv
  obtain ⟨rfl, hP, hK, hD0, hN⟩ := hv
  have hx := Bz.exec
  have hb := Bz.bytes
  have hr := Bz.returns
  have hts := atoms_spec (ws := wsX1_writeAtHome) Bz.pre
  have hown : sz.vm.findClass RX1 = some mz.cls := findClass_of_methodNamed Bz.named
  have hlocks := Bz.notSynchronized
  have hD := inW.self hD0
  have hS : va_S (inW [(d, .inr (1, [.ref h, .ref lk, .ref lv, .int (nI se)])), (h, .inr (2, [.ref k, .ref v, .int (nI L.length), .int (nI w)])), (k, .inl (X.2.1, 512, .inl kf)), (v, .inl (X.2.1, 512, .inl vf))]) sz.heap sz.heap [] := va_S.rf
  have hl := lv_entry ([.ref d, .int (nI key), .int (-1)]) (n := 3) (Nat.le_of_ble_eq_true rfl)
  rw [lg_entry_eq]
  generalize (lg_sl ([.ref d, .int (nI key), .int (-1)]) ++ List.replicate (3 - (lg_sl ([.ref d, .int (nI key), .int (-1)])).length) Slot.unset).toArray = ls at hl ⊢
  have hl : lv_has ls 3 [(0, .ref d), (1, .int (nI key)), (2, .int (-1))] := hl
  have lk22 := hts (.fieldLink RX1 22 "PointStore$Disk" "home" "LPointStore$Points;") (by decide +kernel)
  have hin1 : ∀ w ∈ u_ws RX1 TX1 4, w ∈ wsX1_writeAtHome := by decide +kernel
  refine wQ (fun Q hQ => ?_)
  generalize hAe : inW [(d, .inr (1, [.ref h, .ref lk, .ref lv, .int (nI se)])), (h, .inr (2, [.ref k, .ref v, .int (nI L.length), .int (nI w)])), (k, .inl (X.2.1, 512, .inl kf)), (v, .inl (X.2.1, 512, .inl vf))] = A_ at hD hS hQ
  refine lv_iload_n hx hb dX1_writeAtHome_0 rfl (lv_at hl 1 rfl) ?_
  refine lv_iconst (v := (-1)) hx hb dX1_writeAtHome_1 (by decide) ?_
  refine lv_icmp_ne (tgt := 15) hx hb dX1_writeAtHome_2 (by decide) (fun c_2 => ?_) (fun c_2 => ?_)
  · skip
    refine lv_iload_n hx hb dX1_writeAtHome_15 rfl (lv_at hl 2 rfl) ?_
    refine lv_iconst (v := (-1)) hx hb dX1_writeAtHome_16 (by decide) ?_
    refine lv_icmp_ne (tgt := 31) hx hb dX1_writeAtHome_17 (by decide) (fun c_17 => ?_) (fun c_17 => ?_)
    · skip
      exact absurd rfl c_17
    · skip
      refine lv_aload_n hx hb dX1_writeAtHome_20 rfl (lv_at hl 0 rfl) ?_
      refine va_get (D := X.1) (ci := 1) (v := .ref h) (C := RX1) (T := TX1) (N := 4) hx hb hts hin1 hown hK hP 0 rfl rfl 0 (by decide) lk22 (fun _ h9 => h9) rfl dX1_writeAtHome_21 ?_
      refine lv_iload_n hx hb dX1_writeAtHome_24 rfl (lv_at hl 1 rfl) ?_
      refine ckVv (As := [.int (nI key)]) (rest := []) 0 [1, 2, 3] (c_X2_takeOut l X h k v w key kf vf L hp hk) ⟨hx, hb, hml, hown, hts⟩ (cwV 1 hts gX1_writeAtHome_X2_takeOut rfl rfl rfl (by decide +kernel) ⟨Nat.le_of_ble_eq_true rfl, Nat.le_of_ble_eq_true rfl⟩) hK hN hP hD hS (by decide) rfl (ci := 2) rfl rfl (fun _ => rfl) rfl hl.1 rfl (Nat.le_of_ble_eq_true rfl) dX1_writeAtHome_25 ⟨Nat.zero_le _, Nat.zero_le _⟩ (fun u_1 H locs hc_25 hP hD hS => ?_)
      obtain ⟨kf2, vf2⟩ := u_1
      have hP : va_P X.1 vwCl [(d, .inr (1, [.ref h, .ref lk, .ref lv, .int (nI se)])), (h, .inr (2, [.ref k, .ref v, .int (nI ((pdel L key).length)), .int (nI (tv L key w))])), (k, .inl (X.2.1, 512, .inl kf2)), (v, .inl (X.2.1, 512, .inl vf2))] H := hP
      have hD : va_D A_ [(d, .inr (1, [.ref h, .ref lk, .ref lv, .int (nI se)])), (h, .inr (2, [.ref k, .ref v, .int (nI ((pdel L key).length)), .int (nI (tv L key w))])), (k, .inl (X.2.1, 512, .inl kf2)), (v, .inl (X.2.1, 512, .inl vf2))] := hD
      try dsimp only at hc_25
      refine lv_goto (tgt := 40) hx hb dX1_writeAtHome_28 (by decide) ?_
      refine wM hQ ?_
      exact rtV (kf2, vf2) hx hb hr hlocks hP hS (hc_25) dX1_writeAtHome_40
  · skip
    exact absurd c_2 (nI_m1 (by omega))
set_option maxHeartbeats 4000000 in
set_option maxRecDepth 100000 in
theorem c_X1_writeAtHome_put (l : Launch) (X : kX) (d h lk lv se k v w : Nat) (kf vf : Nat → Int32) (L : PL) (key x : Nat) (hk : key < 2 ^ 30) (hx0 : x < 2 ^ 31) (hl0 : (pput L key x).length ≤ 512) (hp : ptOk kf vf L) : CWv l X yX1_writeAtHome wsX1_writeAtHome 2 [.ref d, .int (nI key), .int (nI x)] [(d, .inr (1, [.ref h, .ref lk, .ref lv, .int (nI se)])), (h, .inr (2, [.ref k, .ref v, .int (nI L.length), .int (nI w)])), (k, .inl (X.2.1, 512, .inl kf)), (v, .inl (X.2.1, 512, .inl vf))] (S := (Nat → Int32) × (Nat → Int32)) (fun u => ptOk u.1 u.2 (pput L key x)) (fun ⟨kf2, vf2⟩ => [(d, .inr (1, [.ref h, .ref lk, .ref lv, .int (nI se)])), (h, .inr (2, [.ref k, .ref v, .int (nI ((pput L key x).length)), .int (nI (w + 1))])), (k, .inl (X.2.1, 512, .inl kf2)), (v, .inl (X.2.1, 512, .inl vf2))]) := by
  refine Met.ofW (cc := cX1_writeAtHome) (maxL := 3) (ret := none) (by decide) rfl ?_
  intro pz ez sz mz args below meth cz s₁ Bz hml hv
  obtain ⟨rfl, hP, hK, hD0, hN⟩ := hv
  have hx := Bz.exec
  have hb := Bz.bytes
  have hr := Bz.returns
  have hts := atoms_spec (ws := wsX1_writeAtHome) Bz.pre
  have hown : sz.vm.findClass RX1 = some mz.cls := findClass_of_methodNamed Bz.named
  have hlocks := Bz.notSynchronized
  have hD := inW.self hD0
  have hS : va_S (inW [(d, .inr (1, [.ref h, .ref lk, .ref lv, .int (nI se)])), (h, .inr (2, [.ref k, .ref v, .int (nI L.length), .int (nI w)])), (k, .inl (X.2.1, 512, .inl kf)), (v, .inl (X.2.1, 512, .inl vf))]) sz.heap sz.heap [] := va_S.rf
  have hl := lv_entry ([.ref d, .int (nI key), .int (nI x)]) (n := 3) (Nat.le_of_ble_eq_true rfl)
  rw [lg_entry_eq]
  generalize (lg_sl ([.ref d, .int (nI key), .int (nI x)]) ++ List.replicate (3 - (lg_sl ([.ref d, .int (nI key), .int (nI x)])).length) Slot.unset).toArray = ls at hl ⊢
  have hl : lv_has ls 3 [(0, .ref d), (1, .int (nI key)), (2, .int (nI x))] := hl
  have lk22 := hts (.fieldLink RX1 22 "PointStore$Disk" "home" "LPointStore$Points;") (by decide +kernel)
  have hin1 : ∀ w ∈ u_ws RX1 TX1 4, w ∈ wsX1_writeAtHome := by decide +kernel
  refine wQ (fun Q hQ => ?_)
  generalize hAe : inW [(d, .inr (1, [.ref h, .ref lk, .ref lv, .int (nI se)])), (h, .inr (2, [.ref k, .ref v, .int (nI L.length), .int (nI w)])), (k, .inl (X.2.1, 512, .inl kf)), (v, .inl (X.2.1, 512, .inl vf))] = A_ at hD hS hQ
  refine lv_iload_n hx hb dX1_writeAtHome_0 rfl (lv_at hl 1 rfl) ?_
  refine lv_iconst (v := (-1)) hx hb dX1_writeAtHome_1 (by decide) ?_
  refine lv_icmp_ne (tgt := 15) hx hb dX1_writeAtHome_2 (by decide) (fun c_2 => ?_) (fun c_2 => ?_)
  · skip
    refine lv_iload_n hx hb dX1_writeAtHome_15 rfl (lv_at hl 2 rfl) ?_
    refine lv_iconst (v := (-1)) hx hb dX1_writeAtHome_16 (by decide) ?_
    refine lv_icmp_ne (tgt := 31) hx hb dX1_writeAtHome_17 (by decide) (fun c_17 => ?_) (fun c_17 => ?_)
    · skip
      refine lv_aload_n hx hb dX1_writeAtHome_31 rfl (lv_at hl 0 rfl) ?_
      refine va_get (D := X.1) (ci := 1) (v := .ref h) (C := RX1) (T := TX1) (N := 4) hx hb hts hin1 hown hK hP 0 rfl rfl 0 (by decide) lk22 (fun _ h9 => h9) rfl dX1_writeAtHome_32 ?_
      refine lv_iload_n hx hb dX1_writeAtHome_35 rfl (lv_at hl 1 rfl) ?_
      refine lv_iload_n hx hb dX1_writeAtHome_36 rfl (lv_at hl 2 rfl) ?_
      refine ckVv (As := [.int (nI key), .int (nI x)]) (rest := []) 0 [1, 2, 3] (c_X2_put l X h k v w key x kf vf L hp hk hx0 hl0) ⟨hx, hb, hml, hown, hts⟩ (cwV 2 hts gX1_writeAtHome_X2_put rfl rfl rfl (by decide +kernel) ⟨Nat.le_of_ble_eq_true rfl, Nat.le_of_ble_eq_true rfl⟩) hK hN hP hD hS (by decide) rfl (ci := 2) rfl rfl (fun _ => rfl) rfl hl.1 rfl (Nat.le_of_ble_eq_true rfl) dX1_writeAtHome_37 ⟨Nat.zero_le _, Nat.zero_le _⟩ (fun u_1 H locs hc_37 hP hD hS => ?_)
      obtain ⟨kf2, vf2⟩ := u_1
      have hP : va_P X.1 vwCl [(d, .inr (1, [.ref h, .ref lk, .ref lv, .int (nI se)])), (h, .inr (2, [.ref k, .ref v, .int (nI ((pput L key x).length)), .int (nI (w + 1))])), (k, .inl (X.2.1, 512, .inl kf2)), (v, .inl (X.2.1, 512, .inl vf2))] H := hP
      have hD : va_D A_ [(d, .inr (1, [.ref h, .ref lk, .ref lv, .int (nI se)])), (h, .inr (2, [.ref k, .ref v, .int (nI ((pput L key x).length)), .int (nI (w + 1))])), (k, .inl (X.2.1, 512, .inl kf2)), (v, .inl (X.2.1, 512, .inl vf2))] := hD
      try dsimp only at hc_37
      refine wM hQ ?_
      exact rtV (kf2, vf2) hx hb hr hlocks hP hS (hc_37) dX1_writeAtHome_40
    · skip
      exact absurd c_17 (nI_m1 (by omega))
  · skip
    exact absurd c_2 (nI_m1 (by omega))
end
section
/-! Disk.writeHome, Results: contracts, laid by program (wip/gen/spec_dr.py) -/
set_option maxHeartbeats 4000000 in
set_option maxRecDepth 100000 in
theorem c_X1_writeHome (l : Launch) (X : kX) (d h lk lv k v w pt : Nat) (lkf lvf kf vf : Nat → Int32) (L : PL) (C : List Op) (hc : chOk lkf lvf C) (hp : ptOk kf vf L) (hpt : pt ≤ 256) (hcap : ∀ j, j ≤ C.length → (apL L (C.take j)).length ≤ 512) : CWv l X yX1_writeHome wsX1_writeHome 3 [.ref d, .int (nI pt)] [(d, .inr (1, [.ref h, .ref lk, .ref lv, .int (nI C.length)])), (lk, .inl (X.2.1, 60, .inl lkf)), (lv, .inl (X.2.1, 60, .inl lvf)), (h, .inr (2, [.ref k, .ref v, .int (nI L.length), .int (nI w)])), (k, .inl (X.2.1, 512, .inl kf)), (v, .inl (X.2.1, 512, .inl vf))] (S := (Nat → Int32) × (Nat → Int32)) (fun u => ptOk u.1 u.2 (apL L (C.take (C.length * pt / 256)))) (fun ⟨kf2, vf2⟩ => [(d, .inr (1, [.ref h, .ref lk, .ref lv, .int (nI C.length)])), (lk, .inl (X.2.1, 60, .inl lkf)), (lv, .inl (X.2.1, 60, .inl lvf)), (h, .inr (2, [.ref k, .ref v, .int (nI ((apL L (C.take (C.length * pt / 256))).length)), .int (nI (avL L w (C.take (C.length * pt / 256))))])), (k, .inl (X.2.1, 512, .inl kf2)), (v, .inl (X.2.1, 512, .inl vf2))]) := by
  refine Met.ofW (cc := cX1_writeHome) (maxL := 4) (ret := none) (by decide) rfl ?_
  intro pz ez sz mz args below meth cz s₁ Bz hml hv
  obtain ⟨rfl, hP, hK, hD0, hN⟩ := hv
  have hx := Bz.exec
  have hb := Bz.bytes
  have hr := Bz.returns
  have hts := atoms_spec (ws := wsX1_writeHome) Bz.pre
  have hown : sz.vm.findClass RX1 = some mz.cls := findClass_of_methodNamed Bz.named
  have hlocks := Bz.notSynchronized
  have hD := inW.self hD0
  have hS : va_S (inW [(d, .inr (1, [.ref h, .ref lk, .ref lv, .int (nI C.length)])), (lk, .inl (X.2.1, 60, .inl lkf)), (lv, .inl (X.2.1, 60, .inl lvf)), (h, .inr (2, [.ref k, .ref v, .int (nI L.length), .int (nI w)])), (k, .inl (X.2.1, 512, .inl kf)), (v, .inl (X.2.1, 512, .inl vf))]) sz.heap sz.heap [] := va_S.rf
  have hl := lv_entry ([.ref d, .int (nI pt)]) (n := 4) (Nat.le_of_ble_eq_true rfl)
  rw [lg_entry_eq]
  generalize (lg_sl ([.ref d, .int (nI pt)]) ++ List.replicate (4 - (lg_sl ([.ref d, .int (nI pt)])).length) Slot.unset).toArray = ls at hl ⊢
  have hl : lv_has ls 4 [(0, .ref d), (1, .int (nI pt))] := hl
  have lk9 := hts (.fieldLink RX1 9 "PointStore$Disk" "logKeys" "[I") (by decide +kernel)
  have lk15 := hts (.fieldLink RX1 15 "PointStore$Disk" "logValues" "[I") (by decide +kernel)
  have lk18 := hts (.fieldLink RX1 18 "PointStore$Disk" "sealed" "I") (by decide +kernel)
  have hin1 : ∀ w ∈ u_ws RX1 TX1 4, w ∈ wsX1_writeHome := by decide +kernel
  refine wQ (fun Q hQ => ?_)
  generalize hAe : inW [(d, .inr (1, [.ref h, .ref lk, .ref lv, .int (nI C.length)])), (lk, .inl (X.2.1, 60, .inl lkf)), (lv, .inl (X.2.1, 60, .inl lvf)), (h, .inr (2, [.ref k, .ref v, .int (nI L.length), .int (nI w)])), (k, .inl (X.2.1, 512, .inl kf)), (v, .inl (X.2.1, 512, .inl vf))] = A_ at hD hS hQ
  have hC := hc.1
  have hm : C.length * pt ≤ 60 * 256 := Nat.mul_le_mul hC hpt
  have hq : C.length * pt / 256 ≤ C.length := by
    have := Nat.mul_le_mul_left C.length hpt
    omega
  generalize hw0 : C.length * pt / 256 = wh at hq hQ
  refine lv_aload_n hx hb dX1_writeHome_0 rfl (lv_at hl 0 rfl) ?_
  refine va_get (D := X.1) (ci := 1) (v := .int (nI C.length)) (C := RX1) (T := TX1) (N := 4) hx hb hts hin1 hown hK hP 0 rfl rfl 3 (by decide) lk18 (fun _ h9 => h9) rfl dX1_writeHome_1 ?_
  refine lv_iload_n hx hb dX1_writeHome_4 rfl (lv_at hl 1 rfl) ?_
  refine lv_imul hx hb dX1_writeHome_5 ?_
  refine lv_topi (fun x_1 ex_1 => ?_)
  obtain rfl : x_1 = nI (C.length * pt) := by
    rw [ex_1]
    exact pk_mul _ _
  refine lv_sipush (v := nI 256) hx hb dX1_writeHome_6 (by decide) ?_
  refine lv_idiv hx hb dX1_writeHome_9 (by decide) ?_
  refine lv_topi (fun x_2 ex_2 => ?_)
  obtain rfl : x_2 = nI wh := by
    rw [ex_2]
    rw [← hw0]
    exact pk_div (by omega) (by omega) (by omega)
  refine lv_istore_n (lv' := [(2, .int (nI wh)), (0, .ref d), (1, .int (nI pt))]) hx hb dX1_writeHome_10 rfl hl (by decide) rfl (fun ls hl => ?_)
  refine lv_iconst (v := nI 0) hx hb dX1_writeHome_11 (by decide) ?_
  refine lv_istore_n (lv' := [(3, .int (nI 0)), (2, .int (nI wh)), (0, .ref d), (1, .int (nI pt))]) hx hb dX1_writeHome_12 rfl hl (by decide) rfl (fun ls hl => ?_)
  have loop_13 : ∀ (fu : Nat) (i : Nat) (kf1 : Nat → Int32) (vf1 : Nat → Int32), (i ≤ wh) → (ptOk kf1 vf1 (apL L (C.take i))) → wh - i < fu → ∀ (H : Heap) (locs : List Loc), va_P X.1 vwCl [(d, .inr (1, [.ref h, .ref lk, .ref lv, .int (nI C.length)])), (lk, .inl (X.2.1, 60, .inl lkf)), (lv, .inl (X.2.1, 60, .inl lvf)), (h, .inr (2, [.ref k, .ref v, .int (nI ((apL L (C.take i)).length)), .int (nI (avL L w (C.take i)))])), (k, .inl (X.2.1, 512, .inl kf1)), (v, .inl (X.2.1, 512, .inl vf1))] H → va_D A_ [(d, .inr (1, [.ref h, .ref lk, .ref lv, .int (nI C.length)])), (lk, .inl (X.2.1, 60, .inl lkf)), (lv, .inl (X.2.1, 60, .inl lvf)), (h, .inr (2, [.ref k, .ref v, .int (nI ((apL L (C.take i)).length)), .int (nI (avL L w (C.take i)))])), (k, .inl (X.2.1, 512, .inl kf1)), (v, .inl (X.2.1, 512, .inl vf1))] → va_S A_ sz.heap H locs → ∀ (ls : Array Slot), lv_has ls 4 [(0, .ref d), (2, .int (nI wh)), (3, .int (nI i))] → W pz l ez (headSpec wsX1_writeHome (rmk 3)).room sz mz ([.ref d, .int (nI pt)].toArray) below meth cz H locs 0 0 Q (F0 mz 13 ls []) := by
    intro fu
    induction fu with
    | zero => intro i kf1 vf1 h1 h2 hfu; exact absurd hfu (Nat.not_lt_zero _)
    | succ fu ih =>
      intro i kf1 vf1 h1 h2 hfu H locs hP hD hS ls hl
      refine lv_iload_n hx hb dX1_writeHome_13 rfl (lv_at hl 2 rfl) ?_
      refine lv_iload_n hx hb dX1_writeHome_14 rfl (lv_at hl 1 rfl) ?_
      refine lv_icmp_ge (tgt := 40) hx hb dX1_writeHome_15 (by decide) (fun c_15 => ?_) (fun c_15 => ?_)
      · replace c_15 : wh ≤ i := (nI_leI (by omega) (by omega)).mp c_15
        obtain rfl : wh = i := by omega
        refine wM hQ ?_
        exact rtV (kf1, vf1) hx hb hr hlocks hP hS (h2) dX1_writeHome_40
      · replace c_15 : ¬ wh ≤ i := fun h9 => c_15 ((nI_leI (by omega) (by omega)).mpr h9)
        refine lv_aload_n hx hb dX1_writeHome_18 rfl (lv_at hl 0 rfl) ?_
        refine lv_aload_n hx hb dX1_writeHome_19 rfl (lv_at hl 0 rfl) ?_
        refine va_get (D := X.1) (ci := 1) (v := .ref lk) (C := RX1) (T := TX1) (N := 4) hx hb hts hin1 hown hK hP 0 rfl rfl 1 (by decide) lk9 (fun _ h9 => h9) rfl dX1_writeHome_20 ?_
        refine lv_iload_n hx hb dX1_writeHome_23 rfl (lv_at hl 2 rfl) ?_
        have hi_3 : vp_in (nI i) 60 := vp_in_nI (by omega) (by omega)
        refine va_iald hx hb hK hP 1 0 rfl rfl hi_3 dX1_writeHome_24 ?_
        refine lv_topi (fun x_4 ex_4 => ?_)
        obtain rfl : x_4 = lkf i := by
          rw [ex_4]
          rw [nI_clamp (by omega)]
        refine lv_topi (fun x_5 ex_5 => ?_)
        obtain rfl : x_5 = opK (C.getD i none) := by
          rw [ex_5]
          exact (hc.2.1 i (by omega)).1
        refine lv_aload_n hx hb dX1_writeHome_25 rfl (lv_at hl 0 rfl) ?_
        refine va_get (D := X.1) (ci := 1) (v := .ref lv) (C := RX1) (T := TX1) (N := 4) hx hb hts hin1 hown hK hP 0 rfl rfl 2 (by decide) lk15 (fun _ h9 => h9) rfl dX1_writeHome_26 ?_
        refine lv_iload_n hx hb dX1_writeHome_29 rfl (lv_at hl 2 rfl) ?_
        have hi_6 : vp_in (nI i) 60 := vp_in_nI (by omega) (by omega)
        refine va_iald hx hb hK hP 2 0 rfl rfl hi_6 dX1_writeHome_30 ?_
        refine lv_topi (fun x_7 ex_7 => ?_)
        obtain rfl : x_7 = lvf i := by
          rw [ex_7]
          rw [nI_clamp (by omega)]
        refine lv_topi (fun x_8 ex_8 => ?_)
        obtain rfl : x_8 = opV (C.getD i none) := by
          rw [ex_8]
          exact (hc.2.1 i (by omega)).2
        have hcop := ch_op hc (i := i) (by omega)
        have hcp1 := hcap (i + 1) (by omega)
        rw [ap_take (by omega)] at hcp1
        rcases op_cases (C.getD i none) with hop | ⟨kk, hop⟩ | ⟨kk, vv, hop⟩
        · skip
          rw [hop] at hcop hcp1
          rw [hop]
          refine ckVv (As := [.int (-1), .int (-1)]) (rest := []) 0 [0, 3, 4, 5] (c_X1_writeAtHome_ev l X d h lk lv C.length k v (avL L w (C.take i)) kf1 vf1 (apL L (C.take i)) h2) ⟨hx, hb, hml, hown, hts⟩ (cwV 2 hts gX1_writeHome_X1_writeAtHome rfl rfl rfl (by decide +kernel) ⟨Nat.le_of_ble_eq_true rfl, Nat.le_of_ble_eq_true rfl⟩) hK hN hP hD hS (by decide) rfl (ci := 1) rfl rfl (fun _ => rfl) rfl hl.1 rfl (Nat.le_of_ble_eq_true rfl) dX1_writeHome_31 ⟨Nat.zero_le _, Nat.zero_le _⟩ (fun u_9 H locs hc_31 hP hD hS => ?_)
          obtain ⟨kf2, vf2⟩ := u_9
          have hP : va_P X.1 vwCl [(d, .inr (1, [.ref h, .ref lk, .ref lv, .int (nI C.length)])), (lk, .inl (X.2.1, 60, .inl lkf)), (lv, .inl (X.2.1, 60, .inl lvf)), (h, .inr (2, [.ref k, .ref v, .int (nI 0), .int (nI ((avL L w (C.take i)) + 1))])), (k, .inl (X.2.1, 512, .inl kf2)), (v, .inl (X.2.1, 512, .inl vf2))] H := hP
          have hD : va_D A_ [(d, .inr (1, [.ref h, .ref lk, .ref lv, .int (nI C.length)])), (lk, .inl (X.2.1, 60, .inl lkf)), (lv, .inl (X.2.1, 60, .inl lvf)), (h, .inr (2, [.ref k, .ref v, .int (nI 0), .int (nI ((avL L w (C.take i)) + 1))])), (k, .inl (X.2.1, 512, .inl kf2)), (v, .inl (X.2.1, 512, .inl vf2))] := hD
          try dsimp only at hc_31
          refine lv_iinc (v := nI (i + 1)) (lv' := [(3, .int (nI (i + 1))), (0, .ref d), (2, .int (nI wh))]) hx hb dX1_writeHome_34 hl (k := 2) rfl (by rw [show Int32.ofInt 1 = nI 1 from by decide]; exact nI_add _ _) (by decide) rfl (fun ls hl => ?_)
          refine lv_goto (tgt := 13) hx hb dX1_writeHome_37 (by decide) ?_
          have e1 : ([] : PL) = apL L (C.take (i + 1)) := by rw [ap_take (by omega), hop]; rfl
          have e2 : avL L w (C.take i) + 1 = avL L w (C.take (i + 1)) := by rw [av_take (by omega), hop]; rfl
          rw [show nI 0 = nI (apL L (C.take (i + 1))).length from by rw [← e1]; rfl, e2] at hP hD
          rw [e1] at hc_31
          exact ih (i + 1) kf2 vf2 (by omega) (by exact hc_31) (by omega) _ _ hP hD hS ls (lv_sub hl [1, 2, 0] rfl)
        · skip
          rw [hop] at hcop hcp1
          rw [hop]
          have hkk : kk < 2 ^ 30 := hcop
          refine ckVv (As := [.int (nI kk), .int (-1)]) (rest := []) 0 [0, 3, 4, 5] (c_X1_writeAtHome_del l X d h lk lv C.length k v (avL L w (C.take i)) kf1 vf1 (apL L (C.take i)) kk hkk h2) ⟨hx, hb, hml, hown, hts⟩ (cwV 2 hts gX1_writeHome_X1_writeAtHome rfl rfl rfl (by decide +kernel) ⟨Nat.le_of_ble_eq_true rfl, Nat.le_of_ble_eq_true rfl⟩) hK hN hP hD hS (by decide) rfl (ci := 1) rfl rfl (fun _ => rfl) rfl hl.1 rfl (Nat.le_of_ble_eq_true rfl) dX1_writeHome_31 ⟨Nat.zero_le _, Nat.zero_le _⟩ (fun u_11 H locs hc_31 hP hD hS => ?_)
          obtain ⟨kf2, vf2⟩ := u_11
          have hP : va_P X.1 vwCl [(d, .inr (1, [.ref h, .ref lk, .ref lv, .int (nI C.length)])), (lk, .inl (X.2.1, 60, .inl lkf)), (lv, .inl (X.2.1, 60, .inl lvf)), (h, .inr (2, [.ref k, .ref v, .int (nI ((pdel (apL L (C.take i)) kk).length)), .int (nI (tv (apL L (C.take i)) kk (avL L w (C.take i))))])), (k, .inl (X.2.1, 512, .inl kf2)), (v, .inl (X.2.1, 512, .inl vf2))] H := hP
          have hD : va_D A_ [(d, .inr (1, [.ref h, .ref lk, .ref lv, .int (nI C.length)])), (lk, .inl (X.2.1, 60, .inl lkf)), (lv, .inl (X.2.1, 60, .inl lvf)), (h, .inr (2, [.ref k, .ref v, .int (nI ((pdel (apL L (C.take i)) kk).length)), .int (nI (tv (apL L (C.take i)) kk (avL L w (C.take i))))])), (k, .inl (X.2.1, 512, .inl kf2)), (v, .inl (X.2.1, 512, .inl vf2))] := hD
          try dsimp only at hc_31
          refine lv_iinc (v := nI (i + 1)) (lv' := [(3, .int (nI (i + 1))), (0, .ref d), (2, .int (nI wh))]) hx hb dX1_writeHome_34 hl (k := 2) rfl (by rw [show Int32.ofInt 1 = nI 1 from by decide]; exact nI_add _ _) (by decide) rfl (fun ls hl => ?_)
          refine lv_goto (tgt := 13) hx hb dX1_writeHome_37 (by decide) ?_
          have e1 : pdel (apL L (C.take i)) kk = apL L (C.take (i + 1)) := by rw [ap_take (by omega), hop]; rfl
          have e2 : tv (apL L (C.take i)) kk (avL L w (C.take i)) = avL L w (C.take (i + 1)) := by rw [av_take (by omega), hop]; rfl
          rw [e1, e2] at hP hD
          rw [e1] at hc_31
          exact ih (i + 1) kf2 vf2 (by omega) (by exact hc_31) (by omega) _ _ hP hD hS ls (lv_sub hl [1, 2, 0] rfl)
        · skip
          rw [hop] at hcop hcp1
          rw [hop]
          obtain ⟨hkk, hvv⟩ : kk < 2 ^ 30 ∧ vv < 2 ^ 31 := hcop
          refine ckVv (As := [.int (nI kk), .int (nI vv)]) (rest := []) 0 [0, 3, 4, 5] (c_X1_writeAtHome_put l X d h lk lv C.length k v (avL L w (C.take i)) kf1 vf1 (apL L (C.take i)) kk vv hkk hvv hcp1 h2) ⟨hx, hb, hml, hown, hts⟩ (cwV 2 hts gX1_writeHome_X1_writeAtHome rfl rfl rfl (by decide +kernel) ⟨Nat.le_of_ble_eq_true rfl, Nat.le_of_ble_eq_true rfl⟩) hK hN hP hD hS (by decide) rfl (ci := 1) rfl rfl (fun _ => rfl) rfl hl.1 rfl (Nat.le_of_ble_eq_true rfl) dX1_writeHome_31 ⟨Nat.zero_le _, Nat.zero_le _⟩ (fun u_13 H locs hc_31 hP hD hS => ?_)
          obtain ⟨kf2, vf2⟩ := u_13
          have hP : va_P X.1 vwCl [(d, .inr (1, [.ref h, .ref lk, .ref lv, .int (nI C.length)])), (lk, .inl (X.2.1, 60, .inl lkf)), (lv, .inl (X.2.1, 60, .inl lvf)), (h, .inr (2, [.ref k, .ref v, .int (nI ((pput (apL L (C.take i)) kk vv).length)), .int (nI ((avL L w (C.take i)) + 1))])), (k, .inl (X.2.1, 512, .inl kf2)), (v, .inl (X.2.1, 512, .inl vf2))] H := hP
          have hD : va_D A_ [(d, .inr (1, [.ref h, .ref lk, .ref lv, .int (nI C.length)])), (lk, .inl (X.2.1, 60, .inl lkf)), (lv, .inl (X.2.1, 60, .inl lvf)), (h, .inr (2, [.ref k, .ref v, .int (nI ((pput (apL L (C.take i)) kk vv).length)), .int (nI ((avL L w (C.take i)) + 1))])), (k, .inl (X.2.1, 512, .inl kf2)), (v, .inl (X.2.1, 512, .inl vf2))] := hD
          try dsimp only at hc_31
          refine lv_iinc (v := nI (i + 1)) (lv' := [(3, .int (nI (i + 1))), (0, .ref d), (2, .int (nI wh))]) hx hb dX1_writeHome_34 hl (k := 2) rfl (by rw [show Int32.ofInt 1 = nI 1 from by decide]; exact nI_add _ _) (by decide) rfl (fun ls hl => ?_)
          refine lv_goto (tgt := 13) hx hb dX1_writeHome_37 (by decide) ?_
          have e1 : pput (apL L (C.take i)) kk vv = apL L (C.take (i + 1)) := by rw [ap_take (by omega), hop]; rfl
          have e2 : avL L w (C.take i) + 1 = avL L w (C.take (i + 1)) := by rw [av_take (by omega), hop]; rfl
          rw [e1, e2] at hP hD
          rw [e1] at hc_31
          exact ih (i + 1) kf2 vf2 (by omega) (by exact hc_31) (by omega) _ _ hP hD hS ls (lv_sub hl [1, 2, 0] rfl)
  have hP : va_P X.1 vwCl [(d, .inr (1, [.ref h, .ref lk, .ref lv, .int (nI C.length)])), (lk, .inl (X.2.1, 60, .inl lkf)), (lv, .inl (X.2.1, 60, .inl lvf)), (h, .inr (2, [.ref k, .ref v, .int (nI ((apL L (C.take 0)).length)), .int (nI (avL L w (C.take 0)))])), (k, .inl (X.2.1, 512, .inl kf)), (v, .inl (X.2.1, 512, .inl vf))] _ := hP
  have hD : va_D A_ [(d, .inr (1, [.ref h, .ref lk, .ref lv, .int (nI C.length)])), (lk, .inl (X.2.1, 60, .inl lkf)), (lv, .inl (X.2.1, 60, .inl lvf)), (h, .inr (2, [.ref k, .ref v, .int (nI ((apL L (C.take 0)).length)), .int (nI (avL L w (C.take 0)))])), (k, .inl (X.2.1, 512, .inl kf)), (v, .inl (X.2.1, 512, .inl vf))] := hD
  exact loop_13 _ 0 kf vf (by omega) (show ptOk kf vf (apL L (C.take 0)) from hp) (Nat.lt_succ_self _) _ _ hP hD hS ls (lv_sub hl [2, 1, 0] rfl)
set_option maxHeartbeats 4000000 in
set_option maxRecDepth 100000 in
theorem c_X3_clear (l : Launch) (X : kX) (r k v dd : Nat) (f_n : Int32) : CWv l X yX3_clear wsX3_clear 0 [.ref r] [(r, .inr (3, [.ref k, .ref v, .ref dd, .int f_n]))] (S := Unit) (fun _ => True) (fun _ => [(r, .inr (3, [.ref k, .ref v, .ref dd, .int (nI 0)]))]) := by
  refine Met.ofW (cc := cX3_clear) (maxL := 1) (ret := none) (by decide) rfl ?_
  intro pz ez sz mz args below meth cz s₁ Bz hml hv
  obtain ⟨rfl, hP, hK, hD0, hN⟩ := hv
  have hx := Bz.exec
  have hb := Bz.bytes
  have hr := Bz.returns
  have hts := atoms_spec (ws := wsX3_clear) Bz.pre
  have hown : sz.vm.findClass RX3 = some mz.cls := findClass_of_methodNamed Bz.named
  have hlocks := Bz.notSynchronized
  have hD := inW.self hD0
  have hS : va_S (inW [(r, .inr (3, [.ref k, .ref v, .ref dd, .int f_n]))]) sz.heap sz.heap [] := va_S.rf
  have hl := lv_entry ([.ref r]) (n := 1) (Nat.le_of_ble_eq_true rfl)
  rw [lg_entry_eq]
  generalize (lg_sl ([.ref r]) ++ List.replicate (1 - (lg_sl ([.ref r])).length) Slot.unset).toArray = ls at hl ⊢
  have hl : lv_has ls 1 [(0, .ref r)] := hl
  have lk22 := hts (.fieldLink RX3 22 "PointStore$Results" "total" "I") (by decide +kernel)
  have hin3 : ∀ w ∈ u_ws RX3 TX3 4, w ∈ wsX3_clear := by decide +kernel
  refine wQ (fun Q hQ => ?_)
  generalize hAe : inW [(r, .inr (3, [.ref k, .ref v, .ref dd, .int f_n]))] = A_ at hD hS hQ
  refine lv_aload_n hx hb dX3_clear_0 rfl (lv_at hl 0 rfl) ?_
  refine lv_iconst (v := nI 0) hx hb dX3_clear_1 (by decide) ?_
  refine va_put (D := X.1) (ci := 3) (v := .int (nI 0)) (ty := .int) (C := RX3) (T := TX3) (N := 4) hx hb hts hin3 tyX3 tyX3_ok nmX3 hown hK hP hD hS 0 rfl rfl 3 (by decide) lk22 (fun _ h9 => h9) rfl (by decide +kernel) rfl rfl (Nat.le_of_ble_eq_true rfl) dX3_clear_2 (fun H locs hP hD hS => ?_)
  have hP : va_P X.1 vwCl [(r, .inr (3, [.ref k, .ref v, .ref dd, .int (nI 0)]))] H := hP
  have hD : va_D A_ [(r, .inr (3, [.ref k, .ref v, .ref dd, .int (nI 0)]))] := hD
  refine wM hQ ?_
  exact rtV () hx hb hr hlocks hP hS (trivial) dX3_clear_5
set_option maxHeartbeats 4000000 in
set_option maxRecDepth 100000 in
theorem c_X3_add (l : Launch) (X : kX) (r k v dd key : Nat) (x : Int32) (kf vf : Nat → Int32) (R : RSL) (h : rsOk kf vf R) (hk : key < 2 ^ 30) : CWv l X yX3_add wsX3_add 0 [.ref r, .int (nI key), .int x] [(r, .inr (3, [.ref k, .ref v, .ref dd, .int (nI R.length)])), (k, .inl (X.2.1, 150, .inl kf)), (v, .inl (X.2.1, 150, .inl vf))] (S := (Nat → Int32) × (Nat → Int32)) (fun u => rsOk u.1 u.2 (rsAdd R key x)) (fun ⟨kf2, vf2⟩ => [(r, .inr (3, [.ref k, .ref v, .ref dd, .int (nI ((rsAdd R key x).length))])), (k, .inl (X.2.1, 150, .inl kf2)), (v, .inl (X.2.1, 150, .inl vf2))]) := by
  refine Met.ofW (cc := cX3_add) (maxL := 3) (ret := none) (by decide) rfl ?_
  intro pz ez sz mz args below meth cz s₁ Bz hml hv
  obtain ⟨rfl, hP, hK, hD0, hN⟩ := hv
  have hx := Bz.exec
  have hb := Bz.bytes
  have hr := Bz.returns
  have hts := atoms_spec (ws := wsX3_add) Bz.pre
  have hown : sz.vm.findClass RX3 = some mz.cls := findClass_of_methodNamed Bz.named
  have hlocks := Bz.notSynchronized
  have hD := inW.self hD0
  have hS : va_S (inW [(r, .inr (3, [.ref k, .ref v, .ref dd, .int (nI R.length)])), (k, .inl (X.2.1, 150, .inl kf)), (v, .inl (X.2.1, 150, .inl vf))]) sz.heap sz.heap [] := va_S.rf
  have hl := lv_entry ([.ref r, .int (nI key), .int x]) (n := 3) (Nat.le_of_ble_eq_true rfl)
  rw [lg_entry_eq]
  generalize (lg_sl ([.ref r, .int (nI key), .int x]) ++ List.replicate (3 - (lg_sl ([.ref r, .int (nI key), .int x])).length) Slot.unset).toArray = ls at hl ⊢
  have hl : lv_has ls 3 [(0, .ref r), (1, .int (nI key)), (2, .int x)] := hl
  have lk9 := hts (.fieldLink RX3 9 "PointStore$Results" "keys" "[I") (by decide +kernel)
  have lk15 := hts (.fieldLink RX3 15 "PointStore$Results" "values" "[I") (by decide +kernel)
  have lk22 := hts (.fieldLink RX3 22 "PointStore$Results" "total" "I") (by decide +kernel)
  have hin3 : ∀ w ∈ u_ws RX3 TX3 4, w ∈ wsX3_add := by decide +kernel
  refine wQ (fun Q hQ => ?_)
  generalize hAe : inW [(r, .inr (3, [.ref k, .ref v, .ref dd, .int (nI R.length)])), (k, .inl (X.2.1, 150, .inl kf)), (v, .inl (X.2.1, 150, .inl vf))] = A_ at hD hS hQ
  have hL := h.1
  refine lv_aload_n hx hb dX3_add_0 rfl (lv_at hl 0 rfl) ?_
  refine va_get (D := X.1) (ci := 3) (v := .int (nI R.length)) (C := RX3) (T := TX3) (N := 4) hx hb hts hin3 hown hK hP 0 rfl rfl 3 (by decide) lk22 (fun _ h9 => h9) rfl dX3_add_1 ?_
  refine lv_sipush (v := nI 150) hx hb dX3_add_4 (by decide) ?_
  refine lv_icmp_ge (tgt := 40) hx hb dX3_add_7 (by decide) (fun c_7 => ?_) (fun c_7 => ?_)
  · replace c_7 : 150 ≤ R.length := (nI_leI (by omega) (by omega)).mp c_7
    rw [← rs_full (R := R) (key := key) (x := x) (by omega)] at hP
    refine wM hQ ?_
    exact rtV (kf, vf) hx hb hr hlocks hP hS ((by show rsOk kf vf _; rw [rs_full (by omega)]; exact h)) dX3_add_40
  · replace c_7 : ¬ 150 ≤ R.length := fun h9 => c_7 ((nI_leI (by omega) (by omega)).mpr h9)
    refine lv_aload_n hx hb dX3_add_10 rfl (lv_at hl 0 rfl) ?_
    refine va_get (D := X.1) (ci := 3) (v := .ref k) (C := RX3) (T := TX3) (N := 4) hx hb hts hin3 hown hK hP 0 rfl rfl 0 (by decide) lk9 (fun _ h9 => h9) rfl dX3_add_11 ?_
    refine lv_aload_n hx hb dX3_add_14 rfl (lv_at hl 0 rfl) ?_
    refine va_get (D := X.1) (ci := 3) (v := .int (nI R.length)) (C := RX3) (T := TX3) (N := 4) hx hb hts hin3 hown hK hP 0 rfl rfl 3 (by decide) lk22 (fun _ h9 => h9) rfl dX3_add_15 ?_
    refine lv_iload_n hx hb dX3_add_18 rfl (lv_at hl 1 rfl) ?_
    have hi_1 : vp_in (nI R.length) 150 := vp_in_nI (by omega) (by omega)
    refine va_iast hx hb hK hP hD hS 1 0 rfl rfl hi_1 dX3_add_19 (fun H locs hP hD hS => ?_)
    rw [nI_clamp (by omega)] at hP hD
    have hP : va_P X.1 vwCl [(r, .inr (3, [.ref k, .ref v, .ref dd, .int (nI R.length)])), (k, .inl (X.2.1, 150, .inl (upd kf R.length (nI key)))), (v, .inl (X.2.1, 150, .inl vf))] H := hP
    have hD : va_D A_ [(r, .inr (3, [.ref k, .ref v, .ref dd, .int (nI R.length)])), (k, .inl (X.2.1, 150, .inl (upd kf R.length (nI key)))), (v, .inl (X.2.1, 150, .inl vf))] := hD
    refine lv_aload_n hx hb dX3_add_20 rfl (lv_at hl 0 rfl) ?_
    refine va_get (D := X.1) (ci := 3) (v := .ref v) (C := RX3) (T := TX3) (N := 4) hx hb hts hin3 hown hK hP 0 rfl rfl 1 (by decide) lk15 (fun _ h9 => h9) rfl dX3_add_21 ?_
    refine lv_aload_n hx hb dX3_add_24 rfl (lv_at hl 0 rfl) ?_
    refine va_get (D := X.1) (ci := 3) (v := .int (nI R.length)) (C := RX3) (T := TX3) (N := 4) hx hb hts hin3 hown hK hP 0 rfl rfl 3 (by decide) lk22 (fun _ h9 => h9) rfl dX3_add_25 ?_
    refine lv_iload_n hx hb dX3_add_28 rfl (lv_at hl 2 rfl) ?_
    have hi_2 : vp_in (nI R.length) 150 := vp_in_nI (by omega) (by omega)
    refine va_iast hx hb hK hP hD hS 2 0 rfl rfl hi_2 dX3_add_29 (fun H locs hP hD hS => ?_)
    rw [nI_clamp (by omega)] at hP hD
    have hP : va_P X.1 vwCl [(r, .inr (3, [.ref k, .ref v, .ref dd, .int (nI R.length)])), (k, .inl (X.2.1, 150, .inl (upd kf R.length (nI key)))), (v, .inl (X.2.1, 150, .inl (upd vf R.length x)))] H := hP
    have hD : va_D A_ [(r, .inr (3, [.ref k, .ref v, .ref dd, .int (nI R.length)])), (k, .inl (X.2.1, 150, .inl (upd kf R.length (nI key)))), (v, .inl (X.2.1, 150, .inl (upd vf R.length x)))] := hD
    refine lv_aload_n hx hb dX3_add_30 rfl (lv_at hl 0 rfl) ?_
    refine lv_dup hx hb dX3_add_31 rfl ?_
    refine va_get (D := X.1) (ci := 3) (v := .int (nI R.length)) (C := RX3) (T := TX3) (N := 4) hx hb hts hin3 hown hK hP 0 rfl rfl 3 (by decide) lk22 (fun _ h9 => h9) rfl dX3_add_32 ?_
    refine lv_iconst (v := nI 1) hx hb dX3_add_35 (by decide) ?_
    refine lv_iadd hx hb dX3_add_36 ?_
    refine lv_topi (fun x_3 ex_3 => ?_)
    obtain rfl : x_3 = nI (R.length + 1) := by
      rw [ex_3]
      exact nI_add _ _
    refine va_put (D := X.1) (ci := 3) (v := .int (nI (R.length + 1))) (ty := .int) (C := RX3) (T := TX3) (N := 4) hx hb hts hin3 tyX3 tyX3_ok nmX3 hown hK hP hD hS 0 rfl rfl 3 (by decide) lk22 (fun _ h9 => h9) rfl (by decide +kernel) rfl rfl (Nat.le_of_ble_eq_true rfl) dX3_add_37 (fun H locs hP hD hS => ?_)
    have hP : va_P X.1 vwCl [(r, .inr (3, [.ref k, .ref v, .ref dd, .int (nI (R.length + 1))])), (k, .inl (X.2.1, 150, .inl (upd kf R.length (nI key)))), (v, .inl (X.2.1, 150, .inl (upd vf R.length x)))] H := hP
    have hD : va_D A_ [(r, .inr (3, [.ref k, .ref v, .ref dd, .int (nI (R.length + 1))])), (k, .inl (X.2.1, 150, .inl (upd kf R.length (nI key)))), (v, .inl (X.2.1, 150, .inl (upd vf R.length x)))] := hD
    rw [← (rs_add (x := x) h hk c_7).2] at hP
    refine wM hQ ?_
    exact rtV (upd kf R.length (nI key), upd vf R.length x) hx hb hr hlocks hP hS ((rs_add h hk c_7).1) dX3_add_40
end
section
/-! Tree: lowBitsOf, factOf, gather: contracts, laid by program (wip/gen/spec_tree.py) -/
set_option maxHeartbeats 4000000 in
set_option maxRecDepth 100000 in
theorem c_X4_lowBitsOf (l : Launch) (X : kX) (t p k v fa oa bk b N nn dd : Nat) (f_mo : Int32) (w fr to_ : Nat) (kf vf o : Nat → Int32) (L : PL) (A S B : List Nat) (h : ptOk kf vf L) (ho : oOk o (A ++ S ++ B) L.length) (hln : (A ++ S ++ B).length ≤ 512) (hfr : fr = A.length) (hto : to_ = A.length + S.length) : CRi l X yX4_lowBitsOf wsX4_lowBitsOf 0 [.ref t, .int (nI fr), .int (nI to_)] [(t, .inr (4, [.ref p, .int (nI bk), .int (nI b), .int (nI N), .ref fa, .ref oa, .int (nI nn), .int (nI dd), .int f_mo])), (p, .inr (2, [.ref k, .ref v, .int (nI L.length), .int (nI w)])), (v, .inl (X.2.1, 512, .inl vf)), (oa, .inl (X.2.1, 512, .inl o))] (fun r => r = nI (low (ps L S))) := by
  refine Met.ofW (cc := cX4_lowBitsOf) (maxL := 5) (ret := some (.int)) (by decide) rfl ?_
  intro pz ez sz mz args below meth cz s₁ Bz hml hv
  obtain ⟨rfl, hP, hK, hD0, hN⟩ := hv
  have hx := Bz.exec
  have hb := Bz.bytes
  have hr := Bz.returns
  have hts := atoms_spec (ws := wsX4_lowBitsOf) Bz.pre
  have hown : sz.vm.findClass RX4 = some mz.cls := findClass_of_methodNamed Bz.named
  have hlocks := Bz.notSynchronized
  have hD := inW.self hD0
  have hS : va_S (inW [(t, .inr (4, [.ref p, .int (nI bk), .int (nI b), .int (nI N), .ref fa, .ref oa, .int (nI nn), .int (nI dd), .int f_mo])), (p, .inr (2, [.ref k, .ref v, .int (nI L.length), .int (nI w)])), (v, .inl (X.2.1, 512, .inl vf)), (oa, .inl (X.2.1, 512, .inl o))]) sz.heap sz.heap [] := va_S.rf
  have hl := lv_entry ([.ref t, .int (nI fr), .int (nI to_)]) (n := 5) (Nat.le_of_ble_eq_true rfl)
  rw [lg_entry_eq]
  generalize (lg_sl ([.ref t, .int (nI fr), .int (nI to_)]) ++ List.replicate (5 - (lg_sl ([.ref t, .int (nI fr), .int (nI to_)])).length) Slot.unset).toArray = ls at hl ⊢
  have hl : lv_has ls 5 [(0, .ref t), (1, .int (nI fr)), (2, .int (nI to_))] := hl
  have lk9 := hts (.fieldLink RX4 9 "PointStore$Tree" "order" "[I") (by decide +kernel)
  have lk25 := hts (.fieldLink RX4 25 "PointStore$Tree" "points" "LPointStore$Points;") (by decide +kernel)
  have lk73 := hts (.fieldLink RX4 73 "PointStore$Points" "values" "[I") (by decide +kernel)
  have hin2 : ∀ w ∈ u_ws RX2 TX2 4, w ∈ wsX4_lowBitsOf := by decide +kernel
  have hin4 : ∀ w ∈ u_ws RX4 TX4 9, w ∈ wsX4_lowBitsOf := by decide +kernel
  refine wQ (fun Q hQ => ?_)
  generalize hAe : inW [(t, .inr (4, [.ref p, .int (nI bk), .int (nI b), .int (nI N), .ref fa, .ref oa, .int (nI nn), .int (nI dd), .int f_mo])), (p, .inr (2, [.ref k, .ref v, .int (nI L.length), .int (nI w)])), (v, .inl (X.2.1, 512, .inl vf)), (oa, .inl (X.2.1, 512, .inl o))] = A_ at hD hS
  subst hfr
  subst hto
  have hL := h.1
  simp only [List.length_append] at hln
  refine lv_iconst (v := nI 0) hx hb dX4_lowBitsOf_0 (by decide) ?_
  refine lv_istore_n (lv' := [(3, .int (nI 0)), (0, .ref t), (1, .int (nI A.length)), (2, .int (nI (A.length + S.length)))]) hx hb dX4_lowBitsOf_1 rfl hl (by decide) rfl (fun ls hl => ?_)
  refine lv_iload_n hx hb dX4_lowBitsOf_2 rfl (lv_at hl 2 rfl) ?_
  refine lv_istore (lv' := [(4, .int (nI A.length)), (3, .int (nI 0)), (0, .ref t), (1, .int (nI A.length)), (2, .int (nI (A.length + S.length)))]) hx hb dX4_lowBitsOf_3 hl (by decide) rfl (fun ls hl => ?_)
  have loop_5 : ∀ (fu : Nat) (j : Nat), (j ≤ S.length) → S.length - j < fu → ∀ (ls : Array Slot), lv_has ls 5 [(0, .ref t), (2, .int (nI (A.length + S.length))), (3, .int (nI (low (ps L (S.take j))))), (4, .int (nI (A.length + j)))] → W pz l ez (headSpec wsX4_lowBitsOf (rmk 0)).room sz mz ([.ref t, .int (nI A.length), .int (nI (A.length + S.length))].toArray) below meth cz sz.heap [] 0 0 Q (F0 mz 5 ls []) := by
    intro fu
    induction fu with
    | zero => intro j h1 hfu; exact absurd hfu (Nat.not_lt_zero _)
    | succ fu ih =>
      intro j h1 hfu ls hl
      have hoj := fun q => ho.at (get_mid (A := A) (B := B) (S := S) (j := j) q)
      refine lv_iload hx hb dX4_lowBitsOf_5 (lv_at hl 3 rfl) ?_
      refine lv_iload_n hx hb dX4_lowBitsOf_7 rfl (lv_at hl 1 rfl) ?_
      refine lv_icmp_ge (tgt := 38) hx hb dX4_lowBitsOf_8 (by decide) (fun c_8 => ?_) (fun c_8 => ?_)
      · replace c_8 : (A.length + S.length) ≤ (A.length + j) := (nI_leI (by omega) (by omega)).mp c_8
        refine lv_iload_n hx hb dX4_lowBitsOf_38 rfl (lv_at hl 2 rfl) ?_
        refine wM hQ ?_
        exact rtRI hx hb hr hlocks ((by show nI _ = nI _; rw [show j = S.length from by omega, List.take_length])) dX4_lowBitsOf_39
      · replace c_8 : ¬ (A.length + S.length) ≤ (A.length + j) := fun h9 => c_8 ((nI_leI (by omega) (by omega)).mpr h9)
        refine lv_iload_n hx hb dX4_lowBitsOf_11 rfl (lv_at hl 2 rfl) ?_
        refine lv_aload_n hx hb dX4_lowBitsOf_12 rfl (lv_at hl 0 rfl) ?_
        refine va_get (D := X.1) (ci := 4) (v := .ref p) (C := RX4) (T := TX4) (N := 9) hx hb hts hin4 hown hK hP 0 rfl rfl 0 (by decide) lk25 (fun _ h9 => h9) rfl dX4_lowBitsOf_13 ?_
        refine va_get (D := X.1) (ci := 2) (v := .ref v) (C := RX2) (T := TX2) (N := 4) hx hb hts hin2 hown hK hP 1 rfl rfl 1 (by decide) lk73 (fun _ h9 => h9) rfl dX4_lowBitsOf_16 ?_
        refine lv_aload_n hx hb dX4_lowBitsOf_19 rfl (lv_at hl 0 rfl) ?_
        refine va_get (D := X.1) (ci := 4) (v := .ref oa) (C := RX4) (T := TX4) (N := 9) hx hb hts hin4 hown hK hP 0 rfl rfl 5 (by decide) lk9 (fun _ h9 => h9) rfl dX4_lowBitsOf_20 ?_
        refine lv_iload hx hb dX4_lowBitsOf_23 (lv_at hl 3 rfl) ?_
        have hi_1 : vp_in (nI (A.length + j)) 512 := vp_in_nI (by omega) (by omega)
        refine va_iald hx hb hK hP 3 0 rfl rfl hi_1 dX4_lowBitsOf_25 ?_
        refine lv_topi (fun x_2 ex_2 => ?_)
        obtain rfl : x_2 = o (A.length + j) := by
          rw [ex_2]
          rw [nI_clamp (by omega)]
        refine lv_topi (fun x_3 ex_3 => ?_)
        obtain rfl : x_3 = nI (S.getD j 0) := by
          rw [ex_3]
          exact (hoj (by omega)).1
        have hob := (hoj (by omega)).2
        have hi_4 : vp_in (nI (S.getD j 0)) 512 := vp_in_nI (by omega) (by omega)
        refine va_iald hx hb hK hP 2 0 rfl rfl hi_4 dX4_lowBitsOf_26 ?_
        refine lv_topi (fun x_5 ex_5 => ?_)
        obtain rfl : x_5 = vf (S.getD j 0) := by
          rw [ex_5]
          rw [nI_clamp (by omega)]
        refine lv_topi (fun x_6 ex_6 => ?_)
        obtain rfl : x_6 = nI (pV L (S.getD j 0)) := by
          rw [ex_6]
          exact h.v (hoj (by omega)).2
        refine lv_ldc (v := 65535) hx hb hown (hts (.constant RX4 76 (65535)) (by decide +kernel)) dX4_lowBitsOf_27 ?_
        refine lv_topi (fun x_7 ex_7 => ?_)
        obtain rfl : x_7 = nI 65535 := by
          rw [ex_7]
          rfl
        have hvb := h.vb (hoj (by omega)).2
        refine lv_iand hx hb dX4_lowBitsOf_29 ?_
        refine lv_topi (fun x_8 ex_8 => ?_)
        obtain rfl : x_8 = nI (pV L (S.getD j 0) % 65536) := by
          rw [ex_8]
          exact pk_andN (by omega) 16 (by decide)
        refine lv_iadd hx hb dX4_lowBitsOf_30 ?_
        refine lv_topi (fun x_9 ex_9 => ?_)
        obtain rfl : x_9 = nI ((low (ps L (S.take j))) + (pV L (S.getD j 0) % 65536)) := by
          rw [ex_9]
          exact nI_add _ _
        refine lv_istore_n (lv' := [(3, .int (nI ((low (ps L (S.take j))) + (pV L (S.getD j 0) % 65536)))), (0, .ref t), (2, .int (nI (A.length + S.length))), (4, .int (nI (A.length + j)))]) hx hb dX4_lowBitsOf_31 rfl hl (by decide) rfl (fun ls hl => ?_)
        refine lv_iinc (v := nI (A.length + j + 1)) (lv' := [(4, .int (nI (A.length + j + 1))), (3, .int (nI ((low (ps L (S.take j))) + (pV L (S.getD j 0) % 65536)))), (0, .ref t), (2, .int (nI (A.length + S.length)))]) hx hb dX4_lowBitsOf_32 hl (k := 3) rfl (by rw [show Int32.ofInt 1 = nI 1 from by decide]; exact nI_add _ _) (by decide) rfl (fun ls hl => ?_)
        refine lv_goto (tgt := 5) hx hb dX4_lowBitsOf_35 (by decide) ?_
        rw [← low_take (by omega)] at hl
        have hl : lv_has ls 5 [(4, .int (nI (A.length + j + 1))), (3, .int (nI (low (ps L (S.take (j + 1)))))), (0, .ref t), (2, .int (nI (A.length + S.length)))] := hl
        exact ih (j + 1) (by omega) (by omega) ls (lv_sub hl [2, 3, 1, 0] rfl)
  exact loop_5 _ 0 (by omega) (Nat.lt_succ_self _) ls (lv_sub hl [2, 4, 1, 0] rfl)
set_option maxHeartbeats 4000000 in
set_option maxRecDepth 100000 in
theorem c_X4_factOf (l : Launch) (X : kX) (t p k v fa oa bk b N nn dd : Nat) (f_mo : Int32) (ff : Nat → Int32) (x y : Int32) (F : List Nd) (hF : fOk ff F) (hN : F.length ≤ N) (hN2 : N ≤ 401) (hnn : nn = F.length) : CRi l X yX4_factOf wsX4_factOf 0 [.ref t, .int x, .int y] [(t, .inr (4, [.ref p, .int (nI bk), .int (nI b), .int (nI N), .ref fa, .ref oa, .int (nI nn), .int (nI dd), .int f_mo])), (fa, .inl (X.2.1, 6 * N, .inl ff))] (fun r => r = fct F x y) := by
  refine Met.ofW (cc := cX4_factOf) (maxL := 3) (ret := some (.int)) (by decide) rfl ?_
  intro pz ez sz mz args below meth cz s₁ Bz hml hv
  obtain ⟨rfl, hP, hK, hD0, hN⟩ := hv
  have hx := Bz.exec
  have hb := Bz.bytes
  have hr := Bz.returns
  have hts := atoms_spec (ws := wsX4_factOf) Bz.pre
  have hown : sz.vm.findClass RX4 = some mz.cls := findClass_of_methodNamed Bz.named
  have hlocks := Bz.notSynchronized
  have hD := inW.self hD0
  have hS : va_S (inW [(t, .inr (4, [.ref p, .int (nI bk), .int (nI b), .int (nI N), .ref fa, .ref oa, .int (nI nn), .int (nI dd), .int f_mo])), (fa, .inl (X.2.1, 6 * N, .inl ff))]) sz.heap sz.heap [] := va_S.rf
  have hl := lv_entry ([.ref t, .int x, .int y]) (n := 3) (Nat.le_of_ble_eq_true rfl)
  rw [lg_entry_eq]
  generalize (lg_sl ([.ref t, .int x, .int y]) ++ List.replicate (3 - (lg_sl ([.ref t, .int x, .int y])).length) Slot.unset).toArray = ls at hl ⊢
  have hl : lv_has ls 3 [(0, .ref t), (1, .int x), (2, .int y)] := hl
  have lk15 := hts (.fieldLink RX4 15 "PointStore$Tree" "nodes" "I") (by decide +kernel)
  have lk38 := hts (.fieldLink RX4 38 "PointStore$Tree" "facts" "[I") (by decide +kernel)
  have hin4 : ∀ w ∈ u_ws RX4 TX4 9, w ∈ wsX4_factOf := by decide +kernel
  refine wQ (fun Q hQ => ?_)
  generalize hAe : inW [(t, .inr (4, [.ref p, .int (nI bk), .int (nI b), .int (nI N), .ref fa, .ref oa, .int (nI nn), .int (nI dd), .int f_mo])), (fa, .inl (X.2.1, 6 * N, .inl ff))] = A_ at hD hS
  subst hnn
  refine lv_iload_n hx hb dX4_factOf_0 rfl (lv_at hl 1 rfl) ?_
  refine lv_if_lt (tgt := 22) hx hb dX4_factOf_1 (by decide) (fun c_1 => ?_) (fun c_1 => ?_)
  · skip
    refine lv_iconst (v := (-1)) hx hb dX4_factOf_22 (by decide) ?_
    refine wM hQ ?_
    exact rtRI hx hb hr hlocks ((by show _ = _; unfold fct; exact (if_neg (fun z => by first | exact z.1 c_1 | exact z.2.1 c_9 | exact z.2.2.1 c_13 | exact c_19 z.2.2.2)).symm)) dX4_factOf_23
  · skip
    refine lv_iload_n hx hb dX4_factOf_4 rfl (lv_at hl 1 rfl) ?_
    refine lv_aload_n hx hb dX4_factOf_5 rfl (lv_at hl 0 rfl) ?_
    refine va_get (D := X.1) (ci := 4) (v := .int (nI F.length)) (C := RX4) (T := TX4) (N := 9) hx hb hts hin4 hown hK hP 0 rfl rfl 6 (by decide) lk15 (fun _ h9 => h9) rfl dX4_factOf_6 ?_
    refine lv_icmp_ge (tgt := 22) hx hb dX4_factOf_9 (by decide) (fun c_9 => ?_) (fun c_9 => ?_)
    · skip
      refine lv_iconst (v := (-1)) hx hb dX4_factOf_22 (by decide) ?_
      refine wM hQ ?_
      exact rtRI hx hb hr hlocks ((by show _ = _; unfold fct; exact (if_neg (fun z => by first | exact z.1 c_1 | exact z.2.1 c_9 | exact z.2.2.1 c_13 | exact c_19 z.2.2.2)).symm)) dX4_factOf_23
    · skip
      refine lv_iload_n hx hb dX4_factOf_12 rfl (lv_at hl 2 rfl) ?_
      refine lv_if_lt (tgt := 22) hx hb dX4_factOf_13 (by decide) (fun c_13 => ?_) (fun c_13 => ?_)
      · skip
        refine lv_iconst (v := (-1)) hx hb dX4_factOf_22 (by decide) ?_
        refine wM hQ ?_
        exact rtRI hx hb hr hlocks ((by show _ = _; unfold fct; exact (if_neg (fun z => by first | exact z.1 c_1 | exact z.2.1 c_9 | exact z.2.2.1 c_13 | exact c_19 z.2.2.2)).symm)) dX4_factOf_23
      · skip
        refine lv_iload_n hx hb dX4_factOf_16 rfl (lv_at hl 2 rfl) ?_
        refine lv_bipush (v := nI 6) hx hb dX4_factOf_17 (by decide) ?_
        refine lv_icmp_lt (tgt := 24) hx hb dX4_factOf_19 (by decide) (fun c_19 => ?_) (fun c_19 => ?_)
        · skip
          obtain ⟨j, hj, rfl⟩ := nI_of c_1
          obtain ⟨z, hz, rfl⟩ := nI_of c_13
          have hj2 : j < F.length := by
            rcases Nat.lt_or_ge j F.length with q | q
            · exact q
            · exact absurd (nI_le q hj) c_9
          have hz2 : z < 6 := (nI_ltI (by omega) (by omega)).mp c_19
          · skip
            refine lv_aload_n hx hb dX4_factOf_24 rfl (lv_at hl 0 rfl) ?_
            refine va_get (D := X.1) (ci := 4) (v := .ref fa) (C := RX4) (T := TX4) (N := 9) hx hb hts hin4 hown hK hP 0 rfl rfl 4 (by decide) lk38 (fun _ h9 => h9) rfl dX4_factOf_25 ?_
            refine lv_iload_n hx hb dX4_factOf_28 rfl (lv_at hl 1 rfl) ?_
            refine lv_bipush (v := nI 6) hx hb dX4_factOf_29 (by decide) ?_
            refine lv_imul hx hb dX4_factOf_31 ?_
            refine lv_topi (fun x_1 ex_1 => ?_)
            obtain rfl : x_1 = nI (j * 6) := by
              rw [ex_1]
              exact pk_mul _ _
            refine lv_iload_n hx hb dX4_factOf_32 rfl (lv_at hl 2 rfl) ?_
            refine lv_iadd hx hb dX4_factOf_33 ?_
            refine lv_topi (fun x_2 ex_2 => ?_)
            obtain rfl : x_2 = nI ((j * 6) + z) := by
              rw [ex_2]
              exact nI_add _ _
            have hi_3 : vp_in (nI ((j * 6) + z)) (6 * N) := vp_in_nI (by omega) (by omega)
            refine va_iald hx hb hK hP 1 0 rfl rfl hi_3 dX4_factOf_34 ?_
            refine lv_topi (fun x_4 ex_4 => ?_)
            obtain rfl : x_4 = ff ((j * 6) + z) := by
              rw [ex_4]
              rw [nI_clamp (by omega)]
            refine wM hQ ?_
            exact rtRI hx hb hr hlocks ((by show _ = _; unfold fct; rw [if_pos ⟨c_1, c_9, c_13, c_19⟩, nI_clamp hj, nI_clamp hz]; exact fOk_ndv hF hj2 hz2)) dX4_factOf_35
        · skip
          refine lv_iconst (v := (-1)) hx hb dX4_factOf_22 (by decide) ?_
          refine wM hQ ?_
          exact rtRI hx hb hr hlocks ((by show _ = _; unfold fct; exact (if_neg (fun z => by first | exact z.1 c_1 | exact z.2.1 c_9 | exact z.2.2.1 c_13 | exact c_19 z.2.2.2)).symm)) dX4_factOf_23
set_option maxHeartbeats 4000000 in
set_option maxRecDepth 100000 in
theorem c_X4_gather (l : Launch) (X : kX) (t p k v fa oa bk b N nn dd : Nat) (f_mo : Int32) (w fr to_ x y sd : Nat) (kf vf o : Nat → Int32) (L : PL) (A S B : List Nat) (h : ptOk kf vf L) (ho : oOk o (A ++ S ++ B) L.length) (hln : (A ++ S ++ B).length ≤ 512) (hsd : 0 < sd) (hx0 : x + sd ≤ 32768) (hy0 : y + sd ≤ 32768) (hfr : fr = A.length) (hto : to_ = A.length + S.length) : CWi l X yX4_gather wsX4_gather 2 [.ref t, .int (nI fr), .int (nI to_), .int (nI x), .int (nI y), .int (nI sd)] [(t, .inr (4, [.ref p, .int (nI bk), .int (nI b), .int (nI N), .ref fa, .ref oa, .int (nI nn), .int (nI dd), .int f_mo])), (p, .inr (2, [.ref k, .ref v, .int (nI L.length), .int (nI w)])), (k, .inl (X.2.1, 512, .inl kf)), (oa, .inl (X.2.1, 512, .inl o))] (S := (Nat → Int32) × List Nat) (fun r u => r = nI (A.length + (S.filter (inS L x y sd)).length) ∧ oOk u.1 (A ++ S.filter (inS L x y sd) ++ u.2 ++ B) L.length ∧ u.2.Perm (S.filter (fun i => !inS L x y sd i))) (fun ⟨o2, R2⟩ => [(t, .inr (4, [.ref p, .int (nI bk), .int (nI b), .int (nI N), .ref fa, .ref oa, .int (nI nn), .int (nI dd), .int f_mo])), (p, .inr (2, [.ref k, .ref v, .int (nI L.length), .int (nI w)])), (k, .inl (X.2.1, 512, .inl kf)), (oa, .inl (X.2.1, 512, .inl o2))]) := by
  refine Met.ofW (cc := cX4_gather) (maxL := 9) (ret := some (.int)) (by decide) rfl ?_
  intro pz ez sz mz args below meth cz s₁ Bz hml hv
  obtain ⟨rfl, hP, hK, hD0, hN⟩ := hv
  have hx := Bz.exec
  have hb := Bz.bytes
  have hr := Bz.returns
  have hts := atoms_spec (ws := wsX4_gather) Bz.pre
  have hown : sz.vm.findClass RX4 = some mz.cls := findClass_of_methodNamed Bz.named
  have hlocks := Bz.notSynchronized
  have hD := inW.self hD0
  have hS : va_S (inW [(t, .inr (4, [.ref p, .int (nI bk), .int (nI b), .int (nI N), .ref fa, .ref oa, .int (nI nn), .int (nI dd), .int f_mo])), (p, .inr (2, [.ref k, .ref v, .int (nI L.length), .int (nI w)])), (k, .inl (X.2.1, 512, .inl kf)), (oa, .inl (X.2.1, 512, .inl o))]) sz.heap sz.heap [] := va_S.rf
  have hl := lv_entry ([.ref t, .int (nI fr), .int (nI to_), .int (nI x), .int (nI y), .int (nI sd)]) (n := 9) (Nat.le_of_ble_eq_true rfl)
  rw [lg_entry_eq]
  generalize (lg_sl ([.ref t, .int (nI fr), .int (nI to_), .int (nI x), .int (nI y), .int (nI sd)]) ++ List.replicate (9 - (lg_sl ([.ref t, .int (nI fr), .int (nI to_), .int (nI x), .int (nI y), .int (nI sd)])).length) Slot.unset).toArray = ls at hl ⊢
  have hl : lv_has ls 9 [(0, .ref t), (1, .int (nI fr)), (2, .int (nI to_)), (3, .int (nI x)), (4, .int (nI y)), (5, .int (nI sd))] := hl
  have lk9 := hts (.fieldLink RX4 9 "PointStore$Tree" "order" "[I") (by decide +kernel)
  have lk25 := hts (.fieldLink RX4 25 "PointStore$Tree" "points" "LPointStore$Points;") (by decide +kernel)
  have lk66 := hts (.fieldLink RX4 66 "PointStore$Points" "keys" "[I") (by decide +kernel)
  have hin2 : ∀ w ∈ u_ws RX2 TX2 4, w ∈ wsX4_gather := by decide +kernel
  have hin4 : ∀ w ∈ u_ws RX4 TX4 9, w ∈ wsX4_gather := by decide +kernel
  refine wQ (fun Q hQ => ?_)
  generalize hAe : inW [(t, .inr (4, [.ref p, .int (nI bk), .int (nI b), .int (nI N), .ref fa, .ref oa, .int (nI nn), .int (nI dd), .int f_mo])), (p, .inr (2, [.ref k, .ref v, .int (nI L.length), .int (nI w)])), (k, .inl (X.2.1, 512, .inl kf)), (oa, .inl (X.2.1, 512, .inl o))] = A_ at hD hS hQ
  subst hfr
  subst hto
  have hL := h.1
  simp only [List.length_append] at hln
  refine lv_iload_n hx hb dX4_gather_0 rfl (lv_at hl 1 rfl) ?_
  refine lv_istore (lv' := [(6, .int (nI A.length)), (0, .ref t), (1, .int (nI A.length)), (2, .int (nI (A.length + S.length))), (3, .int (nI x)), (4, .int (nI y)), (5, .int (nI sd))]) hx hb dX4_gather_1 hl (by decide) rfl (fun ls hl => ?_)
  refine lv_iload_n hx hb dX4_gather_3 rfl (lv_at hl 2 rfl) ?_
  refine lv_istore (lv' := [(7, .int (nI A.length)), (6, .int (nI A.length)), (0, .ref t), (1, .int (nI A.length)), (2, .int (nI (A.length + S.length))), (3, .int (nI x)), (4, .int (nI y)), (5, .int (nI sd))]) hx hb dX4_gather_4 hl (by decide) rfl (fun ls hl => ?_)
  have loop_6 : ∀ (fu : Nat) (j : Nat) (o1 : Nat → Int32) (O1 : List Nat), (j ≤ S.length) → (oOk o1 (A ++ (S.take j).filter (inS L x y sd) ++ O1 ++ S.drop j ++ B) L.length) → (O1.Perm ((S.take j).filter (fun i => !inS L x y sd i))) → (((S.take j).filter (inS L x y sd)).length + O1.length = j) → S.length - j < fu → ∀ (H : Heap) (locs : List Loc), va_P X.1 vwCl [(t, .inr (4, [.ref p, .int (nI bk), .int (nI b), .int (nI N), .ref fa, .ref oa, .int (nI nn), .int (nI dd), .int f_mo])), (p, .inr (2, [.ref k, .ref v, .int (nI L.length), .int (nI w)])), (k, .inl (X.2.1, 512, .inl kf)), (oa, .inl (X.2.1, 512, .inl o1))] H → va_D A_ [(t, .inr (4, [.ref p, .int (nI bk), .int (nI b), .int (nI N), .ref fa, .ref oa, .int (nI nn), .int (nI dd), .int f_mo])), (p, .inr (2, [.ref k, .ref v, .int (nI L.length), .int (nI w)])), (k, .inl (X.2.1, 512, .inl kf)), (oa, .inl (X.2.1, 512, .inl o1))] → va_S A_ sz.heap H locs → ∀ (ls : Array Slot), lv_has ls 9 [(0, .ref t), (2, .int (nI (A.length + S.length))), (3, .int (nI x)), (4, .int (nI y)), (5, .int (nI sd)), (6, .int (nI (A.length + ((S.take j).filter (inS L x y sd)).length))), (7, .int (nI (A.length + j)))] → W pz l ez (headSpec wsX4_gather (rmk 2)).room sz mz ([.ref t, .int (nI A.length), .int (nI (A.length + S.length)), .int (nI x), .int (nI y), .int (nI sd)].toArray) below meth cz H locs 0 0 Q (F0 mz 6 ls []) := by
    intro fu
    induction fu with
    | zero => intro j o1 O1 h1 h2 hO hlen hfu; exact absurd hfu (Nat.not_lt_zero _)
    | succ fu ih =>
      intro j o1 O1 h1 h2 hO hlen hfu H locs hP hD hS ls hl
      refine lv_iload hx hb dX4_gather_6 (lv_at hl 6 rfl) ?_
      refine lv_iload_n hx hb dX4_gather_8 rfl (lv_at hl 1 rfl) ?_
      refine lv_icmp_ge (tgt := 85) hx hb dX4_gather_9 (by decide) (fun c_9 => ?_) (fun c_9 => ?_)
      · replace c_9 : (A.length + S.length) ≤ (A.length + j) := (nI_leI (by omega) (by omega)).mp c_9
        refine lv_iload hx hb dX4_gather_85 (lv_at hl 5 rfl) ?_
        obtain rfl : j = S.length := by omega
        rw [List.take_length] at h2 hO
        rw [List.drop_length] at h2
        refine wM hQ ?_
        exact rtI (o1, O1) hx hb hr hlocks hP hS (⟨by rw [List.take_length], by simpa using h2, hO⟩) dX4_gather_87
      · replace c_9 : ¬ (A.length + S.length) ≤ (A.length + j) := fun h9 => c_9 ((nI_leI (by omega) (by omega)).mpr h9)
        have hj : j < S.length := by omega
        have hdr : S.drop j = S.getD j 0 :: S.drop (j + 1) := by
          rw [List.drop_eq_getElem_cons hj]; simp [hj]
        have htk : S.take (j + 1) = S.take j ++ [S.getD j 0] := by rw [List.take_succ]; simp [hj]
        have hat := h2.at (i := A.length + j) (a := S.getD j 0) (by
          have e9 := get_mid (A := A ++ (S.take j).filter (inS L x y sd) ++ O1) (S := S.drop j) (B := B) (j := 0) (by simp; omega)
          rw [show (A ++ (S.take j).filter (inS L x y sd) ++ O1).length + 0 = A.length + j from by simp; omega] at e9
          rw [e9, hdr]; rfl)
        have hkb := h.kb hat.2
        refine lv_aload_n hx hb dX4_gather_12 rfl (lv_at hl 0 rfl) ?_
        refine va_get (D := X.1) (ci := 4) (v := .ref oa) (C := RX4) (T := TX4) (N := 9) hx hb hts hin4 hown hK hP 0 rfl rfl 5 (by decide) lk9 (fun _ h9 => h9) rfl dX4_gather_13 ?_
        refine lv_iload hx hb dX4_gather_16 (lv_at hl 6 rfl) ?_
        have hi_1 : vp_in (nI (A.length + j)) 512 := vp_in_nI (by omega) (by omega)
        refine va_iald hx hb hK hP 3 0 rfl rfl hi_1 dX4_gather_18 ?_
        refine lv_topi (fun x_2 ex_2 => ?_)
        obtain rfl : x_2 = o1 (A.length + j) := by
          rw [ex_2]
          rw [nI_clamp (by omega)]
        refine lv_topi (fun x_3 ex_3 => ?_)
        obtain rfl : x_3 = nI (S.getD j 0) := by
          rw [ex_3]
          exact hat.1
        refine lv_istore (lv' := [(8, .int (nI (S.getD j 0))), (0, .ref t), (2, .int (nI (A.length + S.length))), (3, .int (nI x)), (4, .int (nI y)), (5, .int (nI sd)), (6, .int (nI (A.length + ((S.take j).filter (inS L x y sd)).length))), (7, .int (nI (A.length + j)))]) hx hb dX4_gather_19 hl (by decide) rfl (fun ls hl => ?_)
        refine lv_aload_n hx hb dX4_gather_21 rfl (lv_at hl 1 rfl) ?_
        refine va_get (D := X.1) (ci := 4) (v := .ref p) (C := RX4) (T := TX4) (N := 9) hx hb hts hin4 hown hK hP 0 rfl rfl 0 (by decide) lk25 (fun _ h9 => h9) rfl dX4_gather_22 ?_
        refine va_get (D := X.1) (ci := 2) (v := .ref k) (C := RX2) (T := TX2) (N := 4) hx hb hts hin2 hown hK hP 1 rfl rfl 0 (by decide) lk66 (fun _ h9 => h9) rfl dX4_gather_25 ?_
        refine lv_iload hx hb dX4_gather_28 (lv_at hl 0 rfl) ?_
        have hi_4 : vp_in (nI (S.getD j 0)) 512 := vp_in_nI (by omega) (by omega)
        refine va_iald hx hb hK hP 2 0 rfl rfl hi_4 dX4_gather_30 ?_
        refine lv_topi (fun x_5 ex_5 => ?_)
        obtain rfl : x_5 = kf (S.getD j 0) := by
          rw [ex_5]
          rw [nI_clamp (by omega)]
        refine lv_topi (fun x_6 ex_6 => ?_)
        obtain rfl : x_6 = nI (pK L (S.getD j 0)) := by
          rw [ex_6]
          exact h.k hat.2
        refine lv_iload_n hx hb dX4_gather_31 rfl (lv_at hl 3 rfl) ?_
        refine lv_iload hx hb dX4_gather_32 (lv_at hl 4 rfl) ?_
        refine lv_iload_n hx hb dX4_gather_34 rfl (lv_at hl 3 rfl) ?_
        refine lv_iload hx hb dX4_gather_35 (lv_at hl 5 rfl) ?_
        refine lv_iadd hx hb dX4_gather_37 ?_
        refine lv_topi (fun x_7 ex_7 => ?_)
        obtain rfl : x_7 = nI (x + sd) := by
          rw [ex_7]
          exact nI_add _ _
        refine lv_iconst (v := nI 1) hx hb dX4_gather_38 (by decide) ?_
        refine lv_isub hx hb dX4_gather_39 ?_
        refine lv_topi (fun x_8 ex_8 => ?_)
        obtain rfl : x_8 = nI ((x + sd) - 1) := by
          rw [ex_8]
          exact pk_sub (by omega)
        refine lv_iload hx hb dX4_gather_40 (lv_at hl 4 rfl) ?_
        refine lv_iload hx hb dX4_gather_42 (lv_at hl 5 rfl) ?_
        refine lv_iadd hx hb dX4_gather_44 ?_
        refine lv_topi (fun x_9 ex_9 => ?_)
        obtain rfl : x_9 = nI (y + sd) := by
          rw [ex_9]
          exact nI_add _ _
        refine lv_iconst (v := nI 1) hx hb dX4_gather_45 (by decide) ?_
        refine lv_isub hx hb dX4_gather_46 ?_
        refine lv_topi (fun x_10 ex_10 => ?_)
        obtain rfl : x_10 = nI ((y + sd) - 1) := by
          rw [ex_10]
          exact pk_sub (by omega)
        refine ckNRi (As := [.int (nI (pK L (S.getD j 0))), .int (nI x), .int (nI y), .int (nI ((x + sd) - 1)), .int (nI ((y + sd) - 1))]) (rest := []) [] (c_X5_isWithin l X (pK L (S.getD j 0)) (nI x) (nI y) (nI (x + sd - 1)) (nI (y + sd - 1)) hkb) ⟨hx, hb, hml, hown, hts⟩ ⟨va_cnB 5 hts gX4_gather_X5_isWithin_n69 rfl rfl rfl hN.2.2.2 (hts (.initialized RX5) (by decide +kernel)) (by decide +kernel) ⟨Nat.le_of_ble_eq_true rfl, Nat.le_of_ble_eq_true rfl⟩, hts (.static yX5_isWithin) (by decide +kernel), trivial⟩ hK hN hP hD (by decide) rfl rfl hl.1 rfl (Nat.le_of_ble_eq_true rfl) dX4_gather_47 ⟨Nat.zero_le _, Nat.zero_le _⟩ (fun r_11 hc_47 => ?_)
        rcases hc_47 with ⟨hc_47, rfl⟩ | ⟨hc_47, rfl⟩
        · skip
          have hin := (inS_win (L := L) (i := S.getD j 0) hsd hx0 hy0 hkb).mpr hc_47
          have hfi : (S.take (j + 1)).filter (inS L x y sd) = (S.take j).filter (inS L x y sd) ++ [S.getD j 0] := by rw [htk]; exact filt_in hin
          have hfo : (S.take (j + 1)).filter (fun i => !inS L x y sd i) = (S.take j).filter (fun i => !inS L x y sd i) := by rw [htk]; exact filt_out (f := fun i => !inS L x y sd i) (by show (!_) = false; rw [hin]; rfl)
          have h2s : oOk o1 ((A ++ (S.take j).filter (inS L x y sd)) ++ O1 ++ S.getD j 0 :: (S.drop (j + 1) ++ B)) L.length := by rw [hdr] at h2; simpa using h2
          obtain ⟨O2, hO2, ho2⟩ := o_swap h2s
          have ho2 : oOk (upd (upd o1 (A.length + j) (o1 (A.length + ((S.take j).filter (inS L x y sd)).length))) (A.length + ((S.take j).filter (inS L x y sd)).length) (nI (S.getD j 0))) (A ++ ((S.take j).filter (inS L x y sd) ++ [S.getD j 0]) ++ O2 ++ S.drop (j + 1) ++ B) L.length := by
            have e8 : (A ++ (S.take j).filter (inS L x y sd)).length + O1.length = A.length + j := by simp; omega
            have e7 : (A ++ (S.take j).filter (inS L x y sd)).length = A.length + ((S.take j).filter (inS L x y sd)).length := by simp
            rw [e8, e7] at ho2
            simpa using ho2
          refine lv_if_eq (tgt := 79) hx hb dX4_gather_50 (by decide) (fun c_50 => ?_) (fun c_50 => ?_)
          · exact absurd c_50 (by decide)
          · skip
            refine lv_aload_n hx hb dX4_gather_53 rfl (lv_at hl 1 rfl) ?_
            refine va_get (D := X.1) (ci := 4) (v := .ref oa) (C := RX4) (T := TX4) (N := 9) hx hb hts hin4 hown hK hP 0 rfl rfl 5 (by decide) lk9 (fun _ h9 => h9) rfl dX4_gather_54 ?_
            refine lv_iload hx hb dX4_gather_57 (lv_at hl 7 rfl) ?_
            refine lv_aload_n hx hb dX4_gather_59 rfl (lv_at hl 1 rfl) ?_
            refine va_get (D := X.1) (ci := 4) (v := .ref oa) (C := RX4) (T := TX4) (N := 9) hx hb hts hin4 hown hK hP 0 rfl rfl 5 (by decide) lk9 (fun _ h9 => h9) rfl dX4_gather_60 ?_
            refine lv_iload hx hb dX4_gather_63 (lv_at hl 6 rfl) ?_
            have hi_12 : vp_in (nI (A.length + ((S.take j).filter (inS L x y sd)).length)) 512 := vp_in_nI (by omega) (by omega)
            refine va_iald hx hb hK hP 3 0 rfl rfl hi_12 dX4_gather_65 ?_
            refine lv_topi (fun x_13 ex_13 => ?_)
            obtain rfl : x_13 = o1 (A.length + ((S.take j).filter (inS L x y sd)).length) := by
              rw [ex_13]
              rw [nI_clamp (by omega)]
            have hi_14 : vp_in (nI (A.length + j)) 512 := vp_in_nI (by omega) (by omega)
            refine va_iast hx hb hK hP hD hS 3 0 rfl rfl hi_14 dX4_gather_66 (fun H locs hP hD hS => ?_)
            rw [nI_clamp (by omega)] at hP hD
            have hP : va_P X.1 vwCl [(t, .inr (4, [.ref p, .int (nI bk), .int (nI b), .int (nI N), .ref fa, .ref oa, .int (nI nn), .int (nI dd), .int f_mo])), (p, .inr (2, [.ref k, .ref v, .int (nI L.length), .int (nI w)])), (k, .inl (X.2.1, 512, .inl kf)), (oa, .inl (X.2.1, 512, .inl (upd o1 (A.length + j) (o1 (A.length + ((S.take j).filter (inS L x y sd)).length)))))] H := hP
            have hD : va_D A_ [(t, .inr (4, [.ref p, .int (nI bk), .int (nI b), .int (nI N), .ref fa, .ref oa, .int (nI nn), .int (nI dd), .int f_mo])), (p, .inr (2, [.ref k, .ref v, .int (nI L.length), .int (nI w)])), (k, .inl (X.2.1, 512, .inl kf)), (oa, .inl (X.2.1, 512, .inl (upd o1 (A.length + j) (o1 (A.length + ((S.take j).filter (inS L x y sd)).length)))))] := hD
            refine lv_aload_n hx hb dX4_gather_67 rfl (lv_at hl 1 rfl) ?_
            refine va_get (D := X.1) (ci := 4) (v := .ref oa) (C := RX4) (T := TX4) (N := 9) hx hb hts hin4 hown hK hP 0 rfl rfl 5 (by decide) lk9 (fun _ h9 => h9) rfl dX4_gather_68 ?_
            refine lv_iload hx hb dX4_gather_71 (lv_at hl 6 rfl) ?_
            refine lv_iload hx hb dX4_gather_73 (lv_at hl 0 rfl) ?_
            have hi_15 : vp_in (nI (A.length + ((S.take j).filter (inS L x y sd)).length)) 512 := vp_in_nI (by omega) (by omega)
            refine va_iast hx hb hK hP hD hS 3 0 rfl rfl hi_15 dX4_gather_75 (fun H locs hP hD hS => ?_)
            rw [nI_clamp (by omega)] at hP hD
            have hP : va_P X.1 vwCl [(t, .inr (4, [.ref p, .int (nI bk), .int (nI b), .int (nI N), .ref fa, .ref oa, .int (nI nn), .int (nI dd), .int f_mo])), (p, .inr (2, [.ref k, .ref v, .int (nI L.length), .int (nI w)])), (k, .inl (X.2.1, 512, .inl kf)), (oa, .inl (X.2.1, 512, .inl (upd (upd o1 (A.length + j) (o1 (A.length + ((S.take j).filter (inS L x y sd)).length))) (A.length + ((S.take j).filter (inS L x y sd)).length) (nI (S.getD j 0)))))] H := hP
            have hD : va_D A_ [(t, .inr (4, [.ref p, .int (nI bk), .int (nI b), .int (nI N), .ref fa, .ref oa, .int (nI nn), .int (nI dd), .int f_mo])), (p, .inr (2, [.ref k, .ref v, .int (nI L.length), .int (nI w)])), (k, .inl (X.2.1, 512, .inl kf)), (oa, .inl (X.2.1, 512, .inl (upd (upd o1 (A.length + j) (o1 (A.length + ((S.take j).filter (inS L x y sd)).length))) (A.length + ((S.take j).filter (inS L x y sd)).length) (nI (S.getD j 0)))))] := hD
            refine lv_iinc (v := nI (A.length + ((S.take j).filter (inS L x y sd)).length + 1)) (lv' := [(6, .int (nI (A.length + ((S.take j).filter (inS L x y sd)).length + 1))), (8, .int (nI (S.getD j 0))), (0, .ref t), (2, .int (nI (A.length + S.length))), (3, .int (nI x)), (4, .int (nI y)), (5, .int (nI sd)), (7, .int (nI (A.length + j)))]) hx hb dX4_gather_76 hl (k := 6) rfl (by rw [show Int32.ofInt 1 = nI 1 from by decide]; exact nI_add _ _) (by decide) rfl (fun ls hl => ?_)
            refine lv_iinc (v := nI (A.length + j + 1)) (lv' := [(7, .int (nI (A.length + j + 1))), (6, .int (nI (A.length + ((S.take j).filter (inS L x y sd)).length + 1))), (8, .int (nI (S.getD j 0))), (0, .ref t), (2, .int (nI (A.length + S.length))), (3, .int (nI x)), (4, .int (nI y)), (5, .int (nI sd))]) hx hb dX4_gather_79 hl (k := 7) rfl (by rw [show Int32.ofInt 1 = nI 1 from by decide]; exact nI_add _ _) (by decide) rfl (fun ls hl => ?_)
            refine lv_goto (tgt := 6) hx hb dX4_gather_82 (by decide) ?_
            have hl : lv_has ls 9 [(7, .int (nI (A.length + j + 1))), (6, .int (nI (A.length + ((S.take (j + 1)).filter (inS L x y sd)).length))), (8, .int (nI (S.getD j 0))), (0, .ref t), (2, .int (nI (A.length + S.length))), (3, .int (nI x)), (4, .int (nI y)), (5, .int (nI sd))] := by
              have hl := hl
              rw [show ((S.take (j + 1)).filter (inS L x y sd)).length = ((S.take j).filter (inS L x y sd)).length + 1 from by rw [hfi]; simp]
              exact hl
            exact ih (j + 1) (upd (upd o1 (A.length + j) (o1 (A.length + ((S.take j).filter (inS L x y sd)).length))) (A.length + ((S.take j).filter (inS L x y sd)).length) (nI (S.getD j 0))) O2 (by omega) (by rw [hfi]; exact ho2) (by rw [hfo]; exact hO2.trans hO) (by rw [hfi, hO2.length_eq]; simp; omega) (by omega) _ _ hP hD hS ls (lv_sub hl [3, 4, 5, 6, 7, 1, 0] rfl)
        · skip
          have hin : inS L x y sd (S.getD j 0) = false := by
            cases hz : inS L x y sd (S.getD j 0) with
            | false => rfl
            | true => exact absurd ((inS_win (L := L) (i := S.getD j 0) hsd hx0 hy0 hkb).mp hz) hc_47
          have hfi : (S.take (j + 1)).filter (inS L x y sd) = (S.take j).filter (inS L x y sd) := by rw [htk]; exact filt_out hin
          have hfo : (S.take (j + 1)).filter (fun i => !inS L x y sd i) = (S.take j).filter (fun i => !inS L x y sd i) ++ [S.getD j 0] := by rw [htk]; exact filt_in (f := fun i => !inS L x y sd i) (by show (!_) = true; rw [hin]; rfl)
          refine lv_if_eq (tgt := 79) hx hb dX4_gather_50 (by decide) (fun c_50 => ?_) (fun c_50 => ?_)
          · skip
            refine lv_iinc (v := nI (A.length + j + 1)) (lv' := [(7, .int (nI (A.length + j + 1))), (8, .int (nI (S.getD j 0))), (0, .ref t), (2, .int (nI (A.length + S.length))), (3, .int (nI x)), (4, .int (nI y)), (5, .int (nI sd)), (6, .int (nI (A.length + ((S.take j).filter (inS L x y sd)).length)))]) hx hb dX4_gather_79 hl (k := 7) rfl (by rw [show Int32.ofInt 1 = nI 1 from by decide]; exact nI_add _ _) (by decide) rfl (fun ls hl => ?_)
            refine lv_goto (tgt := 6) hx hb dX4_gather_82 (by decide) ?_
            have hl : lv_has ls 9 [(7, .int (nI (A.length + j + 1))), (8, .int (nI (S.getD j 0))), (0, .ref t), (2, .int (nI (A.length + S.length))), (3, .int (nI x)), (4, .int (nI y)), (5, .int (nI sd)), (6, .int (nI (A.length + ((S.take (j + 1)).filter (inS L x y sd)).length)))] := by
              have hl := hl
              rw [hfi]
              exact hl
            exact ih (j + 1) o1 (O1 ++ [S.getD j 0]) (by omega) (by rw [hfi]; rw [hdr] at h2; simpa using h2) (by rw [hfo]; exact hO.append_right _) (by rw [hfi]; simp; omega) (by omega) _ _ hP hD hS ls (lv_sub hl [2, 3, 4, 5, 6, 7, 0] rfl)
          · exact absurd c_50 (by decide)
  exact loop_6 _ 0 o ([] : List Nat) (by omega) (by simpa using ho) (by simp) (by simp) (Nat.lt_succ_self _) _ _ hP hD hS ls (lv_sub hl [2, 4, 5, 6, 7, 1, 0] rfl)
end
section
/-! Tree.grow: contracts, laid by program (wip/gen/spec_grow.py) -/
set_option maxHeartbeats 4000000 in
set_option maxRecDepth 100000 in
theorem c_X4_grow_0 (l : Launch) (X : kX) (t p k v fa oa bk b N  x y lv w fr to_ : Nat) (f_mo : Int32) (kf vf ff o : Nat → Int32) (L : PL) (F : List Nd) (A S B : List Nat) (h : ptOk kf vf L) (hF : fOk ff F) (hFN : F.length ≤ N) (hN4 : N ≤ 401) (ho : oOk o (A ++ S ++ B) L.length) (hln : (A ++ S ++ B).length ≤ 512) (hfr : fr = A.length) (hto : to_ = A.length + S.length) (hb0 : lv + (0) = b) (hb1 : b ≤ 15) (hbk : 1 ≤ bk) (hbk2 : bk ≤ 8) (hx0 : x + 2 ^ (0) ≤ 32768) (hy0 : y + 2 ^ (0) ≤ 32768) (hnd : S.Nodup) (hrg : ∀ i ∈ S, inS L x y (2 ^ (0)) i = true) : CWv l X yX4_grow wsX4_grow 3 [.ref t, .int (nI fr), .int (nI to_), .int (nI x), .int (nI y), .int (nI lv)] [(t, .inr (4, [.ref p, .int (nI bk), .int (nI b), .int (nI N), .ref fa, .ref oa, .int (nI F.length), .int (nI (dpt b F)), .int f_mo])), (p, .inr (2, [.ref k, .ref v, .int (nI L.length), .int (nI w)])), (k, .inl (X.2.1, 512, .inl kf)), (v, .inl (X.2.1, 512, .inl vf)), (fa, .inl (X.2.1, 6 * N, .inl ff)), (oa, .inl (X.2.1, 512, .inl o))] (S := (Nat → Int32) × (Nat → Int32) × List Nat) (fun u => fOk u.1 (gF bk 0 x y N (ps L S) F) ∧ oOk u.2.1 (A ++ u.2.2 ++ B) L.length ∧ u.2.2.Perm S) (fun ⟨ff2, o2, S2⟩ => [(t, .inr (4, [.ref p, .int (nI bk), .int (nI b), .int (nI N), .ref fa, .ref oa, .int (nI ((gF bk 0 x y N (ps L S) F).length)), .int (nI (dpt b (gF bk 0 x y N (ps L S) F))), .int f_mo])), (p, .inr (2, [.ref k, .ref v, .int (nI L.length), .int (nI w)])), (k, .inl (X.2.1, 512, .inl kf)), (v, .inl (X.2.1, 512, .inl vf)), (fa, .inl (X.2.1, 6 * N, .inl ff2)), (oa, .inl (X.2.1, 512, .inl o2))]) := by
  refine Met.ofW (cc := cX4_grow) (maxL := 14) (ret := none) (by decide) rfl ?_
  intro pz ez sz mz args below meth cz s₁ Bz hml hv
  obtain ⟨rfl, hP, hK, hD0, hN⟩ := hv
  have hx := Bz.exec
  have hb := Bz.bytes
  have hr := Bz.returns
  have hts := atoms_spec (ws := wsX4_grow) Bz.pre
  have hown : sz.vm.findClass RX4 = some mz.cls := findClass_of_methodNamed Bz.named
  have hlocks := Bz.notSynchronized
  have hD := inW.self hD0
  have hS : va_S (inW [(t, .inr (4, [.ref p, .int (nI bk), .int (nI b), .int (nI N), .ref fa, .ref oa, .int (nI F.length), .int (nI (dpt b F)), .int f_mo])), (p, .inr (2, [.ref k, .ref v, .int (nI L.length), .int (nI w)])), (k, .inl (X.2.1, 512, .inl kf)), (v, .inl (X.2.1, 512, .inl vf)), (fa, .inl (X.2.1, 6 * N, .inl ff)), (oa, .inl (X.2.1, 512, .inl o))]) sz.heap sz.heap [] := va_S.rf
  have hl := lv_entry ([.ref t, .int (nI fr), .int (nI to_), .int (nI x), .int (nI y), .int (nI lv)]) (n := 14) (Nat.le_of_ble_eq_true rfl)
  rw [lg_entry_eq]
  generalize (lg_sl ([.ref t, .int (nI fr), .int (nI to_), .int (nI x), .int (nI y), .int (nI lv)]) ++ List.replicate (14 - (lg_sl ([.ref t, .int (nI fr), .int (nI to_), .int (nI x), .int (nI y), .int (nI lv)])).length) Slot.unset).toArray = ls at hl ⊢
  have hl : lv_has ls 14 [(0, .ref t), (1, .int (nI fr)), (2, .int (nI to_)), (3, .int (nI x)), (4, .int (nI y)), (5, .int (nI lv))] := hl
  have lk15 := hts (.fieldLink RX4 15 "PointStore$Tree" "nodes" "I") (by decide +kernel)
  have lk19 := hts (.fieldLink RX4 19 "PointStore$Tree" "depth" "I") (by decide +kernel)
  have lk29 := hts (.fieldLink RX4 29 "PointStore$Tree" "bucket" "I") (by decide +kernel)
  have lk32 := hts (.fieldLink RX4 32 "PointStore$Tree" "bits" "I") (by decide +kernel)
  have lk35 := hts (.fieldLink RX4 35 "PointStore$Tree" "mostNodes" "I") (by decide +kernel)
  have lk38 := hts (.fieldLink RX4 38 "PointStore$Tree" "facts" "[I") (by decide +kernel)
  have hin4 : ∀ w ∈ u_ws RX4 TX4 9, w ∈ wsX4_grow := by decide +kernel
  refine wQ (fun Q hQ => ?_)
  generalize hAe : inW [(t, .inr (4, [.ref p, .int (nI bk), .int (nI b), .int (nI N), .ref fa, .ref oa, .int (nI F.length), .int (nI (dpt b F)), .int f_mo])), (p, .inr (2, [.ref k, .ref v, .int (nI L.length), .int (nI w)])), (k, .inl (X.2.1, 512, .inl kf)), (v, .inl (X.2.1, 512, .inl vf)), (fa, .inl (X.2.1, 6 * N, .inl ff)), (oa, .inl (X.2.1, 512, .inl o))] = A_ at hD hS hQ
  subst hfr
  subst hto
  have hL := h.1
  have hdp := dpt_le b F
  have hpw : 2 ^ (0) ≤ 32768 := by omega
  simp only [List.length_append] at hln
  have hob : ∀ i ∈ S, i < L.length := fun i hi => ho.2 i (by simp [hi])
  refine lv_iload hx hb dX4_grow_0 (lv_at hl 5 rfl) ?_
  refine lv_aload_n hx hb dX4_grow_2 rfl (lv_at hl 0 rfl) ?_
  refine va_get (D := X.1) (ci := 4) (v := .int (nI b)) (C := RX4) (T := TX4) (N := 9) hx hb hts hin4 hown hK hP 0 rfl rfl 2 (by decide) lk32 (fun _ h9 => h9) rfl dX4_grow_3 ?_
  refine lv_icmp_gt (tgt := 20) hx hb dX4_grow_6 (by decide) (fun c_6 => ?_) (fun c_6 => ?_)
  · replace c_6 : b < lv := (nI_ltI (by omega) (by omega)).mp c_6
    omega
  · replace c_6 : ¬ b < lv := fun h9 => c_6 ((nI_ltI (by omega) (by omega)).mpr h9)
    refine lv_aload_n hx hb dX4_grow_9 rfl (lv_at hl 0 rfl) ?_
    refine va_get (D := X.1) (ci := 4) (v := .int (nI F.length)) (C := RX4) (T := TX4) (N := 9) hx hb hts hin4 hown hK hP 0 rfl rfl 6 (by decide) lk15 (fun _ h9 => h9) rfl dX4_grow_10 ?_
    refine lv_aload_n hx hb dX4_grow_13 rfl (lv_at hl 0 rfl) ?_
    refine va_get (D := X.1) (ci := 4) (v := .int (nI N)) (C := RX4) (T := TX4) (N := 9) hx hb hts hin4 hown hK hP 0 rfl rfl 3 (by decide) lk35 (fun _ h9 => h9) rfl dX4_grow_14 ?_
    refine lv_icmp_lt (tgt := 21) hx hb dX4_grow_17 (by decide) (fun c_17 => ?_) (fun c_17 => ?_)
    · replace c_17 : F.length < N := (nI_ltI (by omega) (by omega)).mp c_17
      refine lv_iconst (v := nI 1) hx hb dX4_grow_21 (by decide) ?_
      refine lv_aload_n hx hb dX4_grow_22 rfl (lv_at hl 0 rfl) ?_
      refine va_get (D := X.1) (ci := 4) (v := .int (nI b)) (C := RX4) (T := TX4) (N := 9) hx hb hts hin4 hown hK hP 0 rfl rfl 2 (by decide) lk32 (fun _ h9 => h9) rfl dX4_grow_23 ?_
      refine lv_iload hx hb dX4_grow_26 (lv_at hl 5 rfl) ?_
      refine lv_isub hx hb dX4_grow_28 ?_
      refine lv_topi (fun x_1 ex_1 => ?_)
      obtain rfl : x_1 = nI 0 := by
        rw [ex_1]
        rw [pk_sub (by omega)]
        congr 1
        omega
      refine lv_ishl hx hb dX4_grow_29 ?_
      refine lv_topi (fun x_2 ex_2 => ?_)
      obtain rfl : x_2 = nI (2 ^ (0)) := by
        rw [ex_2]
        exact bI_1shl (by omega)
      refine lv_istore (lv' := [(6, .int (nI (2 ^ (0)))), (0, .ref t), (1, .int (nI A.length)), (2, .int (nI (A.length + S.length))), (3, .int (nI x)), (4, .int (nI y)), (5, .int (nI lv))]) hx hb dX4_grow_30 hl (by decide) rfl (fun ls hl => ?_)
      refine lv_aload_n hx hb dX4_grow_32 rfl (lv_at hl 1 rfl) ?_
      refine va_get (D := X.1) (ci := 4) (v := .int (nI F.length)) (C := RX4) (T := TX4) (N := 9) hx hb hts hin4 hown hK hP 0 rfl rfl 6 (by decide) lk15 (fun _ h9 => h9) rfl dX4_grow_33 ?_
      refine lv_bipush (v := nI 6) hx hb dX4_grow_36 (by decide) ?_
      refine lv_imul hx hb dX4_grow_38 ?_
      refine lv_topi (fun x_3 ex_3 => ?_)
      obtain rfl : x_3 = nI (F.length * 6) := by
        rw [ex_3]
        exact pk_mul _ _
      refine lv_istore (lv' := [(7, .int (nI (F.length * 6))), (6, .int (nI (2 ^ (0)))), (0, .ref t), (1, .int (nI A.length)), (2, .int (nI (A.length + S.length))), (3, .int (nI x)), (4, .int (nI y)), (5, .int (nI lv))]) hx hb dX4_grow_39 hl (by decide) rfl (fun ls hl => ?_)
      refine lv_aload_n hx hb dX4_grow_41 rfl (lv_at hl 2 rfl) ?_
      refine lv_dup hx hb dX4_grow_42 rfl ?_
      refine va_get (D := X.1) (ci := 4) (v := .int (nI F.length)) (C := RX4) (T := TX4) (N := 9) hx hb hts hin4 hown hK hP 0 rfl rfl 6 (by decide) lk15 (fun _ h9 => h9) rfl dX4_grow_43 ?_
      refine lv_iconst (v := nI 1) hx hb dX4_grow_46 (by decide) ?_
      refine lv_iadd hx hb dX4_grow_47 ?_
      refine lv_topi (fun x_4 ex_4 => ?_)
      obtain rfl : x_4 = nI (F.length + 1) := by
        rw [ex_4]
        exact nI_add _ _
      refine va_put (D := X.1) (ci := 4) (v := .int (nI (F.length + 1))) (ty := .int) (C := RX4) (T := TX4) (N := 9) hx hb hts hin4 tyX4 tyX4_ok nmX4 hown hK hP hD hS 0 rfl rfl 6 (by decide) lk15 (fun _ h9 => h9) rfl (by decide +kernel) rfl rfl (Nat.le_of_ble_eq_true rfl) dX4_grow_48 (fun H locs hP hD hS => ?_)
      have hP : va_P X.1 vwCl [(t, .inr (4, [.ref p, .int (nI bk), .int (nI b), .int (nI N), .ref fa, .ref oa, .int (nI (F.length + 1)), .int (nI (dpt b F)), .int f_mo])), (p, .inr (2, [.ref k, .ref v, .int (nI L.length), .int (nI w)])), (k, .inl (X.2.1, 512, .inl kf)), (v, .inl (X.2.1, 512, .inl vf)), (fa, .inl (X.2.1, 6 * N, .inl ff)), (oa, .inl (X.2.1, 512, .inl o))] H := hP
      have hD : va_D A_ [(t, .inr (4, [.ref p, .int (nI bk), .int (nI b), .int (nI N), .ref fa, .ref oa, .int (nI (F.length + 1)), .int (nI (dpt b F)), .int f_mo])), (p, .inr (2, [.ref k, .ref v, .int (nI L.length), .int (nI w)])), (k, .inl (X.2.1, 512, .inl kf)), (v, .inl (X.2.1, 512, .inl vf)), (fa, .inl (X.2.1, 6 * N, .inl ff)), (oa, .inl (X.2.1, 512, .inl o))] := hD
      refine lv_aload_n hx hb dX4_grow_51 rfl (lv_at hl 2 rfl) ?_
      refine lv_aload_n hx hb dX4_grow_52 rfl (lv_at hl 2 rfl) ?_
      refine va_get (D := X.1) (ci := 4) (v := .int (nI (dpt b F))) (C := RX4) (T := TX4) (N := 9) hx hb hts hin4 hown hK hP 0 rfl rfl 7 (by decide) lk19 (fun _ h9 => h9) rfl dX4_grow_53 ?_
      refine lv_iload hx hb dX4_grow_56 (lv_at hl 7 rfl) ?_
      refine va_mmax hx hb (hml.trans hl.1.symm) hown (hts (.methodLink RX4 53 Lib.Math.max.name) (by decide +kernel)) (hts (.static Lib.Math.max.name) (by decide +kernel)) (hts (.initialized "java/lang/Math") (by decide +kernel)) (hts (.code Lib.Math.max.name Lib.Math.max.code 2 (some .int)) (by decide +kernel)) (Nat.le_of_ble_eq_true rfl) (Nat.le_of_ble_eq_true rfl) (Nat.zero_le _) (Nat.zero_le _) dX4_grow_58 ?_
      refine lv_topi (fun x_5 ex_5 => ?_)
      obtain rfl : x_5 = nI (max (dpt b F) lv) := by
        rw [ex_5]
        exact mmax_nI (by omega) (by omega)
      refine va_put (D := X.1) (ci := 4) (v := .int (nI (max (dpt b F) lv))) (ty := .int) (C := RX4) (T := TX4) (N := 9) hx hb hts hin4 tyX4 tyX4_ok nmX4 hown hK hP hD hS 0 rfl rfl 7 (by decide) lk19 (fun _ h9 => h9) rfl (by decide +kernel) rfl rfl (Nat.le_of_ble_eq_true rfl) dX4_grow_61 (fun H locs hP hD hS => ?_)
      have hP : va_P X.1 vwCl [(t, .inr (4, [.ref p, .int (nI bk), .int (nI b), .int (nI N), .ref fa, .ref oa, .int (nI (F.length + 1)), .int (nI (max (dpt b F) lv)), .int f_mo])), (p, .inr (2, [.ref k, .ref v, .int (nI L.length), .int (nI w)])), (k, .inl (X.2.1, 512, .inl kf)), (v, .inl (X.2.1, 512, .inl vf)), (fa, .inl (X.2.1, 6 * N, .inl ff)), (oa, .inl (X.2.1, 512, .inl o))] H := hP
      have hD : va_D A_ [(t, .inr (4, [.ref p, .int (nI bk), .int (nI b), .int (nI N), .ref fa, .ref oa, .int (nI (F.length + 1)), .int (nI (max (dpt b F) lv)), .int f_mo])), (p, .inr (2, [.ref k, .ref v, .int (nI L.length), .int (nI w)])), (k, .inl (X.2.1, 512, .inl kf)), (v, .inl (X.2.1, 512, .inl vf)), (fa, .inl (X.2.1, 6 * N, .inl ff)), (oa, .inl (X.2.1, 512, .inl o))] := hD
      refine lv_aload_n hx hb dX4_grow_64 rfl (lv_at hl 2 rfl) ?_
      refine va_get (D := X.1) (ci := 4) (v := .ref fa) (C := RX4) (T := TX4) (N := 9) hx hb hts hin4 hown hK hP 0 rfl rfl 4 (by decide) lk38 (fun _ h9 => h9) rfl dX4_grow_65 ?_
      refine lv_iload hx hb dX4_grow_68 (lv_at hl 0 rfl) ?_
      refine lv_iload hx hb dX4_grow_70 (lv_at hl 1 rfl) ?_
      have hi_6 : vp_in (nI (F.length * 6)) (6 * N) := vp_in_nI (by omega) (by omega)
      refine va_iast hx hb hK hP hD hS 4 0 rfl rfl hi_6 dX4_grow_72 (fun H locs hP hD hS => ?_)
      rw [nI_clamp (by omega)] at hP hD
      have hP : va_P X.1 vwCl [(t, .inr (4, [.ref p, .int (nI bk), .int (nI b), .int (nI N), .ref fa, .ref oa, .int (nI (F.length + 1)), .int (nI (max (dpt b F) lv)), .int f_mo])), (p, .inr (2, [.ref k, .ref v, .int (nI L.length), .int (nI w)])), (k, .inl (X.2.1, 512, .inl kf)), (v, .inl (X.2.1, 512, .inl vf)), (fa, .inl (X.2.1, 6 * N, .inl (upd ff (F.length * 6) (nI (2 ^ (0)))))), (oa, .inl (X.2.1, 512, .inl o))] H := hP
      have hD : va_D A_ [(t, .inr (4, [.ref p, .int (nI bk), .int (nI b), .int (nI N), .ref fa, .ref oa, .int (nI (F.length + 1)), .int (nI (max (dpt b F) lv)), .int f_mo])), (p, .inr (2, [.ref k, .ref v, .int (nI L.length), .int (nI w)])), (k, .inl (X.2.1, 512, .inl kf)), (v, .inl (X.2.1, 512, .inl vf)), (fa, .inl (X.2.1, 6 * N, .inl (upd ff (F.length * 6) (nI (2 ^ (0)))))), (oa, .inl (X.2.1, 512, .inl o))] := hD
      refine lv_aload_n hx hb dX4_grow_73 rfl (lv_at hl 2 rfl) ?_
      refine va_get (D := X.1) (ci := 4) (v := .ref fa) (C := RX4) (T := TX4) (N := 9) hx hb hts hin4 hown hK hP 0 rfl rfl 4 (by decide) lk38 (fun _ h9 => h9) rfl dX4_grow_74 ?_
      refine lv_iload hx hb dX4_grow_77 (lv_at hl 0 rfl) ?_
      refine lv_iconst (v := nI 1) hx hb dX4_grow_79 (by decide) ?_
      refine lv_iadd hx hb dX4_grow_80 ?_
      refine lv_topi (fun x_7 ex_7 => ?_)
      obtain rfl : x_7 = nI ((F.length * 6) + 1) := by
        rw [ex_7]
        exact nI_add _ _
      refine lv_iload_n hx hb dX4_grow_81 rfl (lv_at hl 5 rfl) ?_
      have hi_8 : vp_in (nI ((F.length * 6) + 1)) (6 * N) := vp_in_nI (by omega) (by omega)
      refine va_iast hx hb hK hP hD hS 4 0 rfl rfl hi_8 dX4_grow_82 (fun H locs hP hD hS => ?_)
      rw [nI_clamp (by omega)] at hP hD
      have hP : va_P X.1 vwCl [(t, .inr (4, [.ref p, .int (nI bk), .int (nI b), .int (nI N), .ref fa, .ref oa, .int (nI (F.length + 1)), .int (nI (max (dpt b F) lv)), .int f_mo])), (p, .inr (2, [.ref k, .ref v, .int (nI L.length), .int (nI w)])), (k, .inl (X.2.1, 512, .inl kf)), (v, .inl (X.2.1, 512, .inl vf)), (fa, .inl (X.2.1, 6 * N, .inl (upd (upd ff (F.length * 6) (nI (2 ^ (0)))) ((F.length * 6) + 1) (nI x)))), (oa, .inl (X.2.1, 512, .inl o))] H := hP
      have hD : va_D A_ [(t, .inr (4, [.ref p, .int (nI bk), .int (nI b), .int (nI N), .ref fa, .ref oa, .int (nI (F.length + 1)), .int (nI (max (dpt b F) lv)), .int f_mo])), (p, .inr (2, [.ref k, .ref v, .int (nI L.length), .int (nI w)])), (k, .inl (X.2.1, 512, .inl kf)), (v, .inl (X.2.1, 512, .inl vf)), (fa, .inl (X.2.1, 6 * N, .inl (upd (upd ff (F.length * 6) (nI (2 ^ (0)))) ((F.length * 6) + 1) (nI x)))), (oa, .inl (X.2.1, 512, .inl o))] := hD
      refine lv_aload_n hx hb dX4_grow_83 rfl (lv_at hl 2 rfl) ?_
      refine va_get (D := X.1) (ci := 4) (v := .ref fa) (C := RX4) (T := TX4) (N := 9) hx hb hts hin4 hown hK hP 0 rfl rfl 4 (by decide) lk38 (fun _ h9 => h9) rfl dX4_grow_84 ?_
      refine lv_iload hx hb dX4_grow_87 (lv_at hl 0 rfl) ?_
      refine lv_iconst (v := nI 2) hx hb dX4_grow_89 (by decide) ?_
      refine lv_iadd hx hb dX4_grow_90 ?_
      refine lv_topi (fun x_9 ex_9 => ?_)
      obtain rfl : x_9 = nI ((F.length * 6) + 2) := by
        rw [ex_9]
        exact nI_add _ _
      refine lv_iload hx hb dX4_grow_91 (lv_at hl 6 rfl) ?_
      have hi_10 : vp_in (nI ((F.length * 6) + 2)) (6 * N) := vp_in_nI (by omega) (by omega)
      refine va_iast hx hb hK hP hD hS 4 0 rfl rfl hi_10 dX4_grow_93 (fun H locs hP hD hS => ?_)
      rw [nI_clamp (by omega)] at hP hD
      have hP : va_P X.1 vwCl [(t, .inr (4, [.ref p, .int (nI bk), .int (nI b), .int (nI N), .ref fa, .ref oa, .int (nI (F.length + 1)), .int (nI (max (dpt b F) lv)), .int f_mo])), (p, .inr (2, [.ref k, .ref v, .int (nI L.length), .int (nI w)])), (k, .inl (X.2.1, 512, .inl kf)), (v, .inl (X.2.1, 512, .inl vf)), (fa, .inl (X.2.1, 6 * N, .inl (upd (upd (upd ff (F.length * 6) (nI (2 ^ (0)))) ((F.length * 6) + 1) (nI x)) ((F.length * 6) + 2) (nI y)))), (oa, .inl (X.2.1, 512, .inl o))] H := hP
      have hD : va_D A_ [(t, .inr (4, [.ref p, .int (nI bk), .int (nI b), .int (nI N), .ref fa, .ref oa, .int (nI (F.length + 1)), .int (nI (max (dpt b F) lv)), .int f_mo])), (p, .inr (2, [.ref k, .ref v, .int (nI L.length), .int (nI w)])), (k, .inl (X.2.1, 512, .inl kf)), (v, .inl (X.2.1, 512, .inl vf)), (fa, .inl (X.2.1, 6 * N, .inl (upd (upd (upd ff (F.length * 6) (nI (2 ^ (0)))) ((F.length * 6) + 1) (nI x)) ((F.length * 6) + 2) (nI y)))), (oa, .inl (X.2.1, 512, .inl o))] := hD
      refine lv_aload_n hx hb dX4_grow_94 rfl (lv_at hl 2 rfl) ?_
      refine va_get (D := X.1) (ci := 4) (v := .ref fa) (C := RX4) (T := TX4) (N := 9) hx hb hts hin4 hown hK hP 0 rfl rfl 4 (by decide) lk38 (fun _ h9 => h9) rfl dX4_grow_95 ?_
      refine lv_iload hx hb dX4_grow_98 (lv_at hl 0 rfl) ?_
      refine lv_iconst (v := nI 3) hx hb dX4_grow_100 (by decide) ?_
      refine lv_iadd hx hb dX4_grow_101 ?_
      refine lv_topi (fun x_11 ex_11 => ?_)
      obtain rfl : x_11 = nI ((F.length * 6) + 3) := by
        rw [ex_11]
        exact nI_add _ _
      refine lv_iload_n hx hb dX4_grow_102 rfl (lv_at hl 4 rfl) ?_
      refine lv_iload_n hx hb dX4_grow_103 rfl (lv_at hl 3 rfl) ?_
      refine lv_isub hx hb dX4_grow_104 ?_
      refine lv_topi (fun x_12 ex_12 => ?_)
      obtain rfl : x_12 = nI S.length := by
        rw [ex_12]
        rw [pk_sub (by omega)]
        congr 1
        omega
      have hi_13 : vp_in (nI ((F.length * 6) + 3)) (6 * N) := vp_in_nI (by omega) (by omega)
      refine va_iast hx hb hK hP hD hS 4 0 rfl rfl hi_13 dX4_grow_105 (fun H locs hP hD hS => ?_)
      rw [nI_clamp (by omega)] at hP hD
      have hP : va_P X.1 vwCl [(t, .inr (4, [.ref p, .int (nI bk), .int (nI b), .int (nI N), .ref fa, .ref oa, .int (nI (F.length + 1)), .int (nI (max (dpt b F) lv)), .int f_mo])), (p, .inr (2, [.ref k, .ref v, .int (nI L.length), .int (nI w)])), (k, .inl (X.2.1, 512, .inl kf)), (v, .inl (X.2.1, 512, .inl vf)), (fa, .inl (X.2.1, 6 * N, .inl (upd (upd (upd (upd ff (F.length * 6) (nI (2 ^ (0)))) ((F.length * 6) + 1) (nI x)) ((F.length * 6) + 2) (nI y)) ((F.length * 6) + 3) (nI S.length)))), (oa, .inl (X.2.1, 512, .inl o))] H := hP
      have hD : va_D A_ [(t, .inr (4, [.ref p, .int (nI bk), .int (nI b), .int (nI N), .ref fa, .ref oa, .int (nI (F.length + 1)), .int (nI (max (dpt b F) lv)), .int f_mo])), (p, .inr (2, [.ref k, .ref v, .int (nI L.length), .int (nI w)])), (k, .inl (X.2.1, 512, .inl kf)), (v, .inl (X.2.1, 512, .inl vf)), (fa, .inl (X.2.1, 6 * N, .inl (upd (upd (upd (upd ff (F.length * 6) (nI (2 ^ (0)))) ((F.length * 6) + 1) (nI x)) ((F.length * 6) + 2) (nI y)) ((F.length * 6) + 3) (nI S.length)))), (oa, .inl (X.2.1, 512, .inl o))] := hD
      refine lv_aload_n hx hb dX4_grow_106 rfl (lv_at hl 2 rfl) ?_
      refine va_get (D := X.1) (ci := 4) (v := .ref fa) (C := RX4) (T := TX4) (N := 9) hx hb hts hin4 hown hK hP 0 rfl rfl 4 (by decide) lk38 (fun _ h9 => h9) rfl dX4_grow_107 ?_
      refine lv_iload hx hb dX4_grow_110 (lv_at hl 0 rfl) ?_
      refine lv_iconst (v := nI 4) hx hb dX4_grow_112 (by decide) ?_
      refine lv_iadd hx hb dX4_grow_113 ?_
      refine lv_topi (fun x_14 ex_14 => ?_)
      obtain rfl : x_14 = nI ((F.length * 6) + 4) := by
        rw [ex_14]
        exact nI_add _ _
      refine lv_iconst (v := nI 0) hx hb dX4_grow_114 (by decide) ?_
      have hi_15 : vp_in (nI ((F.length * 6) + 4)) (6 * N) := vp_in_nI (by omega) (by omega)
      refine va_iast hx hb hK hP hD hS 4 0 rfl rfl hi_15 dX4_grow_115 (fun H locs hP hD hS => ?_)
      rw [nI_clamp (by omega)] at hP hD
      have hP : va_P X.1 vwCl [(t, .inr (4, [.ref p, .int (nI bk), .int (nI b), .int (nI N), .ref fa, .ref oa, .int (nI (F.length + 1)), .int (nI (max (dpt b F) lv)), .int f_mo])), (p, .inr (2, [.ref k, .ref v, .int (nI L.length), .int (nI w)])), (k, .inl (X.2.1, 512, .inl kf)), (v, .inl (X.2.1, 512, .inl vf)), (fa, .inl (X.2.1, 6 * N, .inl (upd (upd (upd (upd (upd ff (F.length * 6) (nI (2 ^ (0)))) ((F.length * 6) + 1) (nI x)) ((F.length * 6) + 2) (nI y)) ((F.length * 6) + 3) (nI S.length)) ((F.length * 6) + 4) (nI 0)))), (oa, .inl (X.2.1, 512, .inl o))] H := hP
      have hD : va_D A_ [(t, .inr (4, [.ref p, .int (nI bk), .int (nI b), .int (nI N), .ref fa, .ref oa, .int (nI (F.length + 1)), .int (nI (max (dpt b F) lv)), .int f_mo])), (p, .inr (2, [.ref k, .ref v, .int (nI L.length), .int (nI w)])), (k, .inl (X.2.1, 512, .inl kf)), (v, .inl (X.2.1, 512, .inl vf)), (fa, .inl (X.2.1, 6 * N, .inl (upd (upd (upd (upd (upd ff (F.length * 6) (nI (2 ^ (0)))) ((F.length * 6) + 1) (nI x)) ((F.length * 6) + 2) (nI y)) ((F.length * 6) + 3) (nI S.length)) ((F.length * 6) + 4) (nI 0)))), (oa, .inl (X.2.1, 512, .inl o))] := hD
      refine lv_aload_n hx hb dX4_grow_116 rfl (lv_at hl 2 rfl) ?_
      refine va_get (D := X.1) (ci := 4) (v := .ref fa) (C := RX4) (T := TX4) (N := 9) hx hb hts hin4 hown hK hP 0 rfl rfl 4 (by decide) lk38 (fun _ h9 => h9) rfl dX4_grow_117 ?_
      refine lv_iload hx hb dX4_grow_120 (lv_at hl 0 rfl) ?_
      refine lv_iconst (v := nI 5) hx hb dX4_grow_122 (by decide) ?_
      refine lv_iadd hx hb dX4_grow_123 ?_
      refine lv_topi (fun x_16 ex_16 => ?_)
      obtain rfl : x_16 = nI ((F.length * 6) + 5) := by
        rw [ex_16]
        exact nI_add _ _
      refine lv_aload_n hx hb dX4_grow_124 rfl (lv_at hl 2 rfl) ?_
      refine lv_iload_n hx hb dX4_grow_125 rfl (lv_at hl 3 rfl) ?_
      refine lv_iload_n hx hb dX4_grow_126 rfl (lv_at hl 4 rfl) ?_
      refine ckVRi (As := [.int (nI A.length), .int (nI (A.length + S.length))]) (rest := [.int (nI ((F.length * 6) + 5)), .ref fa]) 0 [0, 1, 3, 5] (c_X4_lowBitsOf l X t p k v fa oa bk b N (F.length + 1) (max (dpt b F) lv) f_mo w A.length (A.length + S.length) kf vf o L A S B h ho (by simp only [List.length_append]; omega) rfl rfl) ⟨hx, hb, hml, hown, hts⟩ (cwV 2 hts gX4_grow_X4_lowBitsOf rfl rfl rfl (by decide +kernel) ⟨Nat.le_of_ble_eq_true rfl, Nat.le_of_ble_eq_true rfl⟩) hK hN hP hD (by decide) rfl (ci := 4) rfl rfl rfl hl.1 rfl (Nat.le_of_ble_eq_true rfl) dX4_grow_127 ⟨Nat.zero_le _, Nat.zero_le _⟩ (fun r_17 hc_127 => ?_)
      subst hc_127
      have hi_18 : vp_in (nI ((F.length * 6) + 5)) (6 * N) := vp_in_nI (by omega) (by omega)
      refine va_iast hx hb hK hP hD hS 4 0 rfl rfl hi_18 dX4_grow_130 (fun H locs hP hD hS => ?_)
      rw [nI_clamp (by omega)] at hP hD
      rw [show upd (upd (upd (upd (upd (upd ff (F.length * 6) (nI (2 ^ (0)))) ((F.length * 6) + 1) (nI x)) ((F.length * 6) + 2) (nI y)) ((F.length * 6) + 3) (nI S.length)) ((F.length * 6) + 4) (nI 0)) ((F.length * 6) + 5) (nI (low (ps L S))) = set6 ff F.length (nI (2 ^ (0))) (nI x) (nI y) (nI S.length) (nI 0) (nI (low (ps L S))) from rfl] at hP hD
      have hP : va_P X.1 vwCl [(t, .inr (4, [.ref p, .int (nI bk), .int (nI b), .int (nI N), .ref fa, .ref oa, .int (nI (F.length + 1)), .int (nI (max (dpt b F) lv)), .int f_mo])), (p, .inr (2, [.ref k, .ref v, .int (nI L.length), .int (nI w)])), (k, .inl (X.2.1, 512, .inl kf)), (v, .inl (X.2.1, 512, .inl vf)), (fa, .inl (X.2.1, 6 * N, .inl (set6 ff F.length (nI (2 ^ (0))) (nI x) (nI y) (nI S.length) (nI 0) (nI (low (ps L S)))))), (oa, .inl (X.2.1, 512, .inl o))] H := hP
      have hD : va_D A_ [(t, .inr (4, [.ref p, .int (nI bk), .int (nI b), .int (nI N), .ref fa, .ref oa, .int (nI (F.length + 1)), .int (nI (max (dpt b F) lv)), .int f_mo])), (p, .inr (2, [.ref k, .ref v, .int (nI L.length), .int (nI w)])), (k, .inl (X.2.1, 512, .inl kf)), (v, .inl (X.2.1, 512, .inl vf)), (fa, .inl (X.2.1, 6 * N, .inl (set6 ff F.length (nI (2 ^ (0))) (nI x) (nI y) (nI S.length) (nI 0) (nI (low (ps L S)))))), (oa, .inl (X.2.1, 512, .inl o))] := hD
      have hpush : fOk (set6 ff F.length (nI (2 ^ (0))) (nI x) (nI y) (nI S.length) (nI 0) (nI (low (ps L S)))) (F ++ [(0, x, y, (ps L S).length, 0, low (ps L S))]) := by
        rw [ps_len]
        exact fOk_push hF (0, x, y, S.length, 0, low (ps L S))
      have hdpt : max (dpt b F) lv = dpt b (F ++ [(0, x, y, (ps L S).length, 0, low (ps L S))]) := by
        rw [dpt_app]
        show _ = max _ (max (b - (0)) 0)
        omega
      refine lv_iload_n hx hb dX4_grow_131 rfl (lv_at hl 4 rfl) ?_
      refine lv_iload_n hx hb dX4_grow_132 rfl (lv_at hl 3 rfl) ?_
      refine lv_isub hx hb dX4_grow_133 ?_
      refine lv_topi (fun x_19 ex_19 => ?_)
      obtain rfl : x_19 = nI S.length := by
        rw [ex_19]
        rw [pk_sub (by omega)]
        congr 1
        omega
      refine lv_aload_n hx hb dX4_grow_134 rfl (lv_at hl 2 rfl) ?_
      refine va_get (D := X.1) (ci := 4) (v := .int (nI bk)) (C := RX4) (T := TX4) (N := 9) hx hb hts hin4 hown hK hP 0 rfl rfl 1 (by decide) lk29 (fun _ h9 => h9) rfl dX4_grow_135 ?_
      refine lv_icmp_gt (tgt := 142) hx hb dX4_grow_138 (by decide) (fun c_138 => ?_) (fun c_138 => ?_)
      · replace c_138 : bk < S.length := (nI_ltI (by omega) (by omega)).mp c_138
        have hr1 := reg1 h.2.2.1 hob hnd hrg
        omega
      · replace c_138 : ¬ bk < S.length := fun h9 => c_138 ((nI_ltI (by omega) (by omega)).mpr h9)
        have hlf := gF_leaf0 (bk := bk) (x := x) (y := y) (P := ps L S) c_17
        rw [show F.length + 1 = (gF bk 0 x y N (ps L S) F).length from by rw [hlf]; simp, show max (dpt b F) lv = dpt b (gF bk 0 x y N (ps L S) F) from by rw [hlf]; exact hdpt] at hP
        refine wM hQ ?_
        exact rtV (set6 ff F.length (nI (2 ^ (0))) (nI x) (nI y) (nI S.length) (nI 0) (nI (low (ps L S))), o, S) hx hb hr hlocks hP hS (⟨by show fOk _ _; rw [hlf]; exact hpush, ho, List.Perm.refl _⟩) dX4_grow_141
    · replace c_17 : ¬ F.length < N := fun h9 => c_17 ((nI_ltI (by omega) (by omega)).mpr h9)
      have hfl := gF_full (bk := bk) (d := 0) (x := x) (y := y) (P := ps L S) (F := F) (N := N) (by omega)
      refine wM hQ ?_
      exact rtV (ff, o, S) hx hb hr hlocks (by show va_P X.1 vwCl [(t, .inr (4, [.ref p, .int (nI bk), .int (nI b), .int (nI N), .ref fa, .ref oa, .int (nI ((gF bk 0 x y N (ps L S) F).length)), .int (nI (dpt b (gF bk 0 x y N (ps L S) F))), .int f_mo])), (p, .inr (2, [.ref k, .ref v, .int (nI L.length), .int (nI w)])), (k, .inl (X.2.1, 512, .inl kf)), (v, .inl (X.2.1, 512, .inl vf)), (fa, .inl (X.2.1, 6 * N, .inl ff)), (oa, .inl (X.2.1, 512, .inl o))] _; rw [hfl]; exact hP) hS (⟨by show fOk ff _; rw [hfl]; exact hF, ho, List.Perm.refl _⟩) dX4_grow_20
set_option maxHeartbeats 4000000 in
set_option maxRecDepth 100000 in
theorem c_X4_grow_s (l : Launch) (X : kX) (d : Nat) (ihd : ∀ (t p k v fa oa bk b N  x y lv w fr to_ : Nat) (f_mo : Int32) (kf vf ff o : Nat → Int32) (L : PL) (F : List Nd) (A S B : List Nat) (h : ptOk kf vf L) (hF : fOk ff F) (hFN : F.length ≤ N) (hN4 : N ≤ 401) (ho : oOk o (A ++ S ++ B) L.length) (hln : (A ++ S ++ B).length ≤ 512) (hfr : fr = A.length) (hto : to_ = A.length + S.length) (hb0 : lv + (d) = b) (hb1 : b ≤ 15) (hbk : 1 ≤ bk) (hbk2 : bk ≤ 8) (hx0 : x + 2 ^ (d) ≤ 32768) (hy0 : y + 2 ^ (d) ≤ 32768) (hnd : S.Nodup) (hrg : ∀ i ∈ S, inS L x y (2 ^ (d)) i = true), CWv l X yX4_grow wsX4_grow (d + 3) [.ref t, .int (nI fr), .int (nI to_), .int (nI x), .int (nI y), .int (nI lv)] [(t, .inr (4, [.ref p, .int (nI bk), .int (nI b), .int (nI N), .ref fa, .ref oa, .int (nI F.length), .int (nI (dpt b F)), .int f_mo])), (p, .inr (2, [.ref k, .ref v, .int (nI L.length), .int (nI w)])), (k, .inl (X.2.1, 512, .inl kf)), (v, .inl (X.2.1, 512, .inl vf)), (fa, .inl (X.2.1, 6 * N, .inl ff)), (oa, .inl (X.2.1, 512, .inl o))] (S := (Nat → Int32) × (Nat → Int32) × List Nat) (fun u => fOk u.1 (gF bk d x y N (ps L S) F) ∧ oOk u.2.1 (A ++ u.2.2 ++ B) L.length ∧ u.2.2.Perm S) (fun ⟨ff2, o2, S2⟩ => [(t, .inr (4, [.ref p, .int (nI bk), .int (nI b), .int (nI N), .ref fa, .ref oa, .int (nI ((gF bk d x y N (ps L S) F).length)), .int (nI (dpt b (gF bk d x y N (ps L S) F))), .int f_mo])), (p, .inr (2, [.ref k, .ref v, .int (nI L.length), .int (nI w)])), (k, .inl (X.2.1, 512, .inl kf)), (v, .inl (X.2.1, 512, .inl vf)), (fa, .inl (X.2.1, 6 * N, .inl ff2)), (oa, .inl (X.2.1, 512, .inl o2))])) (t p k v fa oa bk b N  x y lv w fr to_ : Nat) (f_mo : Int32) (kf vf ff o : Nat → Int32) (L : PL) (F : List Nd) (A S B : List Nat) (h : ptOk kf vf L) (hF : fOk ff F) (hFN : F.length ≤ N) (hN4 : N ≤ 401) (ho : oOk o (A ++ S ++ B) L.length) (hln : (A ++ S ++ B).length ≤ 512) (hfr : fr = A.length) (hto : to_ = A.length + S.length) (hb0 : lv + (d + 1) = b) (hb1 : b ≤ 15) (hbk : 1 ≤ bk) (hbk2 : bk ≤ 8) (hx0 : x + 2 ^ (d + 1) ≤ 32768) (hy0 : y + 2 ^ (d + 1) ≤ 32768) (hnd : S.Nodup) (hrg : ∀ i ∈ S, inS L x y (2 ^ (d + 1)) i = true) : CWv l X yX4_grow wsX4_grow (d + 1 + 3) [.ref t, .int (nI fr), .int (nI to_), .int (nI x), .int (nI y), .int (nI lv)] [(t, .inr (4, [.ref p, .int (nI bk), .int (nI b), .int (nI N), .ref fa, .ref oa, .int (nI F.length), .int (nI (dpt b F)), .int f_mo])), (p, .inr (2, [.ref k, .ref v, .int (nI L.length), .int (nI w)])), (k, .inl (X.2.1, 512, .inl kf)), (v, .inl (X.2.1, 512, .inl vf)), (fa, .inl (X.2.1, 6 * N, .inl ff)), (oa, .inl (X.2.1, 512, .inl o))] (S := (Nat → Int32) × (Nat → Int32) × List Nat) (fun u => fOk u.1 (gF bk (d + 1) x y N (ps L S) F) ∧ oOk u.2.1 (A ++ u.2.2 ++ B) L.length ∧ u.2.2.Perm S) (fun ⟨ff2, o2, S2⟩ => [(t, .inr (4, [.ref p, .int (nI bk), .int (nI b), .int (nI N), .ref fa, .ref oa, .int (nI ((gF bk (d + 1) x y N (ps L S) F).length)), .int (nI (dpt b (gF bk (d + 1) x y N (ps L S) F))), .int f_mo])), (p, .inr (2, [.ref k, .ref v, .int (nI L.length), .int (nI w)])), (k, .inl (X.2.1, 512, .inl kf)), (v, .inl (X.2.1, 512, .inl vf)), (fa, .inl (X.2.1, 6 * N, .inl ff2)), (oa, .inl (X.2.1, 512, .inl o2))]) := by
  refine Met.ofW (cc := cX4_grow) (maxL := 14) (ret := none) (by decide) rfl ?_
  intro pz ez sz mz args below meth cz s₁ Bz hml hv
  obtain ⟨rfl, hP, hK, hD0, hN⟩ := hv
  have hx := Bz.exec
  have hb := Bz.bytes
  have hr := Bz.returns
  have hts := atoms_spec (ws := wsX4_grow) Bz.pre
  have hown : sz.vm.findClass RX4 = some mz.cls := findClass_of_methodNamed Bz.named
  have hlocks := Bz.notSynchronized
  have hD := inW.self hD0
  have hS : va_S (inW [(t, .inr (4, [.ref p, .int (nI bk), .int (nI b), .int (nI N), .ref fa, .ref oa, .int (nI F.length), .int (nI (dpt b F)), .int f_mo])), (p, .inr (2, [.ref k, .ref v, .int (nI L.length), .int (nI w)])), (k, .inl (X.2.1, 512, .inl kf)), (v, .inl (X.2.1, 512, .inl vf)), (fa, .inl (X.2.1, 6 * N, .inl ff)), (oa, .inl (X.2.1, 512, .inl o))]) sz.heap sz.heap [] := va_S.rf
  have hl := lv_entry ([.ref t, .int (nI fr), .int (nI to_), .int (nI x), .int (nI y), .int (nI lv)]) (n := 14) (Nat.le_of_ble_eq_true rfl)
  rw [lg_entry_eq]
  generalize (lg_sl ([.ref t, .int (nI fr), .int (nI to_), .int (nI x), .int (nI y), .int (nI lv)]) ++ List.replicate (14 - (lg_sl ([.ref t, .int (nI fr), .int (nI to_), .int (nI x), .int (nI y), .int (nI lv)])).length) Slot.unset).toArray = ls at hl ⊢
  have hl : lv_has ls 14 [(0, .ref t), (1, .int (nI fr)), (2, .int (nI to_)), (3, .int (nI x)), (4, .int (nI y)), (5, .int (nI lv))] := hl
  have lk15 := hts (.fieldLink RX4 15 "PointStore$Tree" "nodes" "I") (by decide +kernel)
  have lk19 := hts (.fieldLink RX4 19 "PointStore$Tree" "depth" "I") (by decide +kernel)
  have lk29 := hts (.fieldLink RX4 29 "PointStore$Tree" "bucket" "I") (by decide +kernel)
  have lk32 := hts (.fieldLink RX4 32 "PointStore$Tree" "bits" "I") (by decide +kernel)
  have lk35 := hts (.fieldLink RX4 35 "PointStore$Tree" "mostNodes" "I") (by decide +kernel)
  have lk38 := hts (.fieldLink RX4 38 "PointStore$Tree" "facts" "[I") (by decide +kernel)
  have hin4 : ∀ w ∈ u_ws RX4 TX4 9, w ∈ wsX4_grow := by decide +kernel
  refine wQ (fun Q hQ => ?_)
  generalize hAe : inW [(t, .inr (4, [.ref p, .int (nI bk), .int (nI b), .int (nI N), .ref fa, .ref oa, .int (nI F.length), .int (nI (dpt b F)), .int f_mo])), (p, .inr (2, [.ref k, .ref v, .int (nI L.length), .int (nI w)])), (k, .inl (X.2.1, 512, .inl kf)), (v, .inl (X.2.1, 512, .inl vf)), (fa, .inl (X.2.1, 6 * N, .inl ff)), (oa, .inl (X.2.1, 512, .inl o))] = A_ at hD hS hQ
  subst hfr
  subst hto
  have hL := h.1
  have hdp := dpt_le b F
  have hpw : 2 ^ (d + 1) ≤ 32768 := by omega
  simp only [List.length_append] at hln
  have hob : ∀ i ∈ S, i < L.length := fun i hi => ho.2 i (by simp [hi])
  have hp2 : 2 ^ (d + 1) = 2 * 2 ^ d := by rw [Nat.pow_succ]; omega
  have hd0 : 0 < 2 ^ d := Nat.pow_pos (by decide)
  refine lv_iload hx hb dX4_grow_0 (lv_at hl 5 rfl) ?_
  refine lv_aload_n hx hb dX4_grow_2 rfl (lv_at hl 0 rfl) ?_
  refine va_get (D := X.1) (ci := 4) (v := .int (nI b)) (C := RX4) (T := TX4) (N := 9) hx hb hts hin4 hown hK hP 0 rfl rfl 2 (by decide) lk32 (fun _ h9 => h9) rfl dX4_grow_3 ?_
  refine lv_icmp_gt (tgt := 20) hx hb dX4_grow_6 (by decide) (fun c_6 => ?_) (fun c_6 => ?_)
  · replace c_6 : b < lv := (nI_ltI (by omega) (by omega)).mp c_6
    omega
  · replace c_6 : ¬ b < lv := fun h9 => c_6 ((nI_ltI (by omega) (by omega)).mpr h9)
    refine lv_aload_n hx hb dX4_grow_9 rfl (lv_at hl 0 rfl) ?_
    refine va_get (D := X.1) (ci := 4) (v := .int (nI F.length)) (C := RX4) (T := TX4) (N := 9) hx hb hts hin4 hown hK hP 0 rfl rfl 6 (by decide) lk15 (fun _ h9 => h9) rfl dX4_grow_10 ?_
    refine lv_aload_n hx hb dX4_grow_13 rfl (lv_at hl 0 rfl) ?_
    refine va_get (D := X.1) (ci := 4) (v := .int (nI N)) (C := RX4) (T := TX4) (N := 9) hx hb hts hin4 hown hK hP 0 rfl rfl 3 (by decide) lk35 (fun _ h9 => h9) rfl dX4_grow_14 ?_
    refine lv_icmp_lt (tgt := 21) hx hb dX4_grow_17 (by decide) (fun c_17 => ?_) (fun c_17 => ?_)
    · replace c_17 : F.length < N := (nI_ltI (by omega) (by omega)).mp c_17
      refine lv_iconst (v := nI 1) hx hb dX4_grow_21 (by decide) ?_
      refine lv_aload_n hx hb dX4_grow_22 rfl (lv_at hl 0 rfl) ?_
      refine va_get (D := X.1) (ci := 4) (v := .int (nI b)) (C := RX4) (T := TX4) (N := 9) hx hb hts hin4 hown hK hP 0 rfl rfl 2 (by decide) lk32 (fun _ h9 => h9) rfl dX4_grow_23 ?_
      refine lv_iload hx hb dX4_grow_26 (lv_at hl 5 rfl) ?_
      refine lv_isub hx hb dX4_grow_28 ?_
      refine lv_topi (fun x_1 ex_1 => ?_)
      obtain rfl : x_1 = nI (d + 1) := by
        rw [ex_1]
        rw [pk_sub (by omega)]
        congr 1
        omega
      refine lv_ishl hx hb dX4_grow_29 ?_
      refine lv_topi (fun x_2 ex_2 => ?_)
      obtain rfl : x_2 = nI (2 ^ (d + 1)) := by
        rw [ex_2]
        exact bI_1shl (by omega)
      refine lv_istore (lv' := [(6, .int (nI (2 ^ (d + 1)))), (0, .ref t), (1, .int (nI A.length)), (2, .int (nI (A.length + S.length))), (3, .int (nI x)), (4, .int (nI y)), (5, .int (nI lv))]) hx hb dX4_grow_30 hl (by decide) rfl (fun ls hl => ?_)
      refine lv_aload_n hx hb dX4_grow_32 rfl (lv_at hl 1 rfl) ?_
      refine va_get (D := X.1) (ci := 4) (v := .int (nI F.length)) (C := RX4) (T := TX4) (N := 9) hx hb hts hin4 hown hK hP 0 rfl rfl 6 (by decide) lk15 (fun _ h9 => h9) rfl dX4_grow_33 ?_
      refine lv_bipush (v := nI 6) hx hb dX4_grow_36 (by decide) ?_
      refine lv_imul hx hb dX4_grow_38 ?_
      refine lv_topi (fun x_3 ex_3 => ?_)
      obtain rfl : x_3 = nI (F.length * 6) := by
        rw [ex_3]
        exact pk_mul _ _
      refine lv_istore (lv' := [(7, .int (nI (F.length * 6))), (6, .int (nI (2 ^ (d + 1)))), (0, .ref t), (1, .int (nI A.length)), (2, .int (nI (A.length + S.length))), (3, .int (nI x)), (4, .int (nI y)), (5, .int (nI lv))]) hx hb dX4_grow_39 hl (by decide) rfl (fun ls hl => ?_)
      refine lv_aload_n hx hb dX4_grow_41 rfl (lv_at hl 2 rfl) ?_
      refine lv_dup hx hb dX4_grow_42 rfl ?_
      refine va_get (D := X.1) (ci := 4) (v := .int (nI F.length)) (C := RX4) (T := TX4) (N := 9) hx hb hts hin4 hown hK hP 0 rfl rfl 6 (by decide) lk15 (fun _ h9 => h9) rfl dX4_grow_43 ?_
      refine lv_iconst (v := nI 1) hx hb dX4_grow_46 (by decide) ?_
      refine lv_iadd hx hb dX4_grow_47 ?_
      refine lv_topi (fun x_4 ex_4 => ?_)
      obtain rfl : x_4 = nI (F.length + 1) := by
        rw [ex_4]
        exact nI_add _ _
      refine va_put (D := X.1) (ci := 4) (v := .int (nI (F.length + 1))) (ty := .int) (C := RX4) (T := TX4) (N := 9) hx hb hts hin4 tyX4 tyX4_ok nmX4 hown hK hP hD hS 0 rfl rfl 6 (by decide) lk15 (fun _ h9 => h9) rfl (by decide +kernel) rfl rfl (Nat.le_of_ble_eq_true rfl) dX4_grow_48 (fun H locs hP hD hS => ?_)
      have hP : va_P X.1 vwCl [(t, .inr (4, [.ref p, .int (nI bk), .int (nI b), .int (nI N), .ref fa, .ref oa, .int (nI (F.length + 1)), .int (nI (dpt b F)), .int f_mo])), (p, .inr (2, [.ref k, .ref v, .int (nI L.length), .int (nI w)])), (k, .inl (X.2.1, 512, .inl kf)), (v, .inl (X.2.1, 512, .inl vf)), (fa, .inl (X.2.1, 6 * N, .inl ff)), (oa, .inl (X.2.1, 512, .inl o))] H := hP
      have hD : va_D A_ [(t, .inr (4, [.ref p, .int (nI bk), .int (nI b), .int (nI N), .ref fa, .ref oa, .int (nI (F.length + 1)), .int (nI (dpt b F)), .int f_mo])), (p, .inr (2, [.ref k, .ref v, .int (nI L.length), .int (nI w)])), (k, .inl (X.2.1, 512, .inl kf)), (v, .inl (X.2.1, 512, .inl vf)), (fa, .inl (X.2.1, 6 * N, .inl ff)), (oa, .inl (X.2.1, 512, .inl o))] := hD
      refine lv_aload_n hx hb dX4_grow_51 rfl (lv_at hl 2 rfl) ?_
      refine lv_aload_n hx hb dX4_grow_52 rfl (lv_at hl 2 rfl) ?_
      refine va_get (D := X.1) (ci := 4) (v := .int (nI (dpt b F))) (C := RX4) (T := TX4) (N := 9) hx hb hts hin4 hown hK hP 0 rfl rfl 7 (by decide) lk19 (fun _ h9 => h9) rfl dX4_grow_53 ?_
      refine lv_iload hx hb dX4_grow_56 (lv_at hl 7 rfl) ?_
      refine va_mmax hx hb (hml.trans hl.1.symm) hown (hts (.methodLink RX4 53 Lib.Math.max.name) (by decide +kernel)) (hts (.static Lib.Math.max.name) (by decide +kernel)) (hts (.initialized "java/lang/Math") (by decide +kernel)) (hts (.code Lib.Math.max.name Lib.Math.max.code 2 (some .int)) (by decide +kernel)) (Nat.le_of_ble_eq_true rfl) (Nat.le_of_ble_eq_true rfl) (Nat.zero_le _) (Nat.zero_le _) dX4_grow_58 ?_
      refine lv_topi (fun x_5 ex_5 => ?_)
      obtain rfl : x_5 = nI (max (dpt b F) lv) := by
        rw [ex_5]
        exact mmax_nI (by omega) (by omega)
      refine va_put (D := X.1) (ci := 4) (v := .int (nI (max (dpt b F) lv))) (ty := .int) (C := RX4) (T := TX4) (N := 9) hx hb hts hin4 tyX4 tyX4_ok nmX4 hown hK hP hD hS 0 rfl rfl 7 (by decide) lk19 (fun _ h9 => h9) rfl (by decide +kernel) rfl rfl (Nat.le_of_ble_eq_true rfl) dX4_grow_61 (fun H locs hP hD hS => ?_)
      have hP : va_P X.1 vwCl [(t, .inr (4, [.ref p, .int (nI bk), .int (nI b), .int (nI N), .ref fa, .ref oa, .int (nI (F.length + 1)), .int (nI (max (dpt b F) lv)), .int f_mo])), (p, .inr (2, [.ref k, .ref v, .int (nI L.length), .int (nI w)])), (k, .inl (X.2.1, 512, .inl kf)), (v, .inl (X.2.1, 512, .inl vf)), (fa, .inl (X.2.1, 6 * N, .inl ff)), (oa, .inl (X.2.1, 512, .inl o))] H := hP
      have hD : va_D A_ [(t, .inr (4, [.ref p, .int (nI bk), .int (nI b), .int (nI N), .ref fa, .ref oa, .int (nI (F.length + 1)), .int (nI (max (dpt b F) lv)), .int f_mo])), (p, .inr (2, [.ref k, .ref v, .int (nI L.length), .int (nI w)])), (k, .inl (X.2.1, 512, .inl kf)), (v, .inl (X.2.1, 512, .inl vf)), (fa, .inl (X.2.1, 6 * N, .inl ff)), (oa, .inl (X.2.1, 512, .inl o))] := hD
      refine lv_aload_n hx hb dX4_grow_64 rfl (lv_at hl 2 rfl) ?_
      refine va_get (D := X.1) (ci := 4) (v := .ref fa) (C := RX4) (T := TX4) (N := 9) hx hb hts hin4 hown hK hP 0 rfl rfl 4 (by decide) lk38 (fun _ h9 => h9) rfl dX4_grow_65 ?_
      refine lv_iload hx hb dX4_grow_68 (lv_at hl 0 rfl) ?_
      refine lv_iload hx hb dX4_grow_70 (lv_at hl 1 rfl) ?_
      have hi_6 : vp_in (nI (F.length * 6)) (6 * N) := vp_in_nI (by omega) (by omega)
      refine va_iast hx hb hK hP hD hS 4 0 rfl rfl hi_6 dX4_grow_72 (fun H locs hP hD hS => ?_)
      rw [nI_clamp (by omega)] at hP hD
      have hP : va_P X.1 vwCl [(t, .inr (4, [.ref p, .int (nI bk), .int (nI b), .int (nI N), .ref fa, .ref oa, .int (nI (F.length + 1)), .int (nI (max (dpt b F) lv)), .int f_mo])), (p, .inr (2, [.ref k, .ref v, .int (nI L.length), .int (nI w)])), (k, .inl (X.2.1, 512, .inl kf)), (v, .inl (X.2.1, 512, .inl vf)), (fa, .inl (X.2.1, 6 * N, .inl (upd ff (F.length * 6) (nI (2 ^ (d + 1)))))), (oa, .inl (X.2.1, 512, .inl o))] H := hP
      have hD : va_D A_ [(t, .inr (4, [.ref p, .int (nI bk), .int (nI b), .int (nI N), .ref fa, .ref oa, .int (nI (F.length + 1)), .int (nI (max (dpt b F) lv)), .int f_mo])), (p, .inr (2, [.ref k, .ref v, .int (nI L.length), .int (nI w)])), (k, .inl (X.2.1, 512, .inl kf)), (v, .inl (X.2.1, 512, .inl vf)), (fa, .inl (X.2.1, 6 * N, .inl (upd ff (F.length * 6) (nI (2 ^ (d + 1)))))), (oa, .inl (X.2.1, 512, .inl o))] := hD
      refine lv_aload_n hx hb dX4_grow_73 rfl (lv_at hl 2 rfl) ?_
      refine va_get (D := X.1) (ci := 4) (v := .ref fa) (C := RX4) (T := TX4) (N := 9) hx hb hts hin4 hown hK hP 0 rfl rfl 4 (by decide) lk38 (fun _ h9 => h9) rfl dX4_grow_74 ?_
      refine lv_iload hx hb dX4_grow_77 (lv_at hl 0 rfl) ?_
      refine lv_iconst (v := nI 1) hx hb dX4_grow_79 (by decide) ?_
      refine lv_iadd hx hb dX4_grow_80 ?_
      refine lv_topi (fun x_7 ex_7 => ?_)
      obtain rfl : x_7 = nI ((F.length * 6) + 1) := by
        rw [ex_7]
        exact nI_add _ _
      refine lv_iload_n hx hb dX4_grow_81 rfl (lv_at hl 5 rfl) ?_
      have hi_8 : vp_in (nI ((F.length * 6) + 1)) (6 * N) := vp_in_nI (by omega) (by omega)
      refine va_iast hx hb hK hP hD hS 4 0 rfl rfl hi_8 dX4_grow_82 (fun H locs hP hD hS => ?_)
      rw [nI_clamp (by omega)] at hP hD
      have hP : va_P X.1 vwCl [(t, .inr (4, [.ref p, .int (nI bk), .int (nI b), .int (nI N), .ref fa, .ref oa, .int (nI (F.length + 1)), .int (nI (max (dpt b F) lv)), .int f_mo])), (p, .inr (2, [.ref k, .ref v, .int (nI L.length), .int (nI w)])), (k, .inl (X.2.1, 512, .inl kf)), (v, .inl (X.2.1, 512, .inl vf)), (fa, .inl (X.2.1, 6 * N, .inl (upd (upd ff (F.length * 6) (nI (2 ^ (d + 1)))) ((F.length * 6) + 1) (nI x)))), (oa, .inl (X.2.1, 512, .inl o))] H := hP
      have hD : va_D A_ [(t, .inr (4, [.ref p, .int (nI bk), .int (nI b), .int (nI N), .ref fa, .ref oa, .int (nI (F.length + 1)), .int (nI (max (dpt b F) lv)), .int f_mo])), (p, .inr (2, [.ref k, .ref v, .int (nI L.length), .int (nI w)])), (k, .inl (X.2.1, 512, .inl kf)), (v, .inl (X.2.1, 512, .inl vf)), (fa, .inl (X.2.1, 6 * N, .inl (upd (upd ff (F.length * 6) (nI (2 ^ (d + 1)))) ((F.length * 6) + 1) (nI x)))), (oa, .inl (X.2.1, 512, .inl o))] := hD
      refine lv_aload_n hx hb dX4_grow_83 rfl (lv_at hl 2 rfl) ?_
      refine va_get (D := X.1) (ci := 4) (v := .ref fa) (C := RX4) (T := TX4) (N := 9) hx hb hts hin4 hown hK hP 0 rfl rfl 4 (by decide) lk38 (fun _ h9 => h9) rfl dX4_grow_84 ?_
      refine lv_iload hx hb dX4_grow_87 (lv_at hl 0 rfl) ?_
      refine lv_iconst (v := nI 2) hx hb dX4_grow_89 (by decide) ?_
      refine lv_iadd hx hb dX4_grow_90 ?_
      refine lv_topi (fun x_9 ex_9 => ?_)
      obtain rfl : x_9 = nI ((F.length * 6) + 2) := by
        rw [ex_9]
        exact nI_add _ _
      refine lv_iload hx hb dX4_grow_91 (lv_at hl 6 rfl) ?_
      have hi_10 : vp_in (nI ((F.length * 6) + 2)) (6 * N) := vp_in_nI (by omega) (by omega)
      refine va_iast hx hb hK hP hD hS 4 0 rfl rfl hi_10 dX4_grow_93 (fun H locs hP hD hS => ?_)
      rw [nI_clamp (by omega)] at hP hD
      have hP : va_P X.1 vwCl [(t, .inr (4, [.ref p, .int (nI bk), .int (nI b), .int (nI N), .ref fa, .ref oa, .int (nI (F.length + 1)), .int (nI (max (dpt b F) lv)), .int f_mo])), (p, .inr (2, [.ref k, .ref v, .int (nI L.length), .int (nI w)])), (k, .inl (X.2.1, 512, .inl kf)), (v, .inl (X.2.1, 512, .inl vf)), (fa, .inl (X.2.1, 6 * N, .inl (upd (upd (upd ff (F.length * 6) (nI (2 ^ (d + 1)))) ((F.length * 6) + 1) (nI x)) ((F.length * 6) + 2) (nI y)))), (oa, .inl (X.2.1, 512, .inl o))] H := hP
      have hD : va_D A_ [(t, .inr (4, [.ref p, .int (nI bk), .int (nI b), .int (nI N), .ref fa, .ref oa, .int (nI (F.length + 1)), .int (nI (max (dpt b F) lv)), .int f_mo])), (p, .inr (2, [.ref k, .ref v, .int (nI L.length), .int (nI w)])), (k, .inl (X.2.1, 512, .inl kf)), (v, .inl (X.2.1, 512, .inl vf)), (fa, .inl (X.2.1, 6 * N, .inl (upd (upd (upd ff (F.length * 6) (nI (2 ^ (d + 1)))) ((F.length * 6) + 1) (nI x)) ((F.length * 6) + 2) (nI y)))), (oa, .inl (X.2.1, 512, .inl o))] := hD
      refine lv_aload_n hx hb dX4_grow_94 rfl (lv_at hl 2 rfl) ?_
      refine va_get (D := X.1) (ci := 4) (v := .ref fa) (C := RX4) (T := TX4) (N := 9) hx hb hts hin4 hown hK hP 0 rfl rfl 4 (by decide) lk38 (fun _ h9 => h9) rfl dX4_grow_95 ?_
      refine lv_iload hx hb dX4_grow_98 (lv_at hl 0 rfl) ?_
      refine lv_iconst (v := nI 3) hx hb dX4_grow_100 (by decide) ?_
      refine lv_iadd hx hb dX4_grow_101 ?_
      refine lv_topi (fun x_11 ex_11 => ?_)
      obtain rfl : x_11 = nI ((F.length * 6) + 3) := by
        rw [ex_11]
        exact nI_add _ _
      refine lv_iload_n hx hb dX4_grow_102 rfl (lv_at hl 4 rfl) ?_
      refine lv_iload_n hx hb dX4_grow_103 rfl (lv_at hl 3 rfl) ?_
      refine lv_isub hx hb dX4_grow_104 ?_
      refine lv_topi (fun x_12 ex_12 => ?_)
      obtain rfl : x_12 = nI S.length := by
        rw [ex_12]
        rw [pk_sub (by omega)]
        congr 1
        omega
      have hi_13 : vp_in (nI ((F.length * 6) + 3)) (6 * N) := vp_in_nI (by omega) (by omega)
      refine va_iast hx hb hK hP hD hS 4 0 rfl rfl hi_13 dX4_grow_105 (fun H locs hP hD hS => ?_)
      rw [nI_clamp (by omega)] at hP hD
      have hP : va_P X.1 vwCl [(t, .inr (4, [.ref p, .int (nI bk), .int (nI b), .int (nI N), .ref fa, .ref oa, .int (nI (F.length + 1)), .int (nI (max (dpt b F) lv)), .int f_mo])), (p, .inr (2, [.ref k, .ref v, .int (nI L.length), .int (nI w)])), (k, .inl (X.2.1, 512, .inl kf)), (v, .inl (X.2.1, 512, .inl vf)), (fa, .inl (X.2.1, 6 * N, .inl (upd (upd (upd (upd ff (F.length * 6) (nI (2 ^ (d + 1)))) ((F.length * 6) + 1) (nI x)) ((F.length * 6) + 2) (nI y)) ((F.length * 6) + 3) (nI S.length)))), (oa, .inl (X.2.1, 512, .inl o))] H := hP
      have hD : va_D A_ [(t, .inr (4, [.ref p, .int (nI bk), .int (nI b), .int (nI N), .ref fa, .ref oa, .int (nI (F.length + 1)), .int (nI (max (dpt b F) lv)), .int f_mo])), (p, .inr (2, [.ref k, .ref v, .int (nI L.length), .int (nI w)])), (k, .inl (X.2.1, 512, .inl kf)), (v, .inl (X.2.1, 512, .inl vf)), (fa, .inl (X.2.1, 6 * N, .inl (upd (upd (upd (upd ff (F.length * 6) (nI (2 ^ (d + 1)))) ((F.length * 6) + 1) (nI x)) ((F.length * 6) + 2) (nI y)) ((F.length * 6) + 3) (nI S.length)))), (oa, .inl (X.2.1, 512, .inl o))] := hD
      refine lv_aload_n hx hb dX4_grow_106 rfl (lv_at hl 2 rfl) ?_
      refine va_get (D := X.1) (ci := 4) (v := .ref fa) (C := RX4) (T := TX4) (N := 9) hx hb hts hin4 hown hK hP 0 rfl rfl 4 (by decide) lk38 (fun _ h9 => h9) rfl dX4_grow_107 ?_
      refine lv_iload hx hb dX4_grow_110 (lv_at hl 0 rfl) ?_
      refine lv_iconst (v := nI 4) hx hb dX4_grow_112 (by decide) ?_
      refine lv_iadd hx hb dX4_grow_113 ?_
      refine lv_topi (fun x_14 ex_14 => ?_)
      obtain rfl : x_14 = nI ((F.length * 6) + 4) := by
        rw [ex_14]
        exact nI_add _ _
      refine lv_iconst (v := nI 0) hx hb dX4_grow_114 (by decide) ?_
      have hi_15 : vp_in (nI ((F.length * 6) + 4)) (6 * N) := vp_in_nI (by omega) (by omega)
      refine va_iast hx hb hK hP hD hS 4 0 rfl rfl hi_15 dX4_grow_115 (fun H locs hP hD hS => ?_)
      rw [nI_clamp (by omega)] at hP hD
      have hP : va_P X.1 vwCl [(t, .inr (4, [.ref p, .int (nI bk), .int (nI b), .int (nI N), .ref fa, .ref oa, .int (nI (F.length + 1)), .int (nI (max (dpt b F) lv)), .int f_mo])), (p, .inr (2, [.ref k, .ref v, .int (nI L.length), .int (nI w)])), (k, .inl (X.2.1, 512, .inl kf)), (v, .inl (X.2.1, 512, .inl vf)), (fa, .inl (X.2.1, 6 * N, .inl (upd (upd (upd (upd (upd ff (F.length * 6) (nI (2 ^ (d + 1)))) ((F.length * 6) + 1) (nI x)) ((F.length * 6) + 2) (nI y)) ((F.length * 6) + 3) (nI S.length)) ((F.length * 6) + 4) (nI 0)))), (oa, .inl (X.2.1, 512, .inl o))] H := hP
      have hD : va_D A_ [(t, .inr (4, [.ref p, .int (nI bk), .int (nI b), .int (nI N), .ref fa, .ref oa, .int (nI (F.length + 1)), .int (nI (max (dpt b F) lv)), .int f_mo])), (p, .inr (2, [.ref k, .ref v, .int (nI L.length), .int (nI w)])), (k, .inl (X.2.1, 512, .inl kf)), (v, .inl (X.2.1, 512, .inl vf)), (fa, .inl (X.2.1, 6 * N, .inl (upd (upd (upd (upd (upd ff (F.length * 6) (nI (2 ^ (d + 1)))) ((F.length * 6) + 1) (nI x)) ((F.length * 6) + 2) (nI y)) ((F.length * 6) + 3) (nI S.length)) ((F.length * 6) + 4) (nI 0)))), (oa, .inl (X.2.1, 512, .inl o))] := hD
      refine lv_aload_n hx hb dX4_grow_116 rfl (lv_at hl 2 rfl) ?_
      refine va_get (D := X.1) (ci := 4) (v := .ref fa) (C := RX4) (T := TX4) (N := 9) hx hb hts hin4 hown hK hP 0 rfl rfl 4 (by decide) lk38 (fun _ h9 => h9) rfl dX4_grow_117 ?_
      refine lv_iload hx hb dX4_grow_120 (lv_at hl 0 rfl) ?_
      refine lv_iconst (v := nI 5) hx hb dX4_grow_122 (by decide) ?_
      refine lv_iadd hx hb dX4_grow_123 ?_
      refine lv_topi (fun x_16 ex_16 => ?_)
      obtain rfl : x_16 = nI ((F.length * 6) + 5) := by
        rw [ex_16]
        exact nI_add _ _
      refine lv_aload_n hx hb dX4_grow_124 rfl (lv_at hl 2 rfl) ?_
      refine lv_iload_n hx hb dX4_grow_125 rfl (lv_at hl 3 rfl) ?_
      refine lv_iload_n hx hb dX4_grow_126 rfl (lv_at hl 4 rfl) ?_
      refine ckVRi (As := [.int (nI A.length), .int (nI (A.length + S.length))]) (rest := [.int (nI ((F.length * 6) + 5)), .ref fa]) 0 [0, 1, 3, 5] (c_X4_lowBitsOf l X t p k v fa oa bk b N (F.length + 1) (max (dpt b F) lv) f_mo w A.length (A.length + S.length) kf vf o L A S B h ho (by simp only [List.length_append]; omega) rfl rfl) ⟨hx, hb, hml, hown, hts⟩ (cwV 2 hts gX4_grow_X4_lowBitsOf rfl rfl rfl (by decide +kernel) ⟨Nat.le_of_ble_eq_true rfl, Nat.le_of_ble_eq_true rfl⟩) hK hN hP hD (by decide) rfl (ci := 4) rfl rfl rfl hl.1 rfl (Nat.le_of_ble_eq_true rfl) dX4_grow_127 ⟨Nat.zero_le _, Nat.zero_le _⟩ (fun r_17 hc_127 => ?_)
      subst hc_127
      have hi_18 : vp_in (nI ((F.length * 6) + 5)) (6 * N) := vp_in_nI (by omega) (by omega)
      refine va_iast hx hb hK hP hD hS 4 0 rfl rfl hi_18 dX4_grow_130 (fun H locs hP hD hS => ?_)
      rw [nI_clamp (by omega)] at hP hD
      rw [show upd (upd (upd (upd (upd (upd ff (F.length * 6) (nI (2 ^ (d + 1)))) ((F.length * 6) + 1) (nI x)) ((F.length * 6) + 2) (nI y)) ((F.length * 6) + 3) (nI S.length)) ((F.length * 6) + 4) (nI 0)) ((F.length * 6) + 5) (nI (low (ps L S))) = set6 ff F.length (nI (2 ^ (d + 1))) (nI x) (nI y) (nI S.length) (nI 0) (nI (low (ps L S))) from rfl] at hP hD
      have hP : va_P X.1 vwCl [(t, .inr (4, [.ref p, .int (nI bk), .int (nI b), .int (nI N), .ref fa, .ref oa, .int (nI (F.length + 1)), .int (nI (max (dpt b F) lv)), .int f_mo])), (p, .inr (2, [.ref k, .ref v, .int (nI L.length), .int (nI w)])), (k, .inl (X.2.1, 512, .inl kf)), (v, .inl (X.2.1, 512, .inl vf)), (fa, .inl (X.2.1, 6 * N, .inl (set6 ff F.length (nI (2 ^ (d + 1))) (nI x) (nI y) (nI S.length) (nI 0) (nI (low (ps L S)))))), (oa, .inl (X.2.1, 512, .inl o))] H := hP
      have hD : va_D A_ [(t, .inr (4, [.ref p, .int (nI bk), .int (nI b), .int (nI N), .ref fa, .ref oa, .int (nI (F.length + 1)), .int (nI (max (dpt b F) lv)), .int f_mo])), (p, .inr (2, [.ref k, .ref v, .int (nI L.length), .int (nI w)])), (k, .inl (X.2.1, 512, .inl kf)), (v, .inl (X.2.1, 512, .inl vf)), (fa, .inl (X.2.1, 6 * N, .inl (set6 ff F.length (nI (2 ^ (d + 1))) (nI x) (nI y) (nI S.length) (nI 0) (nI (low (ps L S)))))), (oa, .inl (X.2.1, 512, .inl o))] := hD
      have hpush : fOk (set6 ff F.length (nI (2 ^ (d + 1))) (nI x) (nI y) (nI S.length) (nI 0) (nI (low (ps L S)))) (F ++ [(d + 1, x, y, (ps L S).length, 0, low (ps L S))]) := by
        rw [ps_len]
        exact fOk_push hF (d + 1, x, y, S.length, 0, low (ps L S))
      have hdpt : max (dpt b F) lv = dpt b (F ++ [(d + 1, x, y, (ps L S).length, 0, low (ps L S))]) := by
        rw [dpt_app]
        show _ = max _ (max (b - (d + 1)) 0)
        omega
      refine lv_iload_n hx hb dX4_grow_131 rfl (lv_at hl 4 rfl) ?_
      refine lv_iload_n hx hb dX4_grow_132 rfl (lv_at hl 3 rfl) ?_
      refine lv_isub hx hb dX4_grow_133 ?_
      refine lv_topi (fun x_19 ex_19 => ?_)
      obtain rfl : x_19 = nI S.length := by
        rw [ex_19]
        rw [pk_sub (by omega)]
        congr 1
        omega
      refine lv_aload_n hx hb dX4_grow_134 rfl (lv_at hl 2 rfl) ?_
      refine va_get (D := X.1) (ci := 4) (v := .int (nI bk)) (C := RX4) (T := TX4) (N := 9) hx hb hts hin4 hown hK hP 0 rfl rfl 1 (by decide) lk29 (fun _ h9 => h9) rfl dX4_grow_135 ?_
      refine lv_icmp_gt (tgt := 142) hx hb dX4_grow_138 (by decide) (fun c_138 => ?_) (fun c_138 => ?_)
      · replace c_138 : bk < S.length := (nI_ltI (by omega) (by omega)).mp c_138
        refine lv_iload hx hb dX4_grow_142 (lv_at hl 1 rfl) ?_
        refine lv_iconst (v := nI 1) hx hb dX4_grow_144 (by decide) ?_
        refine lv_ishr hx hb dX4_grow_145 ?_
        refine lv_topi (fun x_20 ex_20 => ?_)
        obtain rfl : x_20 = nI (2 ^ d) := by
          rw [ex_20]
          rw [pk_shrN (by omega) _ 1 (by decide)]
          congr 1
          omega
        refine lv_istore (lv' := [(8, .int (nI (2 ^ d))), (7, .int (nI (F.length * 6))), (6, .int (nI (2 ^ (d + 1)))), (0, .ref t), (1, .int (nI A.length)), (2, .int (nI (A.length + S.length))), (3, .int (nI x)), (4, .int (nI y)), (5, .int (nI lv))]) hx hb dX4_grow_146 hl (by decide) rfl (fun ls hl => ?_)
        refine lv_iload_n hx hb dX4_grow_148 rfl (lv_at hl 4 rfl) ?_
        refine lv_istore (lv' := [(9, .int (nI A.length)), (8, .int (nI (2 ^ d))), (7, .int (nI (F.length * 6))), (6, .int (nI (2 ^ (d + 1)))), (0, .ref t), (1, .int (nI A.length)), (2, .int (nI (A.length + S.length))), (3, .int (nI x)), (4, .int (nI y)), (5, .int (nI lv))]) hx hb dX4_grow_149 hl (by decide) rfl (fun ls hl => ?_)
        refine lv_iconst (v := nI 0) hx hb dX4_grow_151 (by decide) ?_
        refine lv_istore (lv' := [(10, .int (nI 0)), (9, .int (nI A.length)), (8, .int (nI (2 ^ d))), (7, .int (nI (F.length * 6))), (6, .int (nI (2 ^ (d + 1)))), (0, .ref t), (1, .int (nI A.length)), (2, .int (nI (A.length + S.length))), (3, .int (nI x)), (4, .int (nI y)), (5, .int (nI lv))]) hx hb dX4_grow_152 hl (by decide) rfl (fun ls hl => ?_)
        have loop_154 : ∀ (fu : Nat) (q : Nat) (ff1 : Nat → Int32) (o1 : Nat → Int32) (Dn : List Nat) (R : List Nat), (q ≤ 4) → (fOk ff1 (gq bk d x y N (ps L S) F q (msk x y (2 ^ d) (ps L S) q))) → (oOk o1 (A ++ Dn ++ R ++ B) L.length) → ((Dn ++ R).Perm S) → (∀ q', q ≤ q' → q' < 4 → (R.filter (inS L (x + q' % 2 * 2 ^ d) (y + q' / 2 * 2 ^ d) (2 ^ d))).Perm (S.filter (inS L (x + q' % 2 * 2 ^ d) (y + q' / 2 * 2 ^ d) (2 ^ d)))) → 4 - q < fu → ∀ (H : Heap) (locs : List Loc), va_P X.1 vwCl [(t, .inr (4, [.ref p, .int (nI bk), .int (nI b), .int (nI N), .ref fa, .ref oa, .int (nI ((gq bk d x y N (ps L S) F q (msk x y (2 ^ d) (ps L S) q)).length)), .int (nI (dpt b (gq bk d x y N (ps L S) F q (msk x y (2 ^ d) (ps L S) q)))), .int f_mo])), (p, .inr (2, [.ref k, .ref v, .int (nI L.length), .int (nI w)])), (k, .inl (X.2.1, 512, .inl kf)), (v, .inl (X.2.1, 512, .inl vf)), (fa, .inl (X.2.1, 6 * N, .inl ff1)), (oa, .inl (X.2.1, 512, .inl o1))] H → va_D A_ [(t, .inr (4, [.ref p, .int (nI bk), .int (nI b), .int (nI N), .ref fa, .ref oa, .int (nI ((gq bk d x y N (ps L S) F q (msk x y (2 ^ d) (ps L S) q)).length)), .int (nI (dpt b (gq bk d x y N (ps L S) F q (msk x y (2 ^ d) (ps L S) q)))), .int f_mo])), (p, .inr (2, [.ref k, .ref v, .int (nI L.length), .int (nI w)])), (k, .inl (X.2.1, 512, .inl kf)), (v, .inl (X.2.1, 512, .inl vf)), (fa, .inl (X.2.1, 6 * N, .inl ff1)), (oa, .inl (X.2.1, 512, .inl o1))] → va_S A_ sz.heap H locs → ∀ (ls : Array Slot), lv_has ls 14 [(0, .ref t), (2, .int (nI (A.length + S.length))), (3, .int (nI x)), (4, .int (nI y)), (5, .int (nI lv)), (7, .int (nI (F.length * 6))), (8, .int (nI (2 ^ d))), (9, .int (nI (A.length + Dn.length))), (10, .int (nI q))] → W pz l ez (headSpec wsX4_grow (rmk (d + 1 + 3))).room sz mz ([.ref t, .int (nI A.length), .int (nI (A.length + S.length)), .int (nI x), .int (nI y), .int (nI lv)].toArray) below meth cz H locs 0 0 Q (F0 mz 154 ls []) := by
          intro fu
          induction fu with
          | zero => intro q ff1 o1 Dn R h1 h3 h4 h5 h6 hfu; exact absurd hfu (Nat.not_lt_zero _)
          | succ fu ih =>
            intro q ff1 o1 Dn R h1 h3 h4 h5 h6 hfu H locs hP hD hS ls hl
            have hlS := h5.length_eq
            rw [List.length_append] at hlS
            refine lv_iload hx hb dX4_grow_154 (lv_at hl 8 rfl) ?_
            refine lv_iconst (v := nI 4) hx hb dX4_grow_156 (by decide) ?_
            refine lv_icmp_ge (tgt := 247) hx hb dX4_grow_157 (by decide) (fun c_157 => ?_) (fun c_157 => ?_)
            · replace c_157 : 4 ≤ q := (nI_leI (by omega) (by omega)).mp c_157
              obtain rfl : q = 4 := by omega
              have hin4 := gF_inner (d := d) (x := x) (y := y) (N := N) (P := ps L S) (F := F) (bk := bk) (by rw [ps_len]; omega)
              rw [← hin4] at hP
              refine wM hQ ?_
              exact rtV (ff1, o1, Dn ++ R) hx hb hr hlocks hP hS (⟨by show fOk ff1 _; rw [hin4]; exact h3, by simpa using h4, h5⟩) dX4_grow_247
            · replace c_157 : ¬ 4 ≤ q := fun h9 => c_157 ((nI_leI (by omega) (by omega)).mpr h9)
              have hqx : q % 2 * 2 ^ d ≤ 2 ^ d := by
                rcases (show q % 2 = 0 ∨ q % 2 = 1 by omega) with z | z <;> rw [z] <;> omega
              have hqy : q / 2 * 2 ^ d ≤ 2 ^ d := by
                rcases (show q / 2 = 0 ∨ q / 2 = 1 by omega) with z | z <;> rw [z] <;> omega
              refine lv_iload_n hx hb dX4_grow_160 rfl (lv_at hl 2 rfl) ?_
              refine lv_iload hx hb dX4_grow_161 (lv_at hl 8 rfl) ?_
              refine lv_iconst (v := nI 1) hx hb dX4_grow_163 (by decide) ?_
              refine lv_iand hx hb dX4_grow_164 ?_
              refine lv_topi (fun x_21 ex_21 => ?_)
              obtain rfl : x_21 = nI (q % 2) := by
                rw [ex_21]
                exact pk_andN (by omega) 1 (by decide)
              refine lv_iload hx hb dX4_grow_165 (lv_at hl 6 rfl) ?_
              refine lv_imul hx hb dX4_grow_167 ?_
              refine lv_topi (fun x_22 ex_22 => ?_)
              obtain rfl : x_22 = nI ((q % 2) * (2 ^ d)) := by
                rw [ex_22]
                exact pk_mul _ _
              refine lv_iadd hx hb dX4_grow_168 ?_
              refine lv_topi (fun x_23 ex_23 => ?_)
              obtain rfl : x_23 = nI (x + ((q % 2) * (2 ^ d))) := by
                rw [ex_23]
                exact nI_add _ _
              refine lv_istore (lv' := [(11, .int (nI (x + ((q % 2) * (2 ^ d))))), (0, .ref t), (2, .int (nI (A.length + S.length))), (3, .int (nI x)), (4, .int (nI y)), (5, .int (nI lv)), (7, .int (nI (F.length * 6))), (8, .int (nI (2 ^ d))), (9, .int (nI (A.length + Dn.length))), (10, .int (nI q))]) hx hb dX4_grow_169 hl (by decide) rfl (fun ls hl => ?_)
              refine lv_iload hx hb dX4_grow_171 (lv_at hl 4 rfl) ?_
              refine lv_iload hx hb dX4_grow_173 (lv_at hl 9 rfl) ?_
              refine lv_iconst (v := nI 1) hx hb dX4_grow_175 (by decide) ?_
              refine lv_ishr hx hb dX4_grow_176 ?_
              refine lv_topi (fun x_24 ex_24 => ?_)
              obtain rfl : x_24 = nI (q / 2) := by
                rw [ex_24]
                exact pk_shrN (by omega) _ 1 (by decide)
              refine lv_iload hx hb dX4_grow_177 (lv_at hl 7 rfl) ?_
              refine lv_imul hx hb dX4_grow_179 ?_
              refine lv_topi (fun x_25 ex_25 => ?_)
              obtain rfl : x_25 = nI ((q / 2) * (2 ^ d)) := by
                rw [ex_25]
                exact pk_mul _ _
              refine lv_iadd hx hb dX4_grow_180 ?_
              refine lv_topi (fun x_26 ex_26 => ?_)
              obtain rfl : x_26 = nI (y + ((q / 2) * (2 ^ d))) := by
                rw [ex_26]
                exact nI_add _ _
              refine lv_istore (lv' := [(12, .int (nI (y + ((q / 2) * (2 ^ d))))), (11, .int (nI (x + ((q % 2) * (2 ^ d))))), (0, .ref t), (2, .int (nI (A.length + S.length))), (3, .int (nI x)), (4, .int (nI y)), (5, .int (nI lv)), (7, .int (nI (F.length * 6))), (8, .int (nI (2 ^ d))), (9, .int (nI (A.length + Dn.length))), (10, .int (nI q))]) hx hb dX4_grow_181 hl (by decide) rfl (fun ls hl => ?_)
              refine lv_aload_n hx hb dX4_grow_183 rfl (lv_at hl 2 rfl) ?_
              refine lv_iload hx hb dX4_grow_184 (lv_at hl 9 rfl) ?_
              refine lv_iload_n hx hb dX4_grow_186 rfl (lv_at hl 3 rfl) ?_
              refine lv_iload hx hb dX4_grow_187 (lv_at hl 1 rfl) ?_
              refine lv_iload hx hb dX4_grow_189 (lv_at hl 0 rfl) ?_
              refine lv_iload hx hb dX4_grow_191 (lv_at hl 8 rfl) ?_
              refine ckVi (As := [.int (nI (A.length + Dn.length)), .int (nI (A.length + S.length)), .int (nI (x + ((q % 2) * (2 ^ d)))), .int (nI (y + ((q / 2) * (2 ^ d)))), .int (nI (2 ^ d))]) (rest := []) 0 [0, 1, 2, 5] (c_X4_gather l X t p k v fa oa bk b N ((gq bk d x y N (ps L S) F q (msk x y (2 ^ d) (ps L S) q)).length) (dpt b (gq bk d x y N (ps L S) F q (msk x y (2 ^ d) (ps L S) q))) f_mo w (A.length + Dn.length) (A.length + S.length) (x + ((q % 2) * (2 ^ d))) (y + ((q / 2) * (2 ^ d))) (2 ^ d) kf vf o1 L (A ++ Dn) R B h h4 (by simp only [List.length_append]; omega) hd0 (by omega) (by omega) List.length_append.symm (by rw [List.length_append]; omega)) ⟨hx, hb, hml, hown, hts⟩ (cwV 5 hts gX4_grow_X4_gather rfl rfl rfl (by decide +kernel) ⟨Nat.le_of_ble_eq_true rfl, Nat.le_of_ble_eq_true rfl⟩) hK hN hP hD hS (by decide) rfl (ci := 4) rfl rfl (fun _ => rfl) rfl hl.1 rfl (Nat.le_of_ble_eq_true rfl) dX4_grow_193 ⟨Nat.zero_le _, Nat.zero_le _⟩ (fun r_28 u_27 H locs hc_193 hP hD hS => ?_)
              obtain ⟨o2, R2⟩ := u_27
              have hP : va_P X.1 vwCl [(t, .inr (4, [.ref p, .int (nI bk), .int (nI b), .int (nI N), .ref fa, .ref oa, .int (nI ((gq bk d x y N (ps L S) F q (msk x y (2 ^ d) (ps L S) q)).length)), .int (nI (dpt b (gq bk d x y N (ps L S) F q (msk x y (2 ^ d) (ps L S) q)))), .int f_mo])), (p, .inr (2, [.ref k, .ref v, .int (nI L.length), .int (nI w)])), (k, .inl (X.2.1, 512, .inl kf)), (v, .inl (X.2.1, 512, .inl vf)), (fa, .inl (X.2.1, 6 * N, .inl ff1)), (oa, .inl (X.2.1, 512, .inl o2))] H := hP
              have hD : va_D A_ [(t, .inr (4, [.ref p, .int (nI bk), .int (nI b), .int (nI N), .ref fa, .ref oa, .int (nI ((gq bk d x y N (ps L S) F q (msk x y (2 ^ d) (ps L S) q)).length)), .int (nI (dpt b (gq bk d x y N (ps L S) F q (msk x y (2 ^ d) (ps L S) q)))), .int f_mo])), (p, .inr (2, [.ref k, .ref v, .int (nI L.length), .int (nI w)])), (k, .inl (X.2.1, 512, .inl kf)), (v, .inl (X.2.1, 512, .inl vf)), (fa, .inl (X.2.1, 6 * N, .inl ff1)), (oa, .inl (X.2.1, 512, .inl o2))] := hD
              try dsimp only at hc_193
              obtain ⟨rfl, ho2, hR2⟩ := hc_193
              have hP6 := h6 q (Nat.le_refl q) (by omega)
              have hsub : (ps L (R.filter (inS L (x + (q % 2) * (2 ^ d)) (y + (q / 2) * (2 ^ d)) (2 ^ d)))).Perm (sub x y (2 ^ d) (ps L S) q) := by
                have e9 := ps_perm (L := L) hP6
                rw [ps_filter L S] at e9
                exact e9
              have hsl : (R.filter (inS L (x + (q % 2) * (2 ^ d)) (y + (q / 2) * (2 ^ d)) (2 ^ d))).length = (sub x y (2 ^ d) (ps L S) q).length := by
                rw [← hsub.length_eq, ps_len]
              have hRl : (R.filter (inS L (x + (q % 2) * (2 ^ d)) (y + (q / 2) * (2 ^ d)) (2 ^ d))).length ≤ R.length := List.length_filter_le _ _
              have hlA : (A ++ Dn).length = A.length + Dn.length := List.length_append
              have hpp : (Dn ++ (R.filter (inS L (x + (q % 2) * (2 ^ d)) (y + (q / 2) * (2 ^ d)) (2 ^ d)) ++ R2)).Perm S := ((List.Perm.append_left Dn ((List.Perm.append_left _ hR2).trans (List.filter_append_perm _ R))).trans h5)
              refine lv_istore (lv' := [(13, .int (nI ((A ++ Dn).length + (R.filter (inS L (x + (q % 2) * (2 ^ d)) (y + (q / 2) * (2 ^ d)) (2 ^ d))).length))), (12, .int (nI (y + ((q / 2) * (2 ^ d))))), (11, .int (nI (x + ((q % 2) * (2 ^ d))))), (0, .ref t), (2, .int (nI (A.length + S.length))), (3, .int (nI x)), (4, .int (nI y)), (5, .int (nI lv)), (7, .int (nI (F.length * 6))), (8, .int (nI (2 ^ d))), (9, .int (nI (A.length + Dn.length))), (10, .int (nI q))]) hx hb dX4_grow_196 hl (by decide) rfl (fun ls hl => ?_)
              refine lv_iload hx hb dX4_grow_198 (lv_at hl 0 rfl) ?_
              refine lv_iload hx hb dX4_grow_200 (lv_at hl 10 rfl) ?_
              refine lv_icmp_le (tgt := 237) hx hb dX4_grow_202 (by decide) (fun c_202 => ?_) (fun c_202 => ?_)
              · replace c_202 : ((A ++ Dn).length + (R.filter (inS L (x + (q % 2) * (2 ^ d)) (y + (q / 2) * (2 ^ d)) (2 ^ d))).length) ≤ (A.length + Dn.length) := (nI_leI (by omega) (by omega)).mp c_202
                have hz0 : (sub x y (2 ^ d) (ps L S) q).length = 0 := by omega
                have hfe : R.filter (inS L (x + (q % 2) * (2 ^ d)) (y + (q / 2) * (2 ^ d)) (2 ^ d)) = [] := List.length_eq_zero_iff.mp (by omega)
                have hlen0 : (A ++ Dn).length + (R.filter (inS L (x + (q % 2) * (2 ^ d)) (y + (q / 2) * (2 ^ d)) (2 ^ d))).length = A.length + Dn.length := by omega
                have e1 : gq bk d x y N (ps L S) F q (msk x y (2 ^ d) (ps L S) q) = gq bk d x y N (ps L S) F (q + 1) (msk x y (2 ^ d) (ps L S) (q + 1)) := by
                  have emk : msk x y (2 ^ d) (ps L S) (q + 1) = msk x y (2 ^ d) (ps L S) q := by
                    show msk x y (2 ^ d) (ps L S) q + (if (sub x y (2 ^ d) (ps L S) q).length = 0 then 0 else 2 ^ q) = msk x y (2 ^ d) (ps L S) q
                    rw [if_pos hz0]; rfl
                  rw [emk]
                  exact gq_nokid hz0
                refine lv_iload hx hb dX4_grow_237 (lv_at hl 0 rfl) ?_
                refine lv_istore (lv' := [(9, .int (nI ((A ++ Dn).length + (R.filter (inS L (x + (q % 2) * (2 ^ d)) (y + (q / 2) * (2 ^ d)) (2 ^ d))).length))), (13, .int (nI ((A ++ Dn).length + (R.filter (inS L (x + (q % 2) * (2 ^ d)) (y + (q / 2) * (2 ^ d)) (2 ^ d))).length))), (12, .int (nI (y + ((q / 2) * (2 ^ d))))), (11, .int (nI (x + ((q % 2) * (2 ^ d))))), (0, .ref t), (2, .int (nI (A.length + S.length))), (3, .int (nI x)), (4, .int (nI y)), (5, .int (nI lv)), (7, .int (nI (F.length * 6))), (8, .int (nI (2 ^ d))), (10, .int (nI q))]) hx hb dX4_grow_239 hl (by decide) rfl (fun ls hl => ?_)
                refine lv_iinc (v := nI (q + 1)) (lv' := [(10, .int (nI (q + 1))), (9, .int (nI ((A ++ Dn).length + (R.filter (inS L (x + (q % 2) * (2 ^ d)) (y + (q / 2) * (2 ^ d)) (2 ^ d))).length))), (13, .int (nI ((A ++ Dn).length + (R.filter (inS L (x + (q % 2) * (2 ^ d)) (y + (q / 2) * (2 ^ d)) (2 ^ d))).length))), (12, .int (nI (y + ((q / 2) * (2 ^ d))))), (11, .int (nI (x + ((q % 2) * (2 ^ d))))), (0, .ref t), (2, .int (nI (A.length + S.length))), (3, .int (nI x)), (4, .int (nI y)), (5, .int (nI lv)), (7, .int (nI (F.length * 6))), (8, .int (nI (2 ^ d)))]) hx hb dX4_grow_241 hl (k := 11) rfl (by rw [show Int32.ofInt 1 = nI 1 from by decide]; exact nI_add _ _) (by decide) rfl (fun ls hl => ?_)
                refine lv_goto (tgt := 154) hx hb dX4_grow_244 (by decide) ?_
                rw [e1] at hP hD
                have hl : lv_has ls 14 [(10, .int (nI (q + 1))), (9, .int (nI (A.length + Dn.length))), (13, .int (nI (A.length + Dn.length))), (12, .int (nI (y + ((q / 2) * (2 ^ d))))), (11, .int (nI (x + ((q % 2) * (2 ^ d))))), (0, .ref t), (2, .int (nI (A.length + S.length))), (3, .int (nI x)), (4, .int (nI y)), (5, .int (nI lv)), (7, .int (nI (F.length * 6))), (8, .int (nI (2 ^ d)))] := by
                  have hl := hl
                  rw [hlen0] at hl
                  exact hl
                exact ih (q + 1) ff1 o2 Dn R2 (by omega) (by rw [← e1]; exact h3) (by rw [hfe] at ho2; simpa using ho2) (by rw [hfe] at hpp; simpa using hpp) (by exact fun q' hq1 hq2 => r_step (by omega) hq2 (by omega) hR2 (h6 q' (by omega) hq2)) (by omega) _ _ hP hD hS ls (lv_sub hl [5, 6, 7, 8, 9, 10, 11, 1, 0] rfl)
              · replace c_202 : ¬ ((A ++ Dn).length + (R.filter (inS L (x + (q % 2) * (2 ^ d)) (y + (q / 2) * (2 ^ d)) (2 ^ d))).length) ≤ (A.length + Dn.length) := fun h9 => c_202 ((nI_leI (by omega) (by omega)).mpr h9)
                refine lv_aload_n hx hb dX4_grow_205 rfl (lv_at hl 3 rfl) ?_
                refine va_get (D := X.1) (ci := 4) (v := .ref fa) (C := RX4) (T := TX4) (N := 9) hx hb hts hin4 hown hK hP 0 rfl rfl 4 (by decide) lk38 (fun _ h9 => h9) rfl dX4_grow_206 ?_
                refine lv_iload hx hb dX4_grow_209 (lv_at hl 8 rfl) ?_
                refine lv_iconst (v := nI 4) hx hb dX4_grow_211 (by decide) ?_
                refine lv_iadd hx hb dX4_grow_212 ?_
                refine lv_topi (fun x_29 ex_29 => ?_)
                obtain rfl : x_29 = nI ((F.length * 6) + 4) := by
                  rw [ex_29]
                  exact nI_add _ _
                refine lv_dup2_11 hx hb dX4_grow_213 rfl rfl ?_
                have hi_30 : vp_in (nI ((F.length * 6) + 4)) (6 * N) := vp_in_nI (by omega) (by omega)
                refine va_iald hx hb hK hP 4 0 rfl rfl hi_30 dX4_grow_214 ?_
                refine lv_topi (fun x_31 ex_31 => ?_)
                obtain rfl : x_31 = ff1 ((F.length * 6) + 4) := by
                  rw [ex_31]
                  rw [nI_clamp (by omega)]
                refine lv_topi (fun x_32 ex_32 => ?_)
                obtain rfl : x_32 = nI (msk x y (2 ^ d) (ps L S) q) := by
                  rw [ex_32]
                  exact gq_at c_17 h3
                refine lv_iconst (v := nI 1) hx hb dX4_grow_215 (by decide) ?_
                refine lv_iload hx hb dX4_grow_216 (lv_at hl 11 rfl) ?_
                refine lv_ishl hx hb dX4_grow_218 ?_
                refine lv_topi (fun x_33 ex_33 => ?_)
                obtain rfl : x_33 = nI (2 ^ q) := by
                  rw [ex_33]
                  exact bI_1shl (by omega)
                refine lv_ior hx hb dX4_grow_219 ?_
                refine lv_topi (fun x_34 ex_34 => ?_)
                obtain rfl : x_34 = nI (msk x y (2 ^ d) (ps L S) q + 2 ^ q) := by
                  rw [ex_34]
                  exact or_msk (msk_lt _ _ _ _ _)
                have hi_35 : vp_in (nI ((F.length * 6) + 4)) (6 * N) := vp_in_nI (by omega) (by omega)
                refine va_iast hx hb hK hP hD hS 4 0 rfl rfl hi_35 dX4_grow_220 (fun H locs hP hD hS => ?_)
                rw [nI_clamp (by omega)] at hP hD
                have hP : va_P X.1 vwCl [(t, .inr (4, [.ref p, .int (nI bk), .int (nI b), .int (nI N), .ref fa, .ref oa, .int (nI ((gq bk d x y N (ps L S) F q (msk x y (2 ^ d) (ps L S) q)).length)), .int (nI (dpt b (gq bk d x y N (ps L S) F q (msk x y (2 ^ d) (ps L S) q)))), .int f_mo])), (p, .inr (2, [.ref k, .ref v, .int (nI L.length), .int (nI w)])), (k, .inl (X.2.1, 512, .inl kf)), (v, .inl (X.2.1, 512, .inl vf)), (fa, .inl (X.2.1, 6 * N, .inl (upd ff1 ((F.length * 6) + 4) (nI (msk x y (2 ^ d) (ps L S) q + 2 ^ q))))), (oa, .inl (X.2.1, 512, .inl o2))] H := hP
                have hD : va_D A_ [(t, .inr (4, [.ref p, .int (nI bk), .int (nI b), .int (nI N), .ref fa, .ref oa, .int (nI ((gq bk d x y N (ps L S) F q (msk x y (2 ^ d) (ps L S) q)).length)), .int (nI (dpt b (gq bk d x y N (ps L S) F q (msk x y (2 ^ d) (ps L S) q)))), .int f_mo])), (p, .inr (2, [.ref k, .ref v, .int (nI L.length), .int (nI w)])), (k, .inl (X.2.1, 512, .inl kf)), (v, .inl (X.2.1, 512, .inl vf)), (fa, .inl (X.2.1, 6 * N, .inl (upd ff1 ((F.length * 6) + 4) (nI (msk x y (2 ^ d) (ps L S) q + 2 ^ q))))), (oa, .inl (X.2.1, 512, .inl o2))] := hD
                have hmk := gq_mask (m' := msk x y (2 ^ d) (ps L S) q + 2 ^ q) c_17 h3
                rw [gq_len (m := msk x y (2 ^ d) (ps L S) q) (m' := msk x y (2 ^ d) (ps L S) q + 2 ^ q), gq_dpt (m := msk x y (2 ^ d) (ps L S) q) (m' := msk x y (2 ^ d) (ps L S) q + 2 ^ q)] at hP hD
                have hP : va_P X.1 vwCl [(t, .inr (4, [.ref p, .int (nI bk), .int (nI b), .int (nI N), .ref fa, .ref oa, .int (nI ((gq bk d x y N (ps L S) F q (msk x y (2 ^ d) (ps L S) q + 2 ^ q)).length)), .int (nI (dpt b (gq bk d x y N (ps L S) F q (msk x y (2 ^ d) (ps L S) q + 2 ^ q)))), .int f_mo])), (p, .inr (2, [.ref k, .ref v, .int (nI L.length), .int (nI w)])), (k, .inl (X.2.1, 512, .inl kf)), (v, .inl (X.2.1, 512, .inl vf)), (fa, .inl (X.2.1, 6 * N, .inl (upd ff1 ((F.length * 6) + 4) (nI (msk x y (2 ^ d) (ps L S) q + 2 ^ q))))), (oa, .inl (X.2.1, 512, .inl o2))] _ := hP
                have hD : va_D A_ [(t, .inr (4, [.ref p, .int (nI bk), .int (nI b), .int (nI N), .ref fa, .ref oa, .int (nI ((gq bk d x y N (ps L S) F q (msk x y (2 ^ d) (ps L S) q + 2 ^ q)).length)), .int (nI (dpt b (gq bk d x y N (ps L S) F q (msk x y (2 ^ d) (ps L S) q + 2 ^ q)))), .int f_mo])), (p, .inr (2, [.ref k, .ref v, .int (nI L.length), .int (nI w)])), (k, .inl (X.2.1, 512, .inl kf)), (v, .inl (X.2.1, 512, .inl vf)), (fa, .inl (X.2.1, 6 * N, .inl (upd ff1 ((F.length * 6) + 4) (nI (msk x y (2 ^ d) (ps L S) q + 2 ^ q))))), (oa, .inl (X.2.1, 512, .inl o2))] := hD
                have hndq : (R.filter (inS L (x + (q % 2) * (2 ^ d)) (y + (q / 2) * (2 ^ d)) (2 ^ d))).Nodup := (((h5.nodup_iff).mpr hnd).sublist (List.sublist_append_right Dn R)).sublist List.filter_sublist
                refine lv_aload_n hx hb dX4_grow_221 rfl (lv_at hl 3 rfl) ?_
                refine lv_iload hx hb dX4_grow_222 (lv_at hl 10 rfl) ?_
                refine lv_iload hx hb dX4_grow_224 (lv_at hl 0 rfl) ?_
                refine lv_iload hx hb dX4_grow_226 (lv_at hl 2 rfl) ?_
                refine lv_iload hx hb dX4_grow_228 (lv_at hl 1 rfl) ?_
                refine lv_iload hx hb dX4_grow_230 (lv_at hl 7 rfl) ?_
                refine lv_iconst (v := nI 1) hx hb dX4_grow_232 (by decide) ?_
                refine lv_iadd hx hb dX4_grow_233 ?_
                refine lv_topi (fun x_36 ex_36 => ?_)
                obtain rfl : x_36 = nI (lv + 1) := by
                  rw [ex_36]
                  exact nI_add _ _
                refine ckSv (As := [.ref t, .int (nI (A.length + Dn.length)), .int (nI ((A ++ Dn).length + (R.filter (inS L (x + (q % 2) * (2 ^ d)) (y + (q / 2) * (2 ^ d)) (2 ^ d))).length)), .int (nI (x + ((q % 2) * (2 ^ d)))), .int (nI (y + ((q / 2) * (2 ^ d)))), .int (nI (lv + 1))]) (rest := []) [0, 1, 2, 3, 4, 5] (ihd t p k v fa oa bk b N (x + ((q % 2) * (2 ^ d))) (y + ((q / 2) * (2 ^ d))) (lv + 1) w (A.length + Dn.length) ((A ++ Dn).length + (R.filter (inS L (x + (q % 2) * (2 ^ d)) (y + (q / 2) * (2 ^ d)) (2 ^ d))).length) f_mo kf vf (upd ff1 ((F.length * 6) + 4) (nI (msk x y (2 ^ d) (ps L S) q + 2 ^ q))) o2 L (gq bk d x y N (ps L S) F q (msk x y (2 ^ d) (ps L S) q + 2 ^ q)) (A ++ Dn) (R.filter (inS L (x + (q % 2) * (2 ^ d)) (y + (q / 2) * (2 ^ d)) (2 ^ d))) (R2 ++ B) h hmk (List.length_take_le _ _) hN4 (by simpa using ho2) (by have e8 := hpp.length_eq; simp only [List.length_append] at e8 ⊢; omega) List.length_append.symm rfl (by omega) hb1 hbk hbk2 (by omega) (by omega) hndq (fun i hi => (List.mem_filter.mp hi).2)) ⟨hx, hb, hml, hown, hts⟩ (va_cwS 6 hts gX4_grow_X4_grow rfl rfl rfl (by decide +kernel) ⟨(by show d + 3 + 1 + 1 ≤ d + 1 + 3 + 1; omega), (by show 8 + (14 + 11) + 100 * (d + 3 + 1) ≤ 100 * (d + 1 + 3 + 1); omega)⟩) hK hN hP hD hS (by decide) rfl (fun _ => rfl) rfl hl.1 rfl (Nat.le_of_ble_eq_true rfl) dX4_grow_234 ⟨Nat.zero_le _, Nat.zero_le _⟩ (fun u_37 H locs hg hP hD hS => ?_)
                obtain ⟨ff2, o3, S3⟩ := u_37
                have hP : va_P X.1 vwCl [(t, .inr (4, [.ref p, .int (nI bk), .int (nI b), .int (nI N), .ref fa, .ref oa, .int (nI ((gF bk d (x + ((q % 2) * (2 ^ d))) (y + ((q / 2) * (2 ^ d))) N (ps L (R.filter (inS L (x + (q % 2) * (2 ^ d)) (y + (q / 2) * (2 ^ d)) (2 ^ d)))) (gq bk d x y N (ps L S) F q (msk x y (2 ^ d) (ps L S) q + 2 ^ q))).length)), .int (nI (dpt b (gF bk d (x + ((q % 2) * (2 ^ d))) (y + ((q / 2) * (2 ^ d))) N (ps L (R.filter (inS L (x + (q % 2) * (2 ^ d)) (y + (q / 2) * (2 ^ d)) (2 ^ d)))) (gq bk d x y N (ps L S) F q (msk x y (2 ^ d) (ps L S) q + 2 ^ q))))), .int f_mo])), (p, .inr (2, [.ref k, .ref v, .int (nI L.length), .int (nI w)])), (k, .inl (X.2.1, 512, .inl kf)), (v, .inl (X.2.1, 512, .inl vf)), (fa, .inl (X.2.1, 6 * N, .inl ff2)), (oa, .inl (X.2.1, 512, .inl o3))] H := hP
                have hD : va_D A_ [(t, .inr (4, [.ref p, .int (nI bk), .int (nI b), .int (nI N), .ref fa, .ref oa, .int (nI ((gF bk d (x + ((q % 2) * (2 ^ d))) (y + ((q / 2) * (2 ^ d))) N (ps L (R.filter (inS L (x + (q % 2) * (2 ^ d)) (y + (q / 2) * (2 ^ d)) (2 ^ d)))) (gq bk d x y N (ps L S) F q (msk x y (2 ^ d) (ps L S) q + 2 ^ q))).length)), .int (nI (dpt b (gF bk d (x + ((q % 2) * (2 ^ d))) (y + ((q / 2) * (2 ^ d))) N (ps L (R.filter (inS L (x + (q % 2) * (2 ^ d)) (y + (q / 2) * (2 ^ d)) (2 ^ d)))) (gq bk d x y N (ps L S) F q (msk x y (2 ^ d) (ps L S) q + 2 ^ q))))), .int f_mo])), (p, .inr (2, [.ref k, .ref v, .int (nI L.length), .int (nI w)])), (k, .inl (X.2.1, 512, .inl kf)), (v, .inl (X.2.1, 512, .inl vf)), (fa, .inl (X.2.1, 6 * N, .inl ff2)), (oa, .inl (X.2.1, 512, .inl o3))] := hD
                try dsimp only at hg
                obtain ⟨hg1, hg2, hg3⟩ := hg
                have e0 : tr bk d (x + q % 2 * 2 ^ d) (y + q / 2 * 2 ^ d) (ps L (R.filter (inS L (x + (q % 2) * (2 ^ d)) (y + (q / 2) * (2 ^ d)) (2 ^ d)))) = tr bk d (x + q % 2 * 2 ^ d) (y + q / 2 * 2 ^ d) (sub x y (2 ^ d) (ps L S) q) := tr_perm bk d _ _ _ _ hsub
                have emk : msk x y (2 ^ d) (ps L S) q + 2 ^ q = msk x y (2 ^ d) (ps L S) (q + 1) := by
                  show _ = msk x y (2 ^ d) (ps L S) q + (if (sub x y (2 ^ d) (ps L S) q).length = 0 then 0 else 2 ^ q)
                  rw [if_neg (by omega)]
                have e1 : gF bk d (x + (q % 2) * (2 ^ d)) (y + (q / 2) * (2 ^ d)) N (ps L (R.filter (inS L (x + (q % 2) * (2 ^ d)) (y + (q / 2) * (2 ^ d)) (2 ^ d)))) (gq bk d x y N (ps L S) F q (msk x y (2 ^ d) (ps L S) q + 2 ^ q)) = gq bk d x y N (ps L S) F (q + 1) (msk x y (2 ^ d) (ps L S) (q + 1)) := by
                  unfold gF
                  rw [e0, gq_kid (by omega), emk]
                have hpp2 : ((Dn ++ S3) ++ R2).Perm S := by
                  rw [List.append_assoc]
                  exact ((List.Perm.append_left Dn (List.Perm.append_right R2 hg3)).trans hpp)
                have hlen1 : (A ++ Dn).length + (R.filter (inS L (x + (q % 2) * (2 ^ d)) (y + (q / 2) * (2 ^ d)) (2 ^ d))).length = A.length + (Dn ++ S3).length := by
                  rw [List.length_append, List.length_append, hg3.length_eq]
                  omega
                refine lv_iload hx hb dX4_grow_237 (lv_at hl 0 rfl) ?_
                refine lv_istore (lv' := [(9, .int (nI ((A ++ Dn).length + (R.filter (inS L (x + (q % 2) * (2 ^ d)) (y + (q / 2) * (2 ^ d)) (2 ^ d))).length))), (13, .int (nI ((A ++ Dn).length + (R.filter (inS L (x + (q % 2) * (2 ^ d)) (y + (q / 2) * (2 ^ d)) (2 ^ d))).length))), (12, .int (nI (y + ((q / 2) * (2 ^ d))))), (11, .int (nI (x + ((q % 2) * (2 ^ d))))), (0, .ref t), (2, .int (nI (A.length + S.length))), (3, .int (nI x)), (4, .int (nI y)), (5, .int (nI lv)), (7, .int (nI (F.length * 6))), (8, .int (nI (2 ^ d))), (10, .int (nI q))]) hx hb dX4_grow_239 hl (by decide) rfl (fun ls hl => ?_)
                refine lv_iinc (v := nI (q + 1)) (lv' := [(10, .int (nI (q + 1))), (9, .int (nI ((A ++ Dn).length + (R.filter (inS L (x + (q % 2) * (2 ^ d)) (y + (q / 2) * (2 ^ d)) (2 ^ d))).length))), (13, .int (nI ((A ++ Dn).length + (R.filter (inS L (x + (q % 2) * (2 ^ d)) (y + (q / 2) * (2 ^ d)) (2 ^ d))).length))), (12, .int (nI (y + ((q / 2) * (2 ^ d))))), (11, .int (nI (x + ((q % 2) * (2 ^ d))))), (0, .ref t), (2, .int (nI (A.length + S.length))), (3, .int (nI x)), (4, .int (nI y)), (5, .int (nI lv)), (7, .int (nI (F.length * 6))), (8, .int (nI (2 ^ d)))]) hx hb dX4_grow_241 hl (k := 11) rfl (by rw [show Int32.ofInt 1 = nI 1 from by decide]; exact nI_add _ _) (by decide) rfl (fun ls hl => ?_)
                refine lv_goto (tgt := 154) hx hb dX4_grow_244 (by decide) ?_
                rw [e1] at hP hD
                have hl : lv_has ls 14 [(10, .int (nI (q + 1))), (9, .int (nI (A.length + (Dn ++ S3).length))), (13, .int (nI (A.length + (Dn ++ S3).length))), (12, .int (nI (y + ((q / 2) * (2 ^ d))))), (11, .int (nI (x + ((q % 2) * (2 ^ d))))), (0, .ref t), (2, .int (nI (A.length + S.length))), (3, .int (nI x)), (4, .int (nI y)), (5, .int (nI lv)), (7, .int (nI (F.length * 6))), (8, .int (nI (2 ^ d)))] := by
                  have hl := hl
                  rw [hlen1] at hl
                  exact hl
                exact ih (q + 1) ff2 o3 (Dn ++ S3) R2 (by omega) (by rw [← e1]; exact hg1) (by simpa using hg2) (by exact hpp2) (by exact fun q' hq1 hq2 => r_step (by omega) hq2 (by omega) hR2 (h6 q' (by omega) hq2)) (by omega) _ _ hP hD hS ls (lv_sub hl [5, 6, 7, 8, 9, 10, 11, 1, 0] rfl)
        rw [show F.length + 1 = (gq bk d x y N (ps L S) F 0 (msk x y (2 ^ d) (ps L S) 0)).length from by rw [gq_0 c_17]; simp, show max (dpt b F) lv = dpt b (gq bk d x y N (ps L S) F 0 (msk x y (2 ^ d) (ps L S) 0)) from by rw [gq_0 c_17]; exact hdpt] at hP hD
        exact loop_154 _ 0 (set6 ff F.length (nI (2 ^ (d + 1))) (nI x) (nI y) (nI S.length) (nI 0) (nI (low (ps L S)))) o ([] : List Nat) S (by omega) (by rw [gq_0 c_17]; exact hpush) (by simpa using ho) (by simp) (by exact fun q' _ _ => List.Perm.refl _) (Nat.lt_succ_self _) _ _ hP hD hS ls (lv_sub hl [5, 7, 8, 9, 10, 3, 2, 1, 0] rfl)
      · replace c_138 : ¬ bk < S.length := fun h9 => c_138 ((nI_ltI (by omega) (by omega)).mpr h9)
        have hlf := gF_leaf (bk := bk) (d := d) (x := x) (y := y) (P := ps L S) c_17 (by rw [ps_len]; omega)
        rw [show F.length + 1 = (gF bk (d + 1) x y N (ps L S) F).length from by rw [hlf]; simp, show max (dpt b F) lv = dpt b (gF bk (d + 1) x y N (ps L S) F) from by rw [hlf]; exact hdpt] at hP
        refine wM hQ ?_
        exact rtV (set6 ff F.length (nI (2 ^ (d + 1))) (nI x) (nI y) (nI S.length) (nI 0) (nI (low (ps L S))), o, S) hx hb hr hlocks hP hS (⟨by show fOk _ _; rw [hlf]; exact hpush, ho, List.Perm.refl _⟩) dX4_grow_141
    · replace c_17 : ¬ F.length < N := fun h9 => c_17 ((nI_ltI (by omega) (by omega)).mpr h9)
      have hfl := gF_full (bk := bk) (d := d + 1) (x := x) (y := y) (P := ps L S) (F := F) (N := N) (by omega)
      refine wM hQ ?_
      exact rtV (ff, o, S) hx hb hr hlocks (by show va_P X.1 vwCl [(t, .inr (4, [.ref p, .int (nI bk), .int (nI b), .int (nI N), .ref fa, .ref oa, .int (nI ((gF bk (d + 1) x y N (ps L S) F).length)), .int (nI (dpt b (gF bk (d + 1) x y N (ps L S) F))), .int f_mo])), (p, .inr (2, [.ref k, .ref v, .int (nI L.length), .int (nI w)])), (k, .inl (X.2.1, 512, .inl kf)), (v, .inl (X.2.1, 512, .inl vf)), (fa, .inl (X.2.1, 6 * N, .inl ff)), (oa, .inl (X.2.1, 512, .inl o))] _; rw [hfl]; exact hP) hS (⟨by show fOk ff _; rw [hfl]; exact hF, ho, List.Perm.refl _⟩) dX4_grow_20
theorem c_X4_grow (l : Launch) (X : kX) : ∀ (d : Nat) (t p k v fa oa bk b N  x y lv w fr to_ : Nat) (f_mo : Int32) (kf vf ff o : Nat → Int32) (L : PL) (F : List Nd) (A S B : List Nat) (h : ptOk kf vf L) (hF : fOk ff F) (hFN : F.length ≤ N) (hN4 : N ≤ 401) (ho : oOk o (A ++ S ++ B) L.length) (hln : (A ++ S ++ B).length ≤ 512) (hfr : fr = A.length) (hto : to_ = A.length + S.length) (hb0 : lv + (d) = b) (hb1 : b ≤ 15) (hbk : 1 ≤ bk) (hbk2 : bk ≤ 8) (hx0 : x + 2 ^ (d) ≤ 32768) (hy0 : y + 2 ^ (d) ≤ 32768) (hnd : S.Nodup) (hrg : ∀ i ∈ S, inS L x y (2 ^ (d)) i = true), CWv l X yX4_grow wsX4_grow (d + 3) [.ref t, .int (nI fr), .int (nI to_), .int (nI x), .int (nI y), .int (nI lv)] [(t, .inr (4, [.ref p, .int (nI bk), .int (nI b), .int (nI N), .ref fa, .ref oa, .int (nI F.length), .int (nI (dpt b F)), .int f_mo])), (p, .inr (2, [.ref k, .ref v, .int (nI L.length), .int (nI w)])), (k, .inl (X.2.1, 512, .inl kf)), (v, .inl (X.2.1, 512, .inl vf)), (fa, .inl (X.2.1, 6 * N, .inl ff)), (oa, .inl (X.2.1, 512, .inl o))] (S := (Nat → Int32) × (Nat → Int32) × List Nat) (fun u => fOk u.1 (gF bk d x y N (ps L S) F) ∧ oOk u.2.1 (A ++ u.2.2 ++ B) L.length ∧ u.2.2.Perm S) (fun ⟨ff2, o2, S2⟩ => [(t, .inr (4, [.ref p, .int (nI bk), .int (nI b), .int (nI N), .ref fa, .ref oa, .int (nI ((gF bk d x y N (ps L S) F).length)), .int (nI (dpt b (gF bk d x y N (ps L S) F))), .int f_mo])), (p, .inr (2, [.ref k, .ref v, .int (nI L.length), .int (nI w)])), (k, .inl (X.2.1, 512, .inl kf)), (v, .inl (X.2.1, 512, .inl vf)), (fa, .inl (X.2.1, 6 * N, .inl ff2)), (oa, .inl (X.2.1, 512, .inl o2))])
  | 0 => c_X4_grow_0 l X
  | d + 1 => c_X4_grow_s l X d (c_X4_grow l X d)
set_option maxHeartbeats 4000000 in
set_option maxRecDepth 100000 in
theorem c_X4_upToDate (l : Launch) (X : kX) (t p k v fa oa bk b N w : Nat) (f_nn f_dd f_mo : Int32) (kf vf ff o : Nat → Int32) (L : PL) (h : ptOk kf vf L) (hN4 : N ≤ 401) (hb1 : b ≤ 15) (hbk : 1 ≤ bk) (hbk2 : bk ≤ 8) (hrg : ∀ i, i < L.length → inS L 0 0 (2 ^ b) i = true) (hval : f_mo = nI w → f_nn = nI (gF bk b 0 0 N L []).length ∧ f_dd = nI (dpt b (gF bk b 0 0 N L [])) ∧ fOk ff (gF bk b 0 0 N L [])) : CWr l X yX4_upToDate wsX4_upToDate (b + 4) [.ref t] [(t, .inr (4, [.ref p, .int (nI bk), .int (nI b), .int (nI N), .ref fa, .ref oa, .int f_nn, .int f_dd, .int f_mo])), (p, .inr (2, [.ref k, .ref v, .int (nI L.length), .int (nI w)])), (k, .inl (X.2.1, 512, .inl kf)), (v, .inl (X.2.1, 512, .inl vf)), (fa, .inl (X.2.1, 6 * N, .inl ff)), (oa, .inl (X.2.1, 512, .inl o))] t (S := (Nat → Int32) × (Nat → Int32)) (fun u => fOk u.1 (gF bk b 0 0 N L [])) (fun ⟨ff2, o2⟩ => [(t, .inr (4, [.ref p, .int (nI bk), .int (nI b), .int (nI N), .ref fa, .ref oa, .int (nI ((gF bk b 0 0 N L []).length)), .int (nI (dpt b (gF bk b 0 0 N L []))), .int (nI w)])), (p, .inr (2, [.ref k, .ref v, .int (nI L.length), .int (nI w)])), (k, .inl (X.2.1, 512, .inl kf)), (v, .inl (X.2.1, 512, .inl vf)), (fa, .inl (X.2.1, 6 * N, .inl ff2)), (oa, .inl (X.2.1, 512, .inl o2))]) := by
  refine Met.ofW (cc := cX4_upToDate) (maxL := 2) (ret := some ((.object "PointStore$Tree"))) (by decide) rfl ?_
  intro pz ez sz mz args below meth cz s₁ Bz hml hv
  obtain ⟨rfl, hP, hK, hD0, hN⟩ := hv
  have hx := Bz.exec
  have hb := Bz.bytes
  have hr := Bz.returns
  have hts := atoms_spec (ws := wsX4_upToDate) Bz.pre
  have hown : sz.vm.findClass RX4 = some mz.cls := findClass_of_methodNamed Bz.named
  have hlocks := Bz.notSynchronized
  have hD := inW.self hD0
  have hS : va_S (inW [(t, .inr (4, [.ref p, .int (nI bk), .int (nI b), .int (nI N), .ref fa, .ref oa, .int f_nn, .int f_dd, .int f_mo])), (p, .inr (2, [.ref k, .ref v, .int (nI L.length), .int (nI w)])), (k, .inl (X.2.1, 512, .inl kf)), (v, .inl (X.2.1, 512, .inl vf)), (fa, .inl (X.2.1, 6 * N, .inl ff)), (oa, .inl (X.2.1, 512, .inl o))]) sz.heap sz.heap [] := va_S.rf
  have hl := lv_entry ([.ref t]) (n := 2) (Nat.le_of_ble_eq_true rfl)
  rw [lg_entry_eq]
  generalize (lg_sl ([.ref t]) ++ List.replicate (2 - (lg_sl ([.ref t])).length) Slot.unset).toArray = ls at hl ⊢
  have hl : lv_has ls 2 [(0, .ref t)] := hl
  have lk9 := hts (.fieldLink RX4 9 "PointStore$Tree" "order" "[I") (by decide +kernel)
  have lk15 := hts (.fieldLink RX4 15 "PointStore$Tree" "nodes" "I") (by decide +kernel)
  have lk19 := hts (.fieldLink RX4 19 "PointStore$Tree" "depth" "I") (by decide +kernel)
  have lk22 := hts (.fieldLink RX4 22 "PointStore$Tree" "madeOf" "I") (by decide +kernel)
  have lk25 := hts (.fieldLink RX4 25 "PointStore$Tree" "points" "LPointStore$Points;") (by decide +kernel)
  have lk41 := hts (.fieldLink RX4 41 "PointStore$Points" "version" "I") (by decide +kernel)
  have lk46 := hts (.fieldLink RX4 46 "PointStore$Points" "total" "I") (by decide +kernel)
  have hin2 : ∀ w ∈ u_ws RX2 TX2 4, w ∈ wsX4_upToDate := by decide +kernel
  have hin4 : ∀ w ∈ u_ws RX4 TX4 9, w ∈ wsX4_upToDate := by decide +kernel
  refine wQ (fun Q hQ => ?_)
  generalize hAe : inW [(t, .inr (4, [.ref p, .int (nI bk), .int (nI b), .int (nI N), .ref fa, .ref oa, .int f_nn, .int f_dd, .int f_mo])), (p, .inr (2, [.ref k, .ref v, .int (nI L.length), .int (nI w)])), (k, .inl (X.2.1, 512, .inl kf)), (v, .inl (X.2.1, 512, .inl vf)), (fa, .inl (X.2.1, 6 * N, .inl ff)), (oa, .inl (X.2.1, 512, .inl o))] = A_ at hD hS hQ
  have hL := h.1
  have hpb : 2 ^ b ≤ 32768 := Nat.pow_le_pow_right (n := 2) (by decide) hb1
  refine lv_aload_n hx hb dX4_upToDate_0 rfl (lv_at hl 0 rfl) ?_
  refine va_get (D := X.1) (ci := 4) (v := .int f_mo) (C := RX4) (T := TX4) (N := 9) hx hb hts hin4 hown hK hP 0 rfl rfl 8 (by decide) lk22 (fun _ h9 => h9) rfl dX4_upToDate_1 ?_
  refine lv_aload_n hx hb dX4_upToDate_4 rfl (lv_at hl 0 rfl) ?_
  refine va_get (D := X.1) (ci := 4) (v := .ref p) (C := RX4) (T := TX4) (N := 9) hx hb hts hin4 hown hK hP 0 rfl rfl 0 (by decide) lk25 (fun _ h9 => h9) rfl dX4_upToDate_5 ?_
  refine va_get (D := X.1) (ci := 2) (v := .int (nI w)) (C := RX2) (T := TX2) (N := 4) hx hb hts hin2 hown hK hP 1 rfl rfl 3 (by decide) lk41 (fun _ h9 => h9) rfl dX4_upToDate_8 ?_
  refine lv_icmp_eq (tgt := 76) hx hb dX4_upToDate_11 (by decide) (fun c_11 => ?_) (fun c_11 => ?_)
  · skip
    obtain ⟨rfl, rfl, hf⟩ := hval c_11
    obtain rfl := c_11
    · skip
      refine lv_aload_n hx hb dX4_upToDate_76 rfl (lv_at hl 0 rfl) ?_
      refine wM hQ ?_
      exact rtA (ff, o) hx hb hr hlocks hP hS (hf) dX4_upToDate_77
  · skip
    refine lv_iconst (v := nI 0) hx hb dX4_upToDate_14 (by decide) ?_
    refine lv_istore_n (lv' := [(1, .int (nI 0)), (0, .ref t)]) hx hb dX4_upToDate_15 rfl hl (by decide) rfl (fun ls hl => ?_)
    have loop_16 : ∀ (fu : Nat) (i : Nat) (o1 : Nat → Int32), (i ≤ L.length) → (∀ j, j < i → o1 j = nI j) → L.length - i < fu → ∀ (H : Heap) (locs : List Loc), va_P X.1 vwCl [(t, .inr (4, [.ref p, .int (nI bk), .int (nI b), .int (nI N), .ref fa, .ref oa, .int f_nn, .int f_dd, .int f_mo])), (p, .inr (2, [.ref k, .ref v, .int (nI L.length), .int (nI w)])), (k, .inl (X.2.1, 512, .inl kf)), (v, .inl (X.2.1, 512, .inl vf)), (fa, .inl (X.2.1, 6 * N, .inl ff)), (oa, .inl (X.2.1, 512, .inl o1))] H → va_D A_ [(t, .inr (4, [.ref p, .int (nI bk), .int (nI b), .int (nI N), .ref fa, .ref oa, .int f_nn, .int f_dd, .int f_mo])), (p, .inr (2, [.ref k, .ref v, .int (nI L.length), .int (nI w)])), (k, .inl (X.2.1, 512, .inl kf)), (v, .inl (X.2.1, 512, .inl vf)), (fa, .inl (X.2.1, 6 * N, .inl ff)), (oa, .inl (X.2.1, 512, .inl o1))] → va_S A_ sz.heap H locs → ∀ (ls : Array Slot), lv_has ls 2 [(0, .ref t), (1, .int (nI i))] → W pz l ez (headSpec wsX4_upToDate (rmk (b + 4))).room sz mz ([.ref t].toArray) below meth cz H locs 0 0 Q (F0 mz 16 ls []) := by
      intro fu
      induction fu with
      | zero => intro i o1 h1 h2 hfu; exact absurd hfu (Nat.not_lt_zero _)
      | succ fu ih =>
        intro i o1 h1 h2 hfu H locs hP hD hS ls hl
        refine lv_iload_n hx hb dX4_upToDate_16 rfl (lv_at hl 1 rfl) ?_
        refine lv_aload_n hx hb dX4_upToDate_17 rfl (lv_at hl 0 rfl) ?_
        refine va_get (D := X.1) (ci := 4) (v := .ref p) (C := RX4) (T := TX4) (N := 9) hx hb hts hin4 hown hK hP 0 rfl rfl 0 (by decide) lk25 (fun _ h9 => h9) rfl dX4_upToDate_18 ?_
        refine va_get (D := X.1) (ci := 2) (v := .int (nI L.length)) (C := RX2) (T := TX2) (N := 4) hx hb hts hin2 hown hK hP 1 rfl rfl 2 (by decide) lk46 (fun _ h9 => h9) rfl dX4_upToDate_21 ?_
        refine lv_icmp_ge (tgt := 40) hx hb dX4_upToDate_24 (by decide) (fun c_24 => ?_) (fun c_24 => ?_)
        · replace c_24 : L.length ≤ i := (nI_leI (by omega) (by omega)).mp c_24
          refine lv_aload_n hx hb dX4_upToDate_40 rfl (lv_at hl 0 rfl) ?_
          refine lv_iconst (v := nI 0) hx hb dX4_upToDate_41 (by decide) ?_
          refine va_put (D := X.1) (ci := 4) (v := .int (nI 0)) (ty := .int) (C := RX4) (T := TX4) (N := 9) hx hb hts hin4 tyX4 tyX4_ok nmX4 hown hK hP hD hS 0 rfl rfl 6 (by decide) lk15 (fun _ h9 => h9) rfl (by decide +kernel) rfl rfl (Nat.le_of_ble_eq_true rfl) dX4_upToDate_42 (fun H locs hP hD hS => ?_)
          have hP : va_P X.1 vwCl [(t, .inr (4, [.ref p, .int (nI bk), .int (nI b), .int (nI N), .ref fa, .ref oa, .int (nI 0), .int f_dd, .int f_mo])), (p, .inr (2, [.ref k, .ref v, .int (nI L.length), .int (nI w)])), (k, .inl (X.2.1, 512, .inl kf)), (v, .inl (X.2.1, 512, .inl vf)), (fa, .inl (X.2.1, 6 * N, .inl ff)), (oa, .inl (X.2.1, 512, .inl o1))] H := hP
          have hD : va_D A_ [(t, .inr (4, [.ref p, .int (nI bk), .int (nI b), .int (nI N), .ref fa, .ref oa, .int (nI 0), .int f_dd, .int f_mo])), (p, .inr (2, [.ref k, .ref v, .int (nI L.length), .int (nI w)])), (k, .inl (X.2.1, 512, .inl kf)), (v, .inl (X.2.1, 512, .inl vf)), (fa, .inl (X.2.1, 6 * N, .inl ff)), (oa, .inl (X.2.1, 512, .inl o1))] := hD
          refine lv_aload_n hx hb dX4_upToDate_45 rfl (lv_at hl 0 rfl) ?_
          refine lv_iconst (v := nI 0) hx hb dX4_upToDate_46 (by decide) ?_
          refine va_put (D := X.1) (ci := 4) (v := .int (nI 0)) (ty := .int) (C := RX4) (T := TX4) (N := 9) hx hb hts hin4 tyX4 tyX4_ok nmX4 hown hK hP hD hS 0 rfl rfl 7 (by decide) lk19 (fun _ h9 => h9) rfl (by decide +kernel) rfl rfl (Nat.le_of_ble_eq_true rfl) dX4_upToDate_47 (fun H locs hP hD hS => ?_)
          have hP : va_P X.1 vwCl [(t, .inr (4, [.ref p, .int (nI bk), .int (nI b), .int (nI N), .ref fa, .ref oa, .int (nI 0), .int (nI 0), .int f_mo])), (p, .inr (2, [.ref k, .ref v, .int (nI L.length), .int (nI w)])), (k, .inl (X.2.1, 512, .inl kf)), (v, .inl (X.2.1, 512, .inl vf)), (fa, .inl (X.2.1, 6 * N, .inl ff)), (oa, .inl (X.2.1, 512, .inl o1))] H := hP
          have hD : va_D A_ [(t, .inr (4, [.ref p, .int (nI bk), .int (nI b), .int (nI N), .ref fa, .ref oa, .int (nI 0), .int (nI 0), .int f_mo])), (p, .inr (2, [.ref k, .ref v, .int (nI L.length), .int (nI w)])), (k, .inl (X.2.1, 512, .inl kf)), (v, .inl (X.2.1, 512, .inl vf)), (fa, .inl (X.2.1, 6 * N, .inl ff)), (oa, .inl (X.2.1, 512, .inl o1))] := hD
          refine lv_aload_n hx hb dX4_upToDate_50 rfl (lv_at hl 0 rfl) ?_
          refine lv_iconst (v := nI 0) hx hb dX4_upToDate_51 (by decide) ?_
          refine lv_aload_n hx hb dX4_upToDate_52 rfl (lv_at hl 0 rfl) ?_
          refine va_get (D := X.1) (ci := 4) (v := .ref p) (C := RX4) (T := TX4) (N := 9) hx hb hts hin4 hown hK hP 0 rfl rfl 0 (by decide) lk25 (fun _ h9 => h9) rfl dX4_upToDate_53 ?_
          refine va_get (D := X.1) (ci := 2) (v := .int (nI L.length)) (C := RX2) (T := TX2) (N := 4) hx hb hts hin2 hown hK hP 1 rfl rfl 2 (by decide) lk46 (fun _ h9 => h9) rfl dX4_upToDate_56 ?_
          refine lv_iconst (v := nI 0) hx hb dX4_upToDate_59 (by decide) ?_
          refine lv_iconst (v := nI 0) hx hb dX4_upToDate_60 (by decide) ?_
          refine lv_iconst (v := nI 0) hx hb dX4_upToDate_61 (by decide) ?_
          refine ckSv (As := [.ref t, .int (nI 0), .int (nI L.length), .int (nI 0), .int (nI 0), .int (nI 0)]) (rest := []) [0, 1, 2, 3, 4, 5] (c_X4_grow l X b t p k v fa oa bk b N 0 0 0 w 0 L.length f_mo kf vf ff o1 L ([] : List Nd) ([] : List Nat) (List.range L.length) ([] : List Nat) h (fun j hj => absurd hj (Nat.not_lt_zero j)) (Nat.zero_le _) hN4 (o_range (fun j hj => h2 j (by omega))) (by simp; omega) rfl (by simp) (Nat.zero_add b) hb1 hbk hbk2 (by omega) (by omega) List.nodup_range (fun i hi => hrg i (List.mem_range.mp hi))) ⟨hx, hb, hml, hown, hts⟩ (va_cwS 6 hts gX4_upToDate_X4_grow rfl rfl rfl (by decide +kernel) ⟨(by show b + 3 + 1 + 1 ≤ b + 4 + 1; omega), (by show 8 + (14 + 11) + 100 * (b + 3 + 1) ≤ 100 * (b + 4 + 1); omega)⟩) hK hN hP hD hS (by decide) rfl (fun _ => rfl) rfl hl.1 rfl (Nat.le_of_ble_eq_true rfl) dX4_upToDate_62 ⟨Nat.zero_le _, Nat.zero_le _⟩ (fun u_1 H locs hg hP hD hS => ?_)
          obtain ⟨ff2, o2, S2⟩ := u_1
          have hP : va_P X.1 vwCl [(t, .inr (4, [.ref p, .int (nI bk), .int (nI b), .int (nI N), .ref fa, .ref oa, .int (nI ((gF bk b 0 0 N (ps L (List.range L.length)) ([] : List Nd)).length)), .int (nI (dpt b (gF bk b 0 0 N (ps L (List.range L.length)) ([] : List Nd)))), .int f_mo])), (p, .inr (2, [.ref k, .ref v, .int (nI L.length), .int (nI w)])), (k, .inl (X.2.1, 512, .inl kf)), (v, .inl (X.2.1, 512, .inl vf)), (fa, .inl (X.2.1, 6 * N, .inl ff2)), (oa, .inl (X.2.1, 512, .inl o2))] H := hP
          have hD : va_D A_ [(t, .inr (4, [.ref p, .int (nI bk), .int (nI b), .int (nI N), .ref fa, .ref oa, .int (nI ((gF bk b 0 0 N (ps L (List.range L.length)) ([] : List Nd)).length)), .int (nI (dpt b (gF bk b 0 0 N (ps L (List.range L.length)) ([] : List Nd)))), .int f_mo])), (p, .inr (2, [.ref k, .ref v, .int (nI L.length), .int (nI w)])), (k, .inl (X.2.1, 512, .inl kf)), (v, .inl (X.2.1, 512, .inl vf)), (fa, .inl (X.2.1, 6 * N, .inl ff2)), (oa, .inl (X.2.1, 512, .inl o2))] := hD
          try dsimp only at hg
          rw [ps_range] at hP hD hg
          have hP : va_P X.1 vwCl [(t, .inr (4, [.ref p, .int (nI bk), .int (nI b), .int (nI N), .ref fa, .ref oa, .int (nI ((gF bk b 0 0 N L []).length)), .int (nI (dpt b (gF bk b 0 0 N L []))), .int f_mo])), (p, .inr (2, [.ref k, .ref v, .int (nI L.length), .int (nI w)])), (k, .inl (X.2.1, 512, .inl kf)), (v, .inl (X.2.1, 512, .inl vf)), (fa, .inl (X.2.1, 6 * N, .inl ff2)), (oa, .inl (X.2.1, 512, .inl o2))] _ := hP
          have hD : va_D A_ [(t, .inr (4, [.ref p, .int (nI bk), .int (nI b), .int (nI N), .ref fa, .ref oa, .int (nI ((gF bk b 0 0 N L []).length)), .int (nI (dpt b (gF bk b 0 0 N L []))), .int f_mo])), (p, .inr (2, [.ref k, .ref v, .int (nI L.length), .int (nI w)])), (k, .inl (X.2.1, 512, .inl kf)), (v, .inl (X.2.1, 512, .inl vf)), (fa, .inl (X.2.1, 6 * N, .inl ff2)), (oa, .inl (X.2.1, 512, .inl o2))] := hD
          refine lv_aload_n hx hb dX4_upToDate_65 rfl (lv_at hl 0 rfl) ?_
          refine lv_aload_n hx hb dX4_upToDate_66 rfl (lv_at hl 0 rfl) ?_
          refine va_get (D := X.1) (ci := 4) (v := .ref p) (C := RX4) (T := TX4) (N := 9) hx hb hts hin4 hown hK hP 0 rfl rfl 0 (by decide) lk25 (fun _ h9 => h9) rfl dX4_upToDate_67 ?_
          refine va_get (D := X.1) (ci := 2) (v := .int (nI w)) (C := RX2) (T := TX2) (N := 4) hx hb hts hin2 hown hK hP 1 rfl rfl 3 (by decide) lk41 (fun _ h9 => h9) rfl dX4_upToDate_70 ?_
          refine va_put (D := X.1) (ci := 4) (v := .int (nI w)) (ty := .int) (C := RX4) (T := TX4) (N := 9) hx hb hts hin4 tyX4 tyX4_ok nmX4 hown hK hP hD hS 0 rfl rfl 8 (by decide) lk22 (fun _ h9 => h9) rfl (by decide +kernel) rfl rfl (Nat.le_of_ble_eq_true rfl) dX4_upToDate_73 (fun H locs hP hD hS => ?_)
          have hP : va_P X.1 vwCl [(t, .inr (4, [.ref p, .int (nI bk), .int (nI b), .int (nI N), .ref fa, .ref oa, .int (nI ((gF bk b 0 0 N L []).length)), .int (nI (dpt b (gF bk b 0 0 N L []))), .int (nI w)])), (p, .inr (2, [.ref k, .ref v, .int (nI L.length), .int (nI w)])), (k, .inl (X.2.1, 512, .inl kf)), (v, .inl (X.2.1, 512, .inl vf)), (fa, .inl (X.2.1, 6 * N, .inl ff2)), (oa, .inl (X.2.1, 512, .inl o2))] H := hP
          have hD : va_D A_ [(t, .inr (4, [.ref p, .int (nI bk), .int (nI b), .int (nI N), .ref fa, .ref oa, .int (nI ((gF bk b 0 0 N L []).length)), .int (nI (dpt b (gF bk b 0 0 N L []))), .int (nI w)])), (p, .inr (2, [.ref k, .ref v, .int (nI L.length), .int (nI w)])), (k, .inl (X.2.1, 512, .inl kf)), (v, .inl (X.2.1, 512, .inl vf)), (fa, .inl (X.2.1, 6 * N, .inl ff2)), (oa, .inl (X.2.1, 512, .inl o2))] := hD
          refine lv_aload_n hx hb dX4_upToDate_76 rfl (lv_at hl 0 rfl) ?_
          refine wM hQ ?_
          exact rtA (ff2, o2) hx hb hr hlocks hP hS (hg.1) dX4_upToDate_77
        · replace c_24 : ¬ L.length ≤ i := fun h9 => c_24 ((nI_leI (by omega) (by omega)).mpr h9)
          refine lv_aload_n hx hb dX4_upToDate_27 rfl (lv_at hl 0 rfl) ?_
          refine va_get (D := X.1) (ci := 4) (v := .ref oa) (C := RX4) (T := TX4) (N := 9) hx hb hts hin4 hown hK hP 0 rfl rfl 5 (by decide) lk9 (fun _ h9 => h9) rfl dX4_upToDate_28 ?_
          refine lv_iload_n hx hb dX4_upToDate_31 rfl (lv_at hl 1 rfl) ?_
          refine lv_iload_n hx hb dX4_upToDate_32 rfl (lv_at hl 1 rfl) ?_
          have hi_3 : vp_in (nI i) 512 := vp_in_nI (by omega) (by omega)
          refine va_iast hx hb hK hP hD hS 5 0 rfl rfl hi_3 dX4_upToDate_33 (fun H locs hP hD hS => ?_)
          rw [nI_clamp (by omega)] at hP hD
          have hP : va_P X.1 vwCl [(t, .inr (4, [.ref p, .int (nI bk), .int (nI b), .int (nI N), .ref fa, .ref oa, .int f_nn, .int f_dd, .int f_mo])), (p, .inr (2, [.ref k, .ref v, .int (nI L.length), .int (nI w)])), (k, .inl (X.2.1, 512, .inl kf)), (v, .inl (X.2.1, 512, .inl vf)), (fa, .inl (X.2.1, 6 * N, .inl ff)), (oa, .inl (X.2.1, 512, .inl (upd o1 i (nI i))))] H := hP
          have hD : va_D A_ [(t, .inr (4, [.ref p, .int (nI bk), .int (nI b), .int (nI N), .ref fa, .ref oa, .int f_nn, .int f_dd, .int f_mo])), (p, .inr (2, [.ref k, .ref v, .int (nI L.length), .int (nI w)])), (k, .inl (X.2.1, 512, .inl kf)), (v, .inl (X.2.1, 512, .inl vf)), (fa, .inl (X.2.1, 6 * N, .inl ff)), (oa, .inl (X.2.1, 512, .inl (upd o1 i (nI i))))] := hD
          refine lv_iinc (v := nI (i + 1)) (lv' := [(1, .int (nI (i + 1))), (0, .ref t)]) hx hb dX4_upToDate_34 hl (k := 1) rfl (by rw [show Int32.ofInt 1 = nI 1 from by decide]; exact nI_add _ _) (by decide) rfl (fun ls hl => ?_)
          refine lv_goto (tgt := 16) hx hb dX4_upToDate_37 (by decide) ?_
          have hstep : ∀ j, j < i + 1 → upd o1 i (nI i) j = nI j := by
            intro j hj
            by_cases hji : j = i
            · rw [hji, pk_us]
            · rw [pk_un hji]; exact h2 j (by omega)
          exact ih (i + 1) (upd o1 i (nI i)) (by omega) (by exact hstep) (by omega) _ _ hP hD hS ls (lv_sub hl [1, 0] rfl)
    exact loop_16 _ 0 o (by omega) (by exact fun j hj => absurd hj (Nat.not_lt_zero j)) (Nat.lt_succ_self _) _ _ hP hD hS ls (lv_sub hl [1, 0] rfl)
end
section
/-! the nearest points so far: (key, value, distance), in their order -/
abbrev NRL : Type := List (Nat × Int32 × Int64)
def nr0 : Nat × Int32 × Int64 := (0, 0, 0)
def nrOk (kf vf : Nat → Int32) (df : Nat → Int64) (R : NRL) : Prop := R.length ≤ 150 ∧ (∀ i, i < R.length → kf i = nI (R.getD i nr0).1 ∧ vf i = (R.getD i nr0).2.1 ∧ df i = (R.getD i nr0).2.2) ∧ ∀ q ∈ R, q.1 < 2 ^ 30
def posD : NRL → Int64 → Nat
  | [], _ => 0
  | a :: R, ds => if posD R ds = 0 ∧ ds < a.2.2 then 0 else posD R ds + 1
def insD (R : NRL) (q : Nat × Int32 × Int64) : NRL := R.take (posD R q.2.2) ++ q :: R.drop (posD R q.2.2)
theorem posD_eq : ∀ (R : NRL) (ds : Int64) (at_ : Nat), at_ ≤ R.length → (∀ j, at_ ≤ j → j < R.length → ds < (R.getD j nr0).2.2) → (at_ = 0 ∨ ¬ ds < (R.getD (at_ - 1) nr0).2.2) → posD R ds = at_
  | [], ds, at_, h, _, _ => by
    have : at_ = 0 := by simpa using h
    rw [this]; rfl
  | a :: R, ds, 0, h, h1, _ => by
    have e : posD R ds = 0 := posD_eq R ds 0 (Nat.zero_le _) (fun j _ hj => h1 (j + 1) (Nat.zero_le _) (by simpa using hj)) (Or.inl rfl)
    unfold posD
    rw [if_pos ⟨e, h1 0 (Nat.le_refl _) (by simp)⟩]
  | a :: R, ds, at_ + 1, h, h1, h2 => by
    have h3 : ¬ ds < ((a :: R).getD at_ nr0).2.2 := by
      rcases h2 with z | z
      · omega
      · simpa using z
    have e : posD R ds = at_ := posD_eq R ds at_ (by simpa using h) (fun j hj hl => h1 (j + 1) (by omega) (by simpa using hl)) (by
      cases at_ with
      | zero => exact Or.inl rfl
      | succ n => exact Or.inr h3)
    unfold posD
    rw [e, if_neg]
    rintro ⟨z, w⟩
    subst z
    exact h3 w
theorem posD_le : ∀ (R : NRL) (ds : Int64), posD R ds ≤ R.length
  | [], _ => Nat.le_refl _
  | a :: R, ds => by
    have := posD_le R ds
    unfold posD
    split <;> simp <;> omega
def im (n : Nat) : Int32 := nI n - nI 1
theorem lg_le {x y : Int64} (h : lg_cmp x y ≤ 0) : ¬ y < x := by
  intro z
  have : lg_cmp x y = 1 := by unfold lg_cmp; rw [if_pos z]
  rw [this] at h
  exact absurd h (by decide)
theorem lg_gt {x y : Int64} (h : ¬ lg_cmp x y ≤ 0) : y < x := by
  by_cases z : y < x
  · exact z
  · exfalso
    apply h
    unfold lg_cmp
    rw [if_neg z]
    split <;> decide
theorem mmin_nI {a b : Nat} (ha : a < 2 ^ 31) (hb : b < 2 ^ 31) : (if nI b < nI a then nI b else nI a) = nI (min a b) := by
  by_cases h : b < a
  · rw [if_pos (nI_lt h ha), Nat.min_eq_right (by omega)]
  · rw [if_neg (nI_nlt (by omega) hb), Nat.min_eq_left (by omega)]
theorem pk_uLs' {f : Nat → Int64} {k : Nat} {x : Int64} : vp_updL f k x k = x := pk_uLs
theorem nr_app_l {L M : NRL} {i : Nat} (h : i < L.length) : (L ++ M).getD i nr0 = L.getD i nr0 := by
  simp [List.getD_eq_getElem?_getD, List.getElem?_append_left h]
theorem nr_app_r {L M : NRL} {i : Nat} (h : L.length ≤ i) : (L ++ M).getD i nr0 = M.getD (i - L.length) nr0 := by
  simp [List.getD_eq_getElem?_getD, List.getElem?_append_right h]
theorem nr_take {L : NRL} {i n : Nat} (h : i < n) : (L.take n).getD i nr0 = L.getD i nr0 := by
  simp [List.getD_eq_getElem?_getD, List.getElem?_take, h]
theorem nr_drop {L : NRL} {i n : Nat} : (L.drop n).getD i nr0 = L.getD (n + i) nr0 := by
  simp [List.getD_eq_getElem?_getD, List.getElem?_drop]
/-- the list behind an insertion, by its places -/
theorem ins_len {R : NRL} {q : Nat × Int32 × Int64} {mo : Nat} (hm : R.length ≤ mo) : ((insD R q).take mo).length = min (R.length + 1) mo := by
  have := posD_le R q.2.2
  unfold insD
  simp
  omega
theorem ins_get {R : NRL} {q : Nat × Int32 × Int64} {mo i : Nat} (hi : i < mo) : ((insD R q).take mo).getD i nr0 = if i < posD R q.2.2 then R.getD i nr0 else if i = posD R q.2.2 then q else R.getD (i - 1) nr0 := by
  have hp := posD_le R q.2.2
  rw [nr_take hi]
  unfold insD
  have ht : (R.take (posD R q.2.2)).length = posD R q.2.2 := by simp; omega
  by_cases h1 : i < posD R q.2.2
  · rw [if_pos h1, nr_app_l (by omega), nr_take h1]
  · rw [if_neg h1, nr_app_r (by omega), ht]
    by_cases h2 : i = posD R q.2.2
    · rw [if_pos h2, h2, Nat.sub_self]; rfl
    · rw [if_neg h2]
      obtain ⟨e, rfl⟩ : ∃ e, i = posD R q.2.2 + 1 + e := ⟨i - posD R q.2.2 - 1, by omega⟩
      rw [show posD R q.2.2 + 1 + e - posD R q.2.2 = e + 1 by omega, List.getD_cons_succ, nr_drop]
      congr 1
      omega
theorem ins_mem {R : NRL} {q r : Nat × Int32 × Int64} {mo : Nat} (h : r ∈ (insD R q).take mo) : r = q ∨ r ∈ R := by
  have h1 := List.mem_of_mem_take h
  unfold insD at h1
  rcases List.mem_append.mp h1 with z | z
  · exact Or.inr (List.mem_of_mem_take z)
  · rcases List.mem_cons.mp z with z | z
    · exact Or.inl z
    · exact Or.inr (List.mem_of_mem_drop z)
theorem nr_ins {kf vf : Nat → Int32} {df : Nat → Int64} {R : NRL} {key mo : Nat} {x : Int32} {ds : Int64} (h : nrOk kf vf df R) (hk : key < 2 ^ 30) (hm : R.length ≤ mo) (hm2 : mo ≤ 150) (hp : posD R ds < mo) :
    nrOk (upd (va_cpy kf kf (posD R ds) (posD R ds + 1) (min R.length (mo - 1) - posD R ds)) (posD R ds) (nI key)) (upd (va_cpy vf vf (posD R ds) (posD R ds + 1) (min R.length (mo - 1) - posD R ds)) (posD R ds) x) (vp_updL (va_cpy df df (posD R ds) (posD R ds + 1) (min R.length (mo - 1) - posD R ds)) (posD R ds) ds) ((insD R (key, x, ds)).take mo) ∧ ((insD R (key, x, ds)).take mo).length = min R.length (mo - 1) + 1 := by
  have hl := ins_len (q := (key, x, ds)) hm
  have hpl := posD_le R ds
  refine ⟨⟨by omega, fun i hi => ?_, fun q hq => ?_⟩, by omega⟩
  · rw [hl] at hi
    rw [ins_get (show i < mo by omega)]
    show _ = nI (if i < posD R ds then R.getD i nr0 else if i = posD R ds then (key, x, ds) else R.getD (i - 1) nr0).1 ∧ _ = (if i < posD R ds then R.getD i nr0 else if i = posD R ds then (key, x, ds) else R.getD (i - 1) nr0).2.1 ∧ _ = (if i < posD R ds then R.getD i nr0 else if i = posD R ds then (key, x, ds) else R.getD (i - 1) nr0).2.2
    rcases Nat.lt_trichotomy i (posD R ds) with h1 | h1 | h1
    · rw [if_pos h1, pk_un (by omega), pk_un (by omega), pk_uLn (by omega), pk_cpy_out (by omega), pk_cpy_out (by omega), pk_cpy_out (by omega)]
      exact h.2.1 i (by omega)
    · rw [if_neg (by omega), if_pos h1, h1, pk_us, pk_us, pk_uLs]
      exact ⟨rfl, rfl, rfl⟩
    · rw [if_neg (by omega), if_neg (by omega), pk_un (by omega), pk_un (by omega), pk_uLn (by omega), pk_cpy_in (by omega) (by omega), pk_cpy_in (by omega) (by omega), pk_cpy_in (by omega) (by omega), show posD R ds + (i - (posD R ds + 1)) = i - 1 by omega]
      exact h.2.1 (i - 1) (by omega)
  · rcases ins_mem hq with z | z
    · rw [z]; exact hk
    · exact h.2.2 q z
theorem nr_same {R : NRL} {q : Nat × Int32 × Int64} {mo : Nat} (hm : R.length ≤ mo) (hp : mo ≤ posD R q.2.2) : (insD R q).take mo = R := by
  have hpl := posD_le R q.2.2
  unfold insD
  rw [List.take_append_of_le_length (by simp; omega), List.take_take, List.take_of_length_le (by omega)]
theorem nr_nil {kf vf : Nat → Int32} {df : Nat → Int64} : nrOk kf vf df [] := ⟨by simp, fun i hi => by simp at hi, fun q hq => by simp at hq⟩
end
section
/-! Results.addByDistance: contracts, laid by program (wip/gen/spec_near.py) -/
set_option maxHeartbeats 4000000 in
set_option maxRecDepth 100000 in
theorem c_X3_addByDistance (l : Launch) (X : kX) (r k v dd key mo : Nat) (x : Int32) (ds : Int64) (kf vf : Nat → Int32) (df : Nat → Int64) (R : NRL) (h : nrOk kf vf df R) (hk : key < 2 ^ 30) (hm0 : 1 ≤ mo) (hm : R.length ≤ mo) (hm2 : mo ≤ 150) : CWv l X yX3_addByDistance wsX3_addByDistance 0 [.ref r, .int (nI key), .int x, .long ds, .int (nI mo)] [(r, .inr (3, [.ref k, .ref v, .ref dd, .int (nI R.length)])), (k, .inl (X.2.1, 150, .inl kf)), (v, .inl (X.2.1, 150, .inl vf)), (dd, .inl (X.2.2, 150, .inr (.inl df)))] (S := (Nat → Int32) × (Nat → Int32) × (Nat → Int64)) (fun u => nrOk u.1 u.2.1 u.2.2 ((insD R (key, x, ds)).take mo)) (fun ⟨kf2, vf2, df2⟩ => [(r, .inr (3, [.ref k, .ref v, .ref dd, .int (nI (((insD R (key, x, ds)).take mo).length))])), (k, .inl (X.2.1, 150, .inl kf2)), (v, .inl (X.2.1, 150, .inl vf2)), (dd, .inl (X.2.2, 150, .inr (.inl df2)))]) := by
  refine Met.ofW (cc := cX3_addByDistance) (maxL := 8) (ret := none) (by decide) rfl ?_
  intro pz ez sz mz args below meth cz s₁ Bz hml hv
  obtain ⟨rfl, hP, hK, hD0, hN⟩ := hv
  have hx := Bz.exec
  have hb := Bz.bytes
  have hr := Bz.returns
  have hts := atoms_spec (ws := wsX3_addByDistance) Bz.pre
  have hown : sz.vm.findClass RX3 = some mz.cls := findClass_of_methodNamed Bz.named
  have hlocks := Bz.notSynchronized
  have hD := inW.self hD0
  have hS : va_S (inW [(r, .inr (3, [.ref k, .ref v, .ref dd, .int (nI R.length)])), (k, .inl (X.2.1, 150, .inl kf)), (v, .inl (X.2.1, 150, .inl vf)), (dd, .inl (X.2.2, 150, .inr (.inl df)))]) sz.heap sz.heap [] := va_S.rf
  have hl := lv_entry ([.ref r, .int (nI key), .int x, .long ds, .int (nI mo)]) (n := 8) (Nat.le_of_ble_eq_true rfl)
  rw [lg_entry_eq]
  generalize (lg_sl ([.ref r, .int (nI key), .int x, .long ds, .int (nI mo)]) ++ List.replicate (8 - (lg_sl ([.ref r, .int (nI key), .int x, .long ds, .int (nI mo)])).length) Slot.unset).toArray = ls at hl ⊢
  have hl : lv_has ls 8 [(0, .ref r), (1, .int (nI key)), (2, .int x), (3, .long ds), (5, .int (nI mo))] := hl
  have lk9 := hts (.fieldLink RX3 9 "PointStore$Results" "keys" "[I") (by decide +kernel)
  have lk15 := hts (.fieldLink RX3 15 "PointStore$Results" "values" "[I") (by decide +kernel)
  have lk18 := hts (.fieldLink RX3 18 "PointStore$Results" "distances" "[J") (by decide +kernel)
  have lk22 := hts (.fieldLink RX3 22 "PointStore$Results" "total" "I") (by decide +kernel)
  have hin3 : ∀ w ∈ u_ws RX3 TX3 4, w ∈ wsX3_addByDistance := by decide +kernel
  refine wQ (fun Q hQ => ?_)
  generalize hAe : inW [(r, .inr (3, [.ref k, .ref v, .ref dd, .int (nI R.length)])), (k, .inl (X.2.1, 150, .inl kf)), (v, .inl (X.2.1, 150, .inl vf)), (dd, .inl (X.2.2, 150, .inr (.inl df)))] = A_ at hD hS hQ
  have hL := h.1
  refine lv_aload_n hx hb dX3_addByDistance_0 rfl (lv_at hl 0 rfl) ?_
  refine va_get (D := X.1) (ci := 3) (v := .int (nI R.length)) (C := RX3) (T := TX3) (N := 4) hx hb hts hin3 hown hK hP 0 rfl rfl 3 (by decide) lk22 (fun _ h9 => h9) rfl dX3_addByDistance_1 ?_
  refine lv_istore (lv' := [(6, .int (nI R.length)), (0, .ref r), (1, .int (nI key)), (2, .int x), (3, .long ds), (5, .int (nI mo))]) hx hb dX3_addByDistance_4 hl (by decide) rfl (fun ls hl => ?_)
  refine lv_aload_n hx hb dX3_addByDistance_6 rfl (lv_at hl 1 rfl) ?_
  refine va_get (D := X.1) (ci := 3) (v := .int (nI R.length)) (C := RX3) (T := TX3) (N := 4) hx hb hts hin3 hown hK hP 0 rfl rfl 3 (by decide) lk22 (fun _ h9 => h9) rfl dX3_addByDistance_7 ?_
  refine lv_iconst (v := nI 1) hx hb dX3_addByDistance_10 (by decide) ?_
  refine lv_isub hx hb dX3_addByDistance_11 ?_
  refine lv_istore (lv' := [(7, .int ((nI R.length) - (nI 1))), (6, .int (nI R.length)), (0, .ref r), (1, .int (nI key)), (2, .int x), (3, .long ds), (5, .int (nI mo))]) hx hb dX3_addByDistance_12 hl (by decide) rfl (fun ls hl => ?_)
  have loop_14 : ∀ (fu : Nat) (at_ : Nat), (at_ ≤ R.length) → (∀ j, at_ ≤ j → j < R.length → ds < (R.getD j nr0).2.2) → at_ < fu → ∀ (ls : Array Slot), lv_has ls 8 [(0, .ref r), (1, .int (nI key)), (2, .int x), (3, .long ds), (5, .int (nI mo)), (6, .int (nI at_)), (7, .int (im at_))] → W pz l ez (headSpec wsX3_addByDistance (rmk 0)).room sz mz ([.ref r, .int (nI key), .int x, .long ds, .int (nI mo)].toArray) below meth cz sz.heap [] 0 0 Q (F0 mz 14 ls []) := by
    intro fu
    induction fu with
    | zero => intro at_ h1 h2 hfu; exact absurd hfu (Nat.not_lt_zero _)
    | succ fu ih =>
      intro at_ h1 h2 hfu ls hl
      rcases Nat.eq_zero_or_pos at_ with hz | hz
      · skip
        subst hz
        have hpos : posD R ds = 0 := posD_eq R ds 0 h1 h2 (Or.inl rfl)
        rw [show im 0 = -1 from by decide] at hl
        refine lv_iload hx hb dX3_addByDistance_14 (lv_at hl 6 rfl) ?_
        refine lv_if_lt (tgt := 41) hx hb dX3_addByDistance_16 (by decide) (fun c_16 => ?_) (fun c_16 => ?_)
        · skip
          refine lv_iload hx hb dX3_addByDistance_41 (lv_at hl 5 rfl) ?_
          refine lv_iload hx hb dX3_addByDistance_43 (lv_at hl 4 rfl) ?_
          refine lv_icmp_ge (tgt := 56) hx hb dX3_addByDistance_45 (by decide) (fun c_45 => ?_) (fun c_45 => ?_)
          · replace c_45 : mo ≤ 0 := (nI_leI (by omega) (by omega)).mp c_45
            have hsm : ((insD R (key, x, ds)).take mo) = R := nr_same hm (show mo ≤ posD R ds by rw [hpos]; omega)
            refine wM hQ ?_
            exact rtV (kf, vf, df) hx hb hr hlocks (by show va_P X.1 vwCl [(r, .inr (3, [.ref k, .ref v, .ref dd, .int (nI (((insD R (key, x, ds)).take mo).length))])), (k, .inl (X.2.1, 150, .inl kf)), (v, .inl (X.2.1, 150, .inl vf)), (dd, .inl (X.2.2, 150, .inr (.inl df)))] _; rw [hsm]; exact hP) hS ((by show nrOk kf vf df _; rw [hsm]; exact h)) dX3_addByDistance_56
          · replace c_45 : ¬ mo ≤ 0 := fun h9 => c_45 ((nI_leI (by omega) (by omega)).mpr h9)
            refine lv_iload hx hb dX3_addByDistance_48 (lv_at hl 5 rfl) ?_
            refine lv_sipush (v := nI 150) hx hb dX3_addByDistance_50 (by decide) ?_
            refine lv_icmp_lt (tgt := 57) hx hb dX3_addByDistance_53 (by decide) (fun c_53 => ?_) (fun c_53 => ?_)
            · skip
              refine lv_aload_n hx hb dX3_addByDistance_57 rfl (lv_at hl 0 rfl) ?_
              refine va_get (D := X.1) (ci := 3) (v := .int (nI R.length)) (C := RX3) (T := TX3) (N := 4) hx hb hts hin3 hown hK hP 0 rfl rfl 3 (by decide) lk22 (fun _ h9 => h9) rfl dX3_addByDistance_58 ?_
              refine lv_iload hx hb dX3_addByDistance_61 (lv_at hl 4 rfl) ?_
              refine lv_sipush (v := nI 150) hx hb dX3_addByDistance_63 (by decide) ?_
              refine va_mmin hx hb (hml.trans hl.1.symm) hown (hts (.methodLink RX3 26 Lib.Math.min.name) (by decide +kernel)) (hts (.static Lib.Math.min.name) (by decide +kernel)) (hts (.initialized "java/lang/Math") (by decide +kernel)) (hts (.code Lib.Math.min.name Lib.Math.min.code 2 (some .int)) (by decide +kernel)) (Nat.le_of_ble_eq_true rfl) (Nat.le_of_ble_eq_true rfl) (Nat.zero_le _) (Nat.zero_le _) dX3_addByDistance_66 ?_
              refine lv_topi (fun x_1 ex_1 => ?_)
              obtain rfl : x_1 = nI mo := by
                rw [ex_1]
                exact if_neg (nI_nlt (by omega) (by omega))
              refine lv_iconst (v := nI 1) hx hb dX3_addByDistance_69 (by decide) ?_
              refine lv_isub hx hb dX3_addByDistance_70 ?_
              refine lv_topi (fun x_2 ex_2 => ?_)
              obtain rfl : x_2 = nI (mo - 1) := by
                rw [ex_2]
                exact pk_sub (by omega)
              refine va_mmin hx hb (hml.trans hl.1.symm) hown (hts (.methodLink RX3 26 Lib.Math.min.name) (by decide +kernel)) (hts (.static Lib.Math.min.name) (by decide +kernel)) (hts (.initialized "java/lang/Math") (by decide +kernel)) (hts (.code Lib.Math.min.name Lib.Math.min.code 2 (some .int)) (by decide +kernel)) (Nat.le_of_ble_eq_true rfl) (Nat.le_of_ble_eq_true rfl) (Nat.zero_le _) (Nat.zero_le _) dX3_addByDistance_71 ?_
              refine lv_topi (fun x_3 ex_3 => ?_)
              obtain rfl : x_3 = nI (min R.length (mo - 1)) := by
                rw [ex_3]
                exact mmin_nI (by omega) (by omega)
              refine lv_istore (lv' := [(7, .int (nI (min R.length (mo - 1)))), (0, .ref r), (1, .int (nI key)), (2, .int x), (3, .long ds), (5, .int (nI mo)), (6, .int (nI 0))]) hx hb dX3_addByDistance_74 hl (by decide) rfl (fun ls hl => ?_)
              refine lv_aload_n hx hb dX3_addByDistance_76 rfl (lv_at hl 1 rfl) ?_
              refine va_get (D := X.1) (ci := 3) (v := .ref k) (C := RX3) (T := TX3) (N := 4) hx hb hts hin3 hown hK hP 0 rfl rfl 0 (by decide) lk9 (fun _ h9 => h9) rfl dX3_addByDistance_77 ?_
              refine lv_iload hx hb dX3_addByDistance_80 (lv_at hl 6 rfl) ?_
              refine lv_aload_n hx hb dX3_addByDistance_82 rfl (lv_at hl 1 rfl) ?_
              refine va_get (D := X.1) (ci := 3) (v := .ref k) (C := RX3) (T := TX3) (N := 4) hx hb hts hin3 hown hK hP 0 rfl rfl 0 (by decide) lk9 (fun _ h9 => h9) rfl dX3_addByDistance_83 ?_
              refine lv_iload hx hb dX3_addByDistance_86 (lv_at hl 6 rfl) ?_
              refine lv_iconst (v := nI 1) hx hb dX3_addByDistance_88 (by decide) ?_
              refine lv_iadd hx hb dX3_addByDistance_89 ?_
              refine lv_topi (fun x_4 ex_4 => ?_)
              obtain rfl : x_4 = nI (0 + 1) := by
                rw [ex_4]
                exact nI_add _ _
              refine lv_iload hx hb dX3_addByDistance_90 (lv_at hl 0 rfl) ?_
              refine lv_iload hx hb dX3_addByDistance_92 (lv_at hl 6 rfl) ?_
              refine lv_isub hx hb dX3_addByDistance_94 ?_
              refine lv_topi (fun x_5 ex_5 => ?_)
              obtain rfl : x_5 = nI ((min R.length (mo - 1)) - 0) := by
                rw [ex_5]
                exact pk_sub (by omega)
              refine va_copyi hx hb (hml.trans hl.1.symm) hown (hts (.methodLink RX3 32 arraycopyName) (by decide +kernel)) (hts (.native arraycopyName) (by decide +kernel)) (hts (.static arraycopyName) (by decide +kernel)) (hts (.initialized "java/lang/System") (by decide +kernel)) hK hP hD hS 1 1 0 0 rfl rfl rfl rfl rfl (nI_pos (by omega)) (nI_pos (by omega)) (nI_pos (by omega)) (by rw [nI_clamp (by omega), nI_clamp (by omega)]; omega) (by rw [nI_clamp (by omega), nI_clamp (by omega)]; omega) (fun _ _ => rfl) (Nat.le_of_ble_eq_true rfl) (by decide) dX3_addByDistance_95 (fun H locs hP hD hS => ?_)
              rw [nI_clamp (n := 0) (by omega), nI_clamp (n := 0 + 1) (by omega), nI_clamp (n := (min R.length (mo - 1)) - 0) (by omega)] at hP hD
              have hP : va_P X.1 vwCl [(r, .inr (3, [.ref k, .ref v, .ref dd, .int (nI R.length)])), (k, .inl (X.2.1, 150, .inl (va_cpy kf kf 0 (0 + 1) ((min R.length (mo - 1)) - 0)))), (v, .inl (X.2.1, 150, .inl vf)), (dd, .inl (X.2.2, 150, .inr (.inl df)))] H := hP
              have hD : va_D A_ [(r, .inr (3, [.ref k, .ref v, .ref dd, .int (nI R.length)])), (k, .inl (X.2.1, 150, .inl (va_cpy kf kf 0 (0 + 1) ((min R.length (mo - 1)) - 0)))), (v, .inl (X.2.1, 150, .inl vf)), (dd, .inl (X.2.2, 150, .inr (.inl df)))] := hD
              refine lv_aload_n hx hb dX3_addByDistance_98 rfl (lv_at hl 1 rfl) ?_
              refine va_get (D := X.1) (ci := 3) (v := .ref v) (C := RX3) (T := TX3) (N := 4) hx hb hts hin3 hown hK hP 0 rfl rfl 1 (by decide) lk15 (fun _ h9 => h9) rfl dX3_addByDistance_99 ?_
              refine lv_iload hx hb dX3_addByDistance_102 (lv_at hl 6 rfl) ?_
              refine lv_aload_n hx hb dX3_addByDistance_104 rfl (lv_at hl 1 rfl) ?_
              refine va_get (D := X.1) (ci := 3) (v := .ref v) (C := RX3) (T := TX3) (N := 4) hx hb hts hin3 hown hK hP 0 rfl rfl 1 (by decide) lk15 (fun _ h9 => h9) rfl dX3_addByDistance_105 ?_
              refine lv_iload hx hb dX3_addByDistance_108 (lv_at hl 6 rfl) ?_
              refine lv_iconst (v := nI 1) hx hb dX3_addByDistance_110 (by decide) ?_
              refine lv_iadd hx hb dX3_addByDistance_111 ?_
              refine lv_topi (fun x_6 ex_6 => ?_)
              obtain rfl : x_6 = nI (0 + 1) := by
                rw [ex_6]
                exact nI_add _ _
              refine lv_iload hx hb dX3_addByDistance_112 (lv_at hl 0 rfl) ?_
              refine lv_iload hx hb dX3_addByDistance_114 (lv_at hl 6 rfl) ?_
              refine lv_isub hx hb dX3_addByDistance_116 ?_
              refine lv_topi (fun x_7 ex_7 => ?_)
              obtain rfl : x_7 = nI ((min R.length (mo - 1)) - 0) := by
                rw [ex_7]
                exact pk_sub (by omega)
              refine va_copyi hx hb (hml.trans hl.1.symm) hown (hts (.methodLink RX3 32 arraycopyName) (by decide +kernel)) (hts (.native arraycopyName) (by decide +kernel)) (hts (.static arraycopyName) (by decide +kernel)) (hts (.initialized "java/lang/System") (by decide +kernel)) hK hP hD hS 2 2 0 0 rfl rfl rfl rfl rfl (nI_pos (by omega)) (nI_pos (by omega)) (nI_pos (by omega)) (by rw [nI_clamp (by omega), nI_clamp (by omega)]; omega) (by rw [nI_clamp (by omega), nI_clamp (by omega)]; omega) (fun _ _ => rfl) (Nat.le_of_ble_eq_true rfl) (by decide) dX3_addByDistance_117 (fun H locs hP hD hS => ?_)
              rw [nI_clamp (n := 0) (by omega), nI_clamp (n := 0 + 1) (by omega), nI_clamp (n := (min R.length (mo - 1)) - 0) (by omega)] at hP hD
              have hP : va_P X.1 vwCl [(r, .inr (3, [.ref k, .ref v, .ref dd, .int (nI R.length)])), (k, .inl (X.2.1, 150, .inl (va_cpy kf kf 0 (0 + 1) ((min R.length (mo - 1)) - 0)))), (v, .inl (X.2.1, 150, .inl (va_cpy vf vf 0 (0 + 1) ((min R.length (mo - 1)) - 0)))), (dd, .inl (X.2.2, 150, .inr (.inl df)))] H := hP
              have hD : va_D A_ [(r, .inr (3, [.ref k, .ref v, .ref dd, .int (nI R.length)])), (k, .inl (X.2.1, 150, .inl (va_cpy kf kf 0 (0 + 1) ((min R.length (mo - 1)) - 0)))), (v, .inl (X.2.1, 150, .inl (va_cpy vf vf 0 (0 + 1) ((min R.length (mo - 1)) - 0)))), (dd, .inl (X.2.2, 150, .inr (.inl df)))] := hD
              refine lv_aload_n hx hb dX3_addByDistance_120 rfl (lv_at hl 1 rfl) ?_
              refine va_get (D := X.1) (ci := 3) (v := .ref dd) (C := RX3) (T := TX3) (N := 4) hx hb hts hin3 hown hK hP 0 rfl rfl 2 (by decide) lk18 (fun _ h9 => h9) rfl dX3_addByDistance_121 ?_
              refine lv_iload hx hb dX3_addByDistance_124 (lv_at hl 6 rfl) ?_
              refine lv_aload_n hx hb dX3_addByDistance_126 rfl (lv_at hl 1 rfl) ?_
              refine va_get (D := X.1) (ci := 3) (v := .ref dd) (C := RX3) (T := TX3) (N := 4) hx hb hts hin3 hown hK hP 0 rfl rfl 2 (by decide) lk18 (fun _ h9 => h9) rfl dX3_addByDistance_127 ?_
              refine lv_iload hx hb dX3_addByDistance_130 (lv_at hl 6 rfl) ?_
              refine lv_iconst (v := nI 1) hx hb dX3_addByDistance_132 (by decide) ?_
              refine lv_iadd hx hb dX3_addByDistance_133 ?_
              refine lv_topi (fun x_8 ex_8 => ?_)
              obtain rfl : x_8 = nI (0 + 1) := by
                rw [ex_8]
                exact nI_add _ _
              refine lv_iload hx hb dX3_addByDistance_134 (lv_at hl 0 rfl) ?_
              refine lv_iload hx hb dX3_addByDistance_136 (lv_at hl 6 rfl) ?_
              refine lv_isub hx hb dX3_addByDistance_138 ?_
              refine lv_topi (fun x_9 ex_9 => ?_)
              obtain rfl : x_9 = nI ((min R.length (mo - 1)) - 0) := by
                rw [ex_9]
                exact pk_sub (by omega)
              refine va_copyl hx hb (hml.trans hl.1.symm) hown (hts (.methodLink RX3 32 arraycopyName) (by decide +kernel)) (hts (.native arraycopyName) (by decide +kernel)) (hts (.static arraycopyName) (by decide +kernel)) (hts (.initialized "java/lang/System") (by decide +kernel)) hK hP hD hS 3 3 1 1 rfl rfl rfl rfl rfl (nI_pos (by omega)) (nI_pos (by omega)) (nI_pos (by omega)) (by rw [nI_clamp (by omega), nI_clamp (by omega)]; omega) (by rw [nI_clamp (by omega), nI_clamp (by omega)]; omega) (fun _ _ => rfl) (Nat.le_of_ble_eq_true rfl) (by decide) dX3_addByDistance_139 (fun H locs hP hD hS => ?_)
              rw [nI_clamp (n := 0) (by omega), nI_clamp (n := 0 + 1) (by omega), nI_clamp (n := (min R.length (mo - 1)) - 0) (by omega)] at hP hD
              have hP : va_P X.1 vwCl [(r, .inr (3, [.ref k, .ref v, .ref dd, .int (nI R.length)])), (k, .inl (X.2.1, 150, .inl (va_cpy kf kf 0 (0 + 1) ((min R.length (mo - 1)) - 0)))), (v, .inl (X.2.1, 150, .inl (va_cpy vf vf 0 (0 + 1) ((min R.length (mo - 1)) - 0)))), (dd, .inl (X.2.2, 150, .inr (.inl (va_cpy df df 0 (0 + 1) ((min R.length (mo - 1)) - 0)))))] H := hP
              have hD : va_D A_ [(r, .inr (3, [.ref k, .ref v, .ref dd, .int (nI R.length)])), (k, .inl (X.2.1, 150, .inl (va_cpy kf kf 0 (0 + 1) ((min R.length (mo - 1)) - 0)))), (v, .inl (X.2.1, 150, .inl (va_cpy vf vf 0 (0 + 1) ((min R.length (mo - 1)) - 0)))), (dd, .inl (X.2.2, 150, .inr (.inl (va_cpy df df 0 (0 + 1) ((min R.length (mo - 1)) - 0)))))] := hD
              refine lv_aload_n hx hb dX3_addByDistance_142 rfl (lv_at hl 1 rfl) ?_
              refine va_get (D := X.1) (ci := 3) (v := .ref k) (C := RX3) (T := TX3) (N := 4) hx hb hts hin3 hown hK hP 0 rfl rfl 0 (by decide) lk9 (fun _ h9 => h9) rfl dX3_addByDistance_143 ?_
              refine lv_iload hx hb dX3_addByDistance_146 (lv_at hl 6 rfl) ?_
              refine lv_iload_n hx hb dX3_addByDistance_148 rfl (lv_at hl 2 rfl) ?_
              have hi_10 : vp_in (nI 0) 150 := vp_in_nI (by omega) (by omega)
              refine va_iast hx hb hK hP hD hS 1 0 rfl rfl hi_10 dX3_addByDistance_149 (fun H locs hP hD hS => ?_)
              rw [nI_clamp (by omega)] at hP hD
              have hP : va_P X.1 vwCl [(r, .inr (3, [.ref k, .ref v, .ref dd, .int (nI R.length)])), (k, .inl (X.2.1, 150, .inl (upd (va_cpy kf kf 0 (0 + 1) ((min R.length (mo - 1)) - 0)) 0 (nI key)))), (v, .inl (X.2.1, 150, .inl (va_cpy vf vf 0 (0 + 1) ((min R.length (mo - 1)) - 0)))), (dd, .inl (X.2.2, 150, .inr (.inl (va_cpy df df 0 (0 + 1) ((min R.length (mo - 1)) - 0)))))] H := hP
              have hD : va_D A_ [(r, .inr (3, [.ref k, .ref v, .ref dd, .int (nI R.length)])), (k, .inl (X.2.1, 150, .inl (upd (va_cpy kf kf 0 (0 + 1) ((min R.length (mo - 1)) - 0)) 0 (nI key)))), (v, .inl (X.2.1, 150, .inl (va_cpy vf vf 0 (0 + 1) ((min R.length (mo - 1)) - 0)))), (dd, .inl (X.2.2, 150, .inr (.inl (va_cpy df df 0 (0 + 1) ((min R.length (mo - 1)) - 0)))))] := hD
              refine lv_aload_n hx hb dX3_addByDistance_150 rfl (lv_at hl 1 rfl) ?_
              refine va_get (D := X.1) (ci := 3) (v := .ref v) (C := RX3) (T := TX3) (N := 4) hx hb hts hin3 hown hK hP 0 rfl rfl 1 (by decide) lk15 (fun _ h9 => h9) rfl dX3_addByDistance_151 ?_
              refine lv_iload hx hb dX3_addByDistance_154 (lv_at hl 6 rfl) ?_
              refine lv_iload_n hx hb dX3_addByDistance_156 rfl (lv_at hl 3 rfl) ?_
              have hi_11 : vp_in (nI 0) 150 := vp_in_nI (by omega) (by omega)
              refine va_iast hx hb hK hP hD hS 2 0 rfl rfl hi_11 dX3_addByDistance_157 (fun H locs hP hD hS => ?_)
              rw [nI_clamp (by omega)] at hP hD
              have hP : va_P X.1 vwCl [(r, .inr (3, [.ref k, .ref v, .ref dd, .int (nI R.length)])), (k, .inl (X.2.1, 150, .inl (upd (va_cpy kf kf 0 (0 + 1) ((min R.length (mo - 1)) - 0)) 0 (nI key)))), (v, .inl (X.2.1, 150, .inl (upd (va_cpy vf vf 0 (0 + 1) ((min R.length (mo - 1)) - 0)) 0 x))), (dd, .inl (X.2.2, 150, .inr (.inl (va_cpy df df 0 (0 + 1) ((min R.length (mo - 1)) - 0)))))] H := hP
              have hD : va_D A_ [(r, .inr (3, [.ref k, .ref v, .ref dd, .int (nI R.length)])), (k, .inl (X.2.1, 150, .inl (upd (va_cpy kf kf 0 (0 + 1) ((min R.length (mo - 1)) - 0)) 0 (nI key)))), (v, .inl (X.2.1, 150, .inl (upd (va_cpy vf vf 0 (0 + 1) ((min R.length (mo - 1)) - 0)) 0 x))), (dd, .inl (X.2.2, 150, .inr (.inl (va_cpy df df 0 (0 + 1) ((min R.length (mo - 1)) - 0)))))] := hD
              refine lv_aload_n hx hb dX3_addByDistance_158 rfl (lv_at hl 1 rfl) ?_
              refine va_get (D := X.1) (ci := 3) (v := .ref dd) (C := RX3) (T := TX3) (N := 4) hx hb hts hin3 hown hK hP 0 rfl rfl 2 (by decide) lk18 (fun _ h9 => h9) rfl dX3_addByDistance_159 ?_
              refine lv_iload hx hb dX3_addByDistance_162 (lv_at hl 6 rfl) ?_
              refine lv_lload_n hx hb dX3_addByDistance_164 rfl (lv_at hl 4 rfl) ?_
              have hi_12 : vp_in (nI 0) 150 := vp_in_nI (by omega) (by omega)
              refine va_last hx hb hK hP hD hS 3 1 rfl rfl hi_12 dX3_addByDistance_165 (fun H locs hP hD hS => ?_)
              rw [nI_clamp (by omega)] at hP hD
              have hP : va_P X.1 vwCl [(r, .inr (3, [.ref k, .ref v, .ref dd, .int (nI R.length)])), (k, .inl (X.2.1, 150, .inl (upd (va_cpy kf kf 0 (0 + 1) ((min R.length (mo - 1)) - 0)) 0 (nI key)))), (v, .inl (X.2.1, 150, .inl (upd (va_cpy vf vf 0 (0 + 1) ((min R.length (mo - 1)) - 0)) 0 x))), (dd, .inl (X.2.2, 150, .inr (.inl (vp_updL (va_cpy df df 0 (0 + 1) ((min R.length (mo - 1)) - 0)) 0 ds))))] H := hP
              have hD : va_D A_ [(r, .inr (3, [.ref k, .ref v, .ref dd, .int (nI R.length)])), (k, .inl (X.2.1, 150, .inl (upd (va_cpy kf kf 0 (0 + 1) ((min R.length (mo - 1)) - 0)) 0 (nI key)))), (v, .inl (X.2.1, 150, .inl (upd (va_cpy vf vf 0 (0 + 1) ((min R.length (mo - 1)) - 0)) 0 x))), (dd, .inl (X.2.2, 150, .inr (.inl (vp_updL (va_cpy df df 0 (0 + 1) ((min R.length (mo - 1)) - 0)) 0 ds))))] := hD
              refine lv_aload_n hx hb dX3_addByDistance_166 rfl (lv_at hl 1 rfl) ?_
              refine lv_iload hx hb dX3_addByDistance_167 (lv_at hl 0 rfl) ?_
              refine lv_iconst (v := nI 1) hx hb dX3_addByDistance_169 (by decide) ?_
              refine lv_iadd hx hb dX3_addByDistance_170 ?_
              refine lv_topi (fun x_13 ex_13 => ?_)
              obtain rfl : x_13 = nI ((min R.length (mo - 1)) + 1) := by
                rw [ex_13]
                exact nI_add _ _
              refine va_put (D := X.1) (ci := 3) (v := .int (nI ((min R.length (mo - 1)) + 1))) (ty := .int) (C := RX3) (T := TX3) (N := 4) hx hb hts hin3 tyX3 tyX3_ok nmX3 hown hK hP hD hS 0 rfl rfl 3 (by decide) lk22 (fun _ h9 => h9) rfl (by decide +kernel) rfl rfl (Nat.le_of_ble_eq_true rfl) dX3_addByDistance_171 (fun H locs hP hD hS => ?_)
              have hP : va_P X.1 vwCl [(r, .inr (3, [.ref k, .ref v, .ref dd, .int (nI ((min R.length (mo - 1)) + 1))])), (k, .inl (X.2.1, 150, .inl (upd (va_cpy kf kf 0 (0 + 1) ((min R.length (mo - 1)) - 0)) 0 (nI key)))), (v, .inl (X.2.1, 150, .inl (upd (va_cpy vf vf 0 (0 + 1) ((min R.length (mo - 1)) - 0)) 0 x))), (dd, .inl (X.2.2, 150, .inr (.inl (vp_updL (va_cpy df df 0 (0 + 1) ((min R.length (mo - 1)) - 0)) 0 ds))))] H := hP
              have hD : va_D A_ [(r, .inr (3, [.ref k, .ref v, .ref dd, .int (nI ((min R.length (mo - 1)) + 1))])), (k, .inl (X.2.1, 150, .inl (upd (va_cpy kf kf 0 (0 + 1) ((min R.length (mo - 1)) - 0)) 0 (nI key)))), (v, .inl (X.2.1, 150, .inl (upd (va_cpy vf vf 0 (0 + 1) ((min R.length (mo - 1)) - 0)) 0 x))), (dd, .inl (X.2.2, 150, .inr (.inl (vp_updL (va_cpy df df 0 (0 + 1) ((min R.length (mo - 1)) - 0)) 0 ds))))] := hD
              have hfin := nr_ins (x := x) h hk hm hm2 (show posD R ds < mo by rw [hpos]; omega)
              rw [hpos] at hfin
              rw [← hfin.2] at hP
              refine wM hQ ?_
              exact rtV (upd (va_cpy kf kf 0 (0 + 1) ((min R.length (mo - 1)) - 0)) 0 (nI key), upd (va_cpy vf vf 0 (0 + 1) ((min R.length (mo - 1)) - 0)) 0 x, vp_updL (va_cpy df df 0 (0 + 1) ((min R.length (mo - 1)) - 0)) 0 ds) hx hb hr hlocks hP hS (hfin.1) dX3_addByDistance_174
            · exact absurd c_53 (by decide)
        · exact absurd c_16 (by decide)
      · skip
        obtain ⟨a, rfl⟩ : ∃ a, at_ = a + 1 := ⟨at_ - 1, by omega⟩
        rw [show im (a + 1) = nI a from nI_pred a] at hl
        refine lv_iload hx hb dX3_addByDistance_14 (lv_at hl 6 rfl) ?_
        refine lv_if_lt (tgt := 41) hx hb dX3_addByDistance_16 (by decide) (fun c_16 => ?_) (fun c_16 => ?_)
        · exact absurd c_16 (by first | exact nI_pos (by omega) | exact fun h9 => h9 (nI_pos' (by omega)))
        · change ¬ (nI a < nI 0) at c_16
          replace c_16 : ¬ a < 0 := fun h9 => c_16 ((nI_ltI (by omega) (by omega)).mpr h9)
          refine lv_aload_n hx hb dX3_addByDistance_19 rfl (lv_at hl 0 rfl) ?_
          refine va_get (D := X.1) (ci := 3) (v := .ref dd) (C := RX3) (T := TX3) (N := 4) hx hb hts hin3 hown hK hP 0 rfl rfl 2 (by decide) lk18 (fun _ h9 => h9) rfl dX3_addByDistance_20 ?_
          refine lv_iload hx hb dX3_addByDistance_23 (lv_at hl 6 rfl) ?_
          have hi_14 : vp_in (nI a) 150 := vp_in_nI (by omega) (by omega)
          refine va_lald hx hb hK hP 3 1 rfl rfl hi_14 dX3_addByDistance_25 ?_
          refine lv_topl (fun x_15 ex_15 => ?_)
          obtain rfl : x_15 = df a := by
            rw [ex_15]
            rw [nI_clamp (by omega)]
          refine lv_topl (fun x_16 ex_16 => ?_)
          obtain rfl : x_16 = (R.getD a nr0).2.2 := by
            rw [ex_16]
            exact (h.2.1 a (by omega)).2.2
          refine lv_lload_n hx hb dX3_addByDistance_26 rfl (lv_at hl 3 rfl) ?_
          refine W.lcmp hx hb dX3_addByDistance_27 ?_
          refine lv_if_le (tgt := 41) hx hb dX3_addByDistance_28 (by decide) (fun c_28 => ?_) (fun c_28 => ?_)
          · skip
            have hpos : posD R ds = a + 1 := posD_eq R ds (a + 1) h1 h2 (Or.inr (lg_le c_28))
            refine lv_iload hx hb dX3_addByDistance_41 (lv_at hl 5 rfl) ?_
            refine lv_iload hx hb dX3_addByDistance_43 (lv_at hl 4 rfl) ?_
            refine lv_icmp_ge (tgt := 56) hx hb dX3_addByDistance_45 (by decide) (fun c_45 => ?_) (fun c_45 => ?_)
            · replace c_45 : mo ≤ (a + 1) := (nI_leI (by omega) (by omega)).mp c_45
              have hsm : ((insD R (key, x, ds)).take mo) = R := nr_same hm (show mo ≤ posD R ds by rw [hpos]; omega)
              refine wM hQ ?_
              exact rtV (kf, vf, df) hx hb hr hlocks (by show va_P X.1 vwCl [(r, .inr (3, [.ref k, .ref v, .ref dd, .int (nI (((insD R (key, x, ds)).take mo).length))])), (k, .inl (X.2.1, 150, .inl kf)), (v, .inl (X.2.1, 150, .inl vf)), (dd, .inl (X.2.2, 150, .inr (.inl df)))] _; rw [hsm]; exact hP) hS ((by show nrOk kf vf df _; rw [hsm]; exact h)) dX3_addByDistance_56
            · replace c_45 : ¬ mo ≤ (a + 1) := fun h9 => c_45 ((nI_leI (by omega) (by omega)).mpr h9)
              refine lv_iload hx hb dX3_addByDistance_48 (lv_at hl 5 rfl) ?_
              refine lv_sipush (v := nI 150) hx hb dX3_addByDistance_50 (by decide) ?_
              refine lv_icmp_lt (tgt := 57) hx hb dX3_addByDistance_53 (by decide) (fun c_53 => ?_) (fun c_53 => ?_)
              · replace c_53 : (a + 1) < 150 := (nI_ltI (by omega) (by omega)).mp c_53
                refine lv_aload_n hx hb dX3_addByDistance_57 rfl (lv_at hl 0 rfl) ?_
                refine va_get (D := X.1) (ci := 3) (v := .int (nI R.length)) (C := RX3) (T := TX3) (N := 4) hx hb hts hin3 hown hK hP 0 rfl rfl 3 (by decide) lk22 (fun _ h9 => h9) rfl dX3_addByDistance_58 ?_
                refine lv_iload hx hb dX3_addByDistance_61 (lv_at hl 4 rfl) ?_
                refine lv_sipush (v := nI 150) hx hb dX3_addByDistance_63 (by decide) ?_
                refine va_mmin hx hb (hml.trans hl.1.symm) hown (hts (.methodLink RX3 26 Lib.Math.min.name) (by decide +kernel)) (hts (.static Lib.Math.min.name) (by decide +kernel)) (hts (.initialized "java/lang/Math") (by decide +kernel)) (hts (.code Lib.Math.min.name Lib.Math.min.code 2 (some .int)) (by decide +kernel)) (Nat.le_of_ble_eq_true rfl) (Nat.le_of_ble_eq_true rfl) (Nat.zero_le _) (Nat.zero_le _) dX3_addByDistance_66 ?_
                refine lv_topi (fun x_17 ex_17 => ?_)
                obtain rfl : x_17 = nI mo := by
                  rw [ex_17]
                  exact if_neg (nI_nlt (by omega) (by omega))
                refine lv_iconst (v := nI 1) hx hb dX3_addByDistance_69 (by decide) ?_
                refine lv_isub hx hb dX3_addByDistance_70 ?_
                refine lv_topi (fun x_18 ex_18 => ?_)
                obtain rfl : x_18 = nI (mo - 1) := by
                  rw [ex_18]
                  exact pk_sub (by omega)
                refine va_mmin hx hb (hml.trans hl.1.symm) hown (hts (.methodLink RX3 26 Lib.Math.min.name) (by decide +kernel)) (hts (.static Lib.Math.min.name) (by decide +kernel)) (hts (.initialized "java/lang/Math") (by decide +kernel)) (hts (.code Lib.Math.min.name Lib.Math.min.code 2 (some .int)) (by decide +kernel)) (Nat.le_of_ble_eq_true rfl) (Nat.le_of_ble_eq_true rfl) (Nat.zero_le _) (Nat.zero_le _) dX3_addByDistance_71 ?_
                refine lv_topi (fun x_19 ex_19 => ?_)
                obtain rfl : x_19 = nI (min R.length (mo - 1)) := by
                  rw [ex_19]
                  exact mmin_nI (by omega) (by omega)
                refine lv_istore (lv' := [(7, .int (nI (min R.length (mo - 1)))), (0, .ref r), (1, .int (nI key)), (2, .int x), (3, .long ds), (5, .int (nI mo)), (6, .int (nI (a + 1)))]) hx hb dX3_addByDistance_74 hl (by decide) rfl (fun ls hl => ?_)
                refine lv_aload_n hx hb dX3_addByDistance_76 rfl (lv_at hl 1 rfl) ?_
                refine va_get (D := X.1) (ci := 3) (v := .ref k) (C := RX3) (T := TX3) (N := 4) hx hb hts hin3 hown hK hP 0 rfl rfl 0 (by decide) lk9 (fun _ h9 => h9) rfl dX3_addByDistance_77 ?_
                refine lv_iload hx hb dX3_addByDistance_80 (lv_at hl 6 rfl) ?_
                refine lv_aload_n hx hb dX3_addByDistance_82 rfl (lv_at hl 1 rfl) ?_
                refine va_get (D := X.1) (ci := 3) (v := .ref k) (C := RX3) (T := TX3) (N := 4) hx hb hts hin3 hown hK hP 0 rfl rfl 0 (by decide) lk9 (fun _ h9 => h9) rfl dX3_addByDistance_83 ?_
                refine lv_iload hx hb dX3_addByDistance_86 (lv_at hl 6 rfl) ?_
                refine lv_iconst (v := nI 1) hx hb dX3_addByDistance_88 (by decide) ?_
                refine lv_iadd hx hb dX3_addByDistance_89 ?_
                refine lv_topi (fun x_20 ex_20 => ?_)
                obtain rfl : x_20 = nI ((a + 1) + 1) := by
                  rw [ex_20]
                  exact nI_add _ _
                refine lv_iload hx hb dX3_addByDistance_90 (lv_at hl 0 rfl) ?_
                refine lv_iload hx hb dX3_addByDistance_92 (lv_at hl 6 rfl) ?_
                refine lv_isub hx hb dX3_addByDistance_94 ?_
                refine lv_topi (fun x_21 ex_21 => ?_)
                obtain rfl : x_21 = nI ((min R.length (mo - 1)) - (a + 1)) := by
                  rw [ex_21]
                  exact pk_sub (by omega)
                refine va_copyi hx hb (hml.trans hl.1.symm) hown (hts (.methodLink RX3 32 arraycopyName) (by decide +kernel)) (hts (.native arraycopyName) (by decide +kernel)) (hts (.static arraycopyName) (by decide +kernel)) (hts (.initialized "java/lang/System") (by decide +kernel)) hK hP hD hS 1 1 0 0 rfl rfl rfl rfl rfl (nI_pos (by omega)) (nI_pos (by omega)) (nI_pos (by omega)) (by rw [nI_clamp (by omega), nI_clamp (by omega)]; omega) (by rw [nI_clamp (by omega), nI_clamp (by omega)]; omega) (fun _ _ => rfl) (Nat.le_of_ble_eq_true rfl) (by decide) dX3_addByDistance_95 (fun H locs hP hD hS => ?_)
                rw [nI_clamp (n := a + 1) (by omega), nI_clamp (n := (a + 1) + 1) (by omega), nI_clamp (n := (min R.length (mo - 1)) - (a + 1)) (by omega)] at hP hD
                have hP : va_P X.1 vwCl [(r, .inr (3, [.ref k, .ref v, .ref dd, .int (nI R.length)])), (k, .inl (X.2.1, 150, .inl (va_cpy kf kf (a + 1) ((a + 1) + 1) ((min R.length (mo - 1)) - (a + 1))))), (v, .inl (X.2.1, 150, .inl vf)), (dd, .inl (X.2.2, 150, .inr (.inl df)))] H := hP
                have hD : va_D A_ [(r, .inr (3, [.ref k, .ref v, .ref dd, .int (nI R.length)])), (k, .inl (X.2.1, 150, .inl (va_cpy kf kf (a + 1) ((a + 1) + 1) ((min R.length (mo - 1)) - (a + 1))))), (v, .inl (X.2.1, 150, .inl vf)), (dd, .inl (X.2.2, 150, .inr (.inl df)))] := hD
                refine lv_aload_n hx hb dX3_addByDistance_98 rfl (lv_at hl 1 rfl) ?_
                refine va_get (D := X.1) (ci := 3) (v := .ref v) (C := RX3) (T := TX3) (N := 4) hx hb hts hin3 hown hK hP 0 rfl rfl 1 (by decide) lk15 (fun _ h9 => h9) rfl dX3_addByDistance_99 ?_
                refine lv_iload hx hb dX3_addByDistance_102 (lv_at hl 6 rfl) ?_
                refine lv_aload_n hx hb dX3_addByDistance_104 rfl (lv_at hl 1 rfl) ?_
                refine va_get (D := X.1) (ci := 3) (v := .ref v) (C := RX3) (T := TX3) (N := 4) hx hb hts hin3 hown hK hP 0 rfl rfl 1 (by decide) lk15 (fun _ h9 => h9) rfl dX3_addByDistance_105 ?_
                refine lv_iload hx hb dX3_addByDistance_108 (lv_at hl 6 rfl) ?_
                refine lv_iconst (v := nI 1) hx hb dX3_addByDistance_110 (by decide) ?_
                refine lv_iadd hx hb dX3_addByDistance_111 ?_
                refine lv_topi (fun x_22 ex_22 => ?_)
                obtain rfl : x_22 = nI ((a + 1) + 1) := by
                  rw [ex_22]
                  exact nI_add _ _
                refine lv_iload hx hb dX3_addByDistance_112 (lv_at hl 0 rfl) ?_
                refine lv_iload hx hb dX3_addByDistance_114 (lv_at hl 6 rfl) ?_
                refine lv_isub hx hb dX3_addByDistance_116 ?_
                refine lv_topi (fun x_23 ex_23 => ?_)
                obtain rfl : x_23 = nI ((min R.length (mo - 1)) - (a + 1)) := by
                  rw [ex_23]
                  exact pk_sub (by omega)
                refine va_copyi hx hb (hml.trans hl.1.symm) hown (hts (.methodLink RX3 32 arraycopyName) (by decide +kernel)) (hts (.native arraycopyName) (by decide +kernel)) (hts (.static arraycopyName) (by decide +kernel)) (hts (.initialized "java/lang/System") (by decide +kernel)) hK hP hD hS 2 2 0 0 rfl rfl rfl rfl rfl (nI_pos (by omega)) (nI_pos (by omega)) (nI_pos (by omega)) (by rw [nI_clamp (by omega), nI_clamp (by omega)]; omega) (by rw [nI_clamp (by omega), nI_clamp (by omega)]; omega) (fun _ _ => rfl) (Nat.le_of_ble_eq_true rfl) (by decide) dX3_addByDistance_117 (fun H locs hP hD hS => ?_)
                rw [nI_clamp (n := a + 1) (by omega), nI_clamp (n := (a + 1) + 1) (by omega), nI_clamp (n := (min R.length (mo - 1)) - (a + 1)) (by omega)] at hP hD
                have hP : va_P X.1 vwCl [(r, .inr (3, [.ref k, .ref v, .ref dd, .int (nI R.length)])), (k, .inl (X.2.1, 150, .inl (va_cpy kf kf (a + 1) ((a + 1) + 1) ((min R.length (mo - 1)) - (a + 1))))), (v, .inl (X.2.1, 150, .inl (va_cpy vf vf (a + 1) ((a + 1) + 1) ((min R.length (mo - 1)) - (a + 1))))), (dd, .inl (X.2.2, 150, .inr (.inl df)))] H := hP
                have hD : va_D A_ [(r, .inr (3, [.ref k, .ref v, .ref dd, .int (nI R.length)])), (k, .inl (X.2.1, 150, .inl (va_cpy kf kf (a + 1) ((a + 1) + 1) ((min R.length (mo - 1)) - (a + 1))))), (v, .inl (X.2.1, 150, .inl (va_cpy vf vf (a + 1) ((a + 1) + 1) ((min R.length (mo - 1)) - (a + 1))))), (dd, .inl (X.2.2, 150, .inr (.inl df)))] := hD
                refine lv_aload_n hx hb dX3_addByDistance_120 rfl (lv_at hl 1 rfl) ?_
                refine va_get (D := X.1) (ci := 3) (v := .ref dd) (C := RX3) (T := TX3) (N := 4) hx hb hts hin3 hown hK hP 0 rfl rfl 2 (by decide) lk18 (fun _ h9 => h9) rfl dX3_addByDistance_121 ?_
                refine lv_iload hx hb dX3_addByDistance_124 (lv_at hl 6 rfl) ?_
                refine lv_aload_n hx hb dX3_addByDistance_126 rfl (lv_at hl 1 rfl) ?_
                refine va_get (D := X.1) (ci := 3) (v := .ref dd) (C := RX3) (T := TX3) (N := 4) hx hb hts hin3 hown hK hP 0 rfl rfl 2 (by decide) lk18 (fun _ h9 => h9) rfl dX3_addByDistance_127 ?_
                refine lv_iload hx hb dX3_addByDistance_130 (lv_at hl 6 rfl) ?_
                refine lv_iconst (v := nI 1) hx hb dX3_addByDistance_132 (by decide) ?_
                refine lv_iadd hx hb dX3_addByDistance_133 ?_
                refine lv_topi (fun x_24 ex_24 => ?_)
                obtain rfl : x_24 = nI ((a + 1) + 1) := by
                  rw [ex_24]
                  exact nI_add _ _
                refine lv_iload hx hb dX3_addByDistance_134 (lv_at hl 0 rfl) ?_
                refine lv_iload hx hb dX3_addByDistance_136 (lv_at hl 6 rfl) ?_
                refine lv_isub hx hb dX3_addByDistance_138 ?_
                refine lv_topi (fun x_25 ex_25 => ?_)
                obtain rfl : x_25 = nI ((min R.length (mo - 1)) - (a + 1)) := by
                  rw [ex_25]
                  exact pk_sub (by omega)
                refine va_copyl hx hb (hml.trans hl.1.symm) hown (hts (.methodLink RX3 32 arraycopyName) (by decide +kernel)) (hts (.native arraycopyName) (by decide +kernel)) (hts (.static arraycopyName) (by decide +kernel)) (hts (.initialized "java/lang/System") (by decide +kernel)) hK hP hD hS 3 3 1 1 rfl rfl rfl rfl rfl (nI_pos (by omega)) (nI_pos (by omega)) (nI_pos (by omega)) (by rw [nI_clamp (by omega), nI_clamp (by omega)]; omega) (by rw [nI_clamp (by omega), nI_clamp (by omega)]; omega) (fun _ _ => rfl) (Nat.le_of_ble_eq_true rfl) (by decide) dX3_addByDistance_139 (fun H locs hP hD hS => ?_)
                rw [nI_clamp (n := a + 1) (by omega), nI_clamp (n := (a + 1) + 1) (by omega), nI_clamp (n := (min R.length (mo - 1)) - (a + 1)) (by omega)] at hP hD
                have hP : va_P X.1 vwCl [(r, .inr (3, [.ref k, .ref v, .ref dd, .int (nI R.length)])), (k, .inl (X.2.1, 150, .inl (va_cpy kf kf (a + 1) ((a + 1) + 1) ((min R.length (mo - 1)) - (a + 1))))), (v, .inl (X.2.1, 150, .inl (va_cpy vf vf (a + 1) ((a + 1) + 1) ((min R.length (mo - 1)) - (a + 1))))), (dd, .inl (X.2.2, 150, .inr (.inl (va_cpy df df (a + 1) ((a + 1) + 1) ((min R.length (mo - 1)) - (a + 1))))))] H := hP
                have hD : va_D A_ [(r, .inr (3, [.ref k, .ref v, .ref dd, .int (nI R.length)])), (k, .inl (X.2.1, 150, .inl (va_cpy kf kf (a + 1) ((a + 1) + 1) ((min R.length (mo - 1)) - (a + 1))))), (v, .inl (X.2.1, 150, .inl (va_cpy vf vf (a + 1) ((a + 1) + 1) ((min R.length (mo - 1)) - (a + 1))))), (dd, .inl (X.2.2, 150, .inr (.inl (va_cpy df df (a + 1) ((a + 1) + 1) ((min R.length (mo - 1)) - (a + 1))))))] := hD
                refine lv_aload_n hx hb dX3_addByDistance_142 rfl (lv_at hl 1 rfl) ?_
                refine va_get (D := X.1) (ci := 3) (v := .ref k) (C := RX3) (T := TX3) (N := 4) hx hb hts hin3 hown hK hP 0 rfl rfl 0 (by decide) lk9 (fun _ h9 => h9) rfl dX3_addByDistance_143 ?_
                refine lv_iload hx hb dX3_addByDistance_146 (lv_at hl 6 rfl) ?_
                refine lv_iload_n hx hb dX3_addByDistance_148 rfl (lv_at hl 2 rfl) ?_
                have hi_26 : vp_in (nI (a + 1)) 150 := vp_in_nI (by omega) (by omega)
                refine va_iast hx hb hK hP hD hS 1 0 rfl rfl hi_26 dX3_addByDistance_149 (fun H locs hP hD hS => ?_)
                rw [nI_clamp (by omega)] at hP hD
                have hP : va_P X.1 vwCl [(r, .inr (3, [.ref k, .ref v, .ref dd, .int (nI R.length)])), (k, .inl (X.2.1, 150, .inl (upd (va_cpy kf kf (a + 1) ((a + 1) + 1) ((min R.length (mo - 1)) - (a + 1))) (a + 1) (nI key)))), (v, .inl (X.2.1, 150, .inl (va_cpy vf vf (a + 1) ((a + 1) + 1) ((min R.length (mo - 1)) - (a + 1))))), (dd, .inl (X.2.2, 150, .inr (.inl (va_cpy df df (a + 1) ((a + 1) + 1) ((min R.length (mo - 1)) - (a + 1))))))] H := hP
                have hD : va_D A_ [(r, .inr (3, [.ref k, .ref v, .ref dd, .int (nI R.length)])), (k, .inl (X.2.1, 150, .inl (upd (va_cpy kf kf (a + 1) ((a + 1) + 1) ((min R.length (mo - 1)) - (a + 1))) (a + 1) (nI key)))), (v, .inl (X.2.1, 150, .inl (va_cpy vf vf (a + 1) ((a + 1) + 1) ((min R.length (mo - 1)) - (a + 1))))), (dd, .inl (X.2.2, 150, .inr (.inl (va_cpy df df (a + 1) ((a + 1) + 1) ((min R.length (mo - 1)) - (a + 1))))))] := hD
                refine lv_aload_n hx hb dX3_addByDistance_150 rfl (lv_at hl 1 rfl) ?_
                refine va_get (D := X.1) (ci := 3) (v := .ref v) (C := RX3) (T := TX3) (N := 4) hx hb hts hin3 hown hK hP 0 rfl rfl 1 (by decide) lk15 (fun _ h9 => h9) rfl dX3_addByDistance_151 ?_
                refine lv_iload hx hb dX3_addByDistance_154 (lv_at hl 6 rfl) ?_
                refine lv_iload_n hx hb dX3_addByDistance_156 rfl (lv_at hl 3 rfl) ?_
                have hi_27 : vp_in (nI (a + 1)) 150 := vp_in_nI (by omega) (by omega)
                refine va_iast hx hb hK hP hD hS 2 0 rfl rfl hi_27 dX3_addByDistance_157 (fun H locs hP hD hS => ?_)
                rw [nI_clamp (by omega)] at hP hD
                have hP : va_P X.1 vwCl [(r, .inr (3, [.ref k, .ref v, .ref dd, .int (nI R.length)])), (k, .inl (X.2.1, 150, .inl (upd (va_cpy kf kf (a + 1) ((a + 1) + 1) ((min R.length (mo - 1)) - (a + 1))) (a + 1) (nI key)))), (v, .inl (X.2.1, 150, .inl (upd (va_cpy vf vf (a + 1) ((a + 1) + 1) ((min R.length (mo - 1)) - (a + 1))) (a + 1) x))), (dd, .inl (X.2.2, 150, .inr (.inl (va_cpy df df (a + 1) ((a + 1) + 1) ((min R.length (mo - 1)) - (a + 1))))))] H := hP
                have hD : va_D A_ [(r, .inr (3, [.ref k, .ref v, .ref dd, .int (nI R.length)])), (k, .inl (X.2.1, 150, .inl (upd (va_cpy kf kf (a + 1) ((a + 1) + 1) ((min R.length (mo - 1)) - (a + 1))) (a + 1) (nI key)))), (v, .inl (X.2.1, 150, .inl (upd (va_cpy vf vf (a + 1) ((a + 1) + 1) ((min R.length (mo - 1)) - (a + 1))) (a + 1) x))), (dd, .inl (X.2.2, 150, .inr (.inl (va_cpy df df (a + 1) ((a + 1) + 1) ((min R.length (mo - 1)) - (a + 1))))))] := hD
                refine lv_aload_n hx hb dX3_addByDistance_158 rfl (lv_at hl 1 rfl) ?_
                refine va_get (D := X.1) (ci := 3) (v := .ref dd) (C := RX3) (T := TX3) (N := 4) hx hb hts hin3 hown hK hP 0 rfl rfl 2 (by decide) lk18 (fun _ h9 => h9) rfl dX3_addByDistance_159 ?_
                refine lv_iload hx hb dX3_addByDistance_162 (lv_at hl 6 rfl) ?_
                refine lv_lload_n hx hb dX3_addByDistance_164 rfl (lv_at hl 4 rfl) ?_
                have hi_28 : vp_in (nI (a + 1)) 150 := vp_in_nI (by omega) (by omega)
                refine va_last hx hb hK hP hD hS 3 1 rfl rfl hi_28 dX3_addByDistance_165 (fun H locs hP hD hS => ?_)
                rw [nI_clamp (by omega)] at hP hD
                have hP : va_P X.1 vwCl [(r, .inr (3, [.ref k, .ref v, .ref dd, .int (nI R.length)])), (k, .inl (X.2.1, 150, .inl (upd (va_cpy kf kf (a + 1) ((a + 1) + 1) ((min R.length (mo - 1)) - (a + 1))) (a + 1) (nI key)))), (v, .inl (X.2.1, 150, .inl (upd (va_cpy vf vf (a + 1) ((a + 1) + 1) ((min R.length (mo - 1)) - (a + 1))) (a + 1) x))), (dd, .inl (X.2.2, 150, .inr (.inl (vp_updL (va_cpy df df (a + 1) ((a + 1) + 1) ((min R.length (mo - 1)) - (a + 1))) (a + 1) ds))))] H := hP
                have hD : va_D A_ [(r, .inr (3, [.ref k, .ref v, .ref dd, .int (nI R.length)])), (k, .inl (X.2.1, 150, .inl (upd (va_cpy kf kf (a + 1) ((a + 1) + 1) ((min R.length (mo - 1)) - (a + 1))) (a + 1) (nI key)))), (v, .inl (X.2.1, 150, .inl (upd (va_cpy vf vf (a + 1) ((a + 1) + 1) ((min R.length (mo - 1)) - (a + 1))) (a + 1) x))), (dd, .inl (X.2.2, 150, .inr (.inl (vp_updL (va_cpy df df (a + 1) ((a + 1) + 1) ((min R.length (mo - 1)) - (a + 1))) (a + 1) ds))))] := hD
                refine lv_aload_n hx hb dX3_addByDistance_166 rfl (lv_at hl 1 rfl) ?_
                refine lv_iload hx hb dX3_addByDistance_167 (lv_at hl 0 rfl) ?_
                refine lv_iconst (v := nI 1) hx hb dX3_addByDistance_169 (by decide) ?_
                refine lv_iadd hx hb dX3_addByDistance_170 ?_
                refine lv_topi (fun x_29 ex_29 => ?_)
                obtain rfl : x_29 = nI ((min R.length (mo - 1)) + 1) := by
                  rw [ex_29]
                  exact nI_add _ _
                refine va_put (D := X.1) (ci := 3) (v := .int (nI ((min R.length (mo - 1)) + 1))) (ty := .int) (C := RX3) (T := TX3) (N := 4) hx hb hts hin3 tyX3 tyX3_ok nmX3 hown hK hP hD hS 0 rfl rfl 3 (by decide) lk22 (fun _ h9 => h9) rfl (by decide +kernel) rfl rfl (Nat.le_of_ble_eq_true rfl) dX3_addByDistance_171 (fun H locs hP hD hS => ?_)
                have hP : va_P X.1 vwCl [(r, .inr (3, [.ref k, .ref v, .ref dd, .int (nI ((min R.length (mo - 1)) + 1))])), (k, .inl (X.2.1, 150, .inl (upd (va_cpy kf kf (a + 1) ((a + 1) + 1) ((min R.length (mo - 1)) - (a + 1))) (a + 1) (nI key)))), (v, .inl (X.2.1, 150, .inl (upd (va_cpy vf vf (a + 1) ((a + 1) + 1) ((min R.length (mo - 1)) - (a + 1))) (a + 1) x))), (dd, .inl (X.2.2, 150, .inr (.inl (vp_updL (va_cpy df df (a + 1) ((a + 1) + 1) ((min R.length (mo - 1)) - (a + 1))) (a + 1) ds))))] H := hP
                have hD : va_D A_ [(r, .inr (3, [.ref k, .ref v, .ref dd, .int (nI ((min R.length (mo - 1)) + 1))])), (k, .inl (X.2.1, 150, .inl (upd (va_cpy kf kf (a + 1) ((a + 1) + 1) ((min R.length (mo - 1)) - (a + 1))) (a + 1) (nI key)))), (v, .inl (X.2.1, 150, .inl (upd (va_cpy vf vf (a + 1) ((a + 1) + 1) ((min R.length (mo - 1)) - (a + 1))) (a + 1) x))), (dd, .inl (X.2.2, 150, .inr (.inl (vp_updL (va_cpy df df (a + 1) ((a + 1) + 1) ((min R.length (mo - 1)) - (a + 1))) (a + 1) ds))))] := hD
                have hfin := nr_ins (x := x) h hk hm hm2 (show posD R ds < mo by rw [hpos]; omega)
                rw [hpos] at hfin
                rw [← hfin.2] at hP
                refine wM hQ ?_
                exact rtV (upd (va_cpy kf kf (a + 1) ((a + 1) + 1) ((min R.length (mo - 1)) - (a + 1))) (a + 1) (nI key), upd (va_cpy vf vf (a + 1) ((a + 1) + 1) ((min R.length (mo - 1)) - (a + 1))) (a + 1) x, vp_updL (va_cpy df df (a + 1) ((a + 1) + 1) ((min R.length (mo - 1)) - (a + 1))) (a + 1) ds) hx hb hr hlocks hP hS (hfin.1) dX3_addByDistance_174
              · replace c_53 : ¬ (a + 1) < 150 := fun h9 => c_53 ((nI_ltI (by omega) (by omega)).mpr h9)
                have hsm : ((insD R (key, x, ds)).take mo) = R := nr_same hm (show mo ≤ posD R ds by rw [hpos]; omega)
                refine wM hQ ?_
                exact rtV (kf, vf, df) hx hb hr hlocks (by show va_P X.1 vwCl [(r, .inr (3, [.ref k, .ref v, .ref dd, .int (nI (((insD R (key, x, ds)).take mo).length))])), (k, .inl (X.2.1, 150, .inl kf)), (v, .inl (X.2.1, 150, .inl vf)), (dd, .inl (X.2.2, 150, .inr (.inl df)))] _; rw [hsm]; exact hP) hS ((by show nrOk kf vf df _; rw [hsm]; exact h)) dX3_addByDistance_56
          · skip
            have hgt := lg_gt c_28
            refine lv_iload hx hb dX3_addByDistance_31 (lv_at hl 6 rfl) ?_
            refine lv_istore (lv' := [(6, .int (nI a)), (0, .ref r), (1, .int (nI key)), (2, .int x), (3, .long ds), (5, .int (nI mo)), (7, .int (nI a))]) hx hb dX3_addByDistance_33 hl (by decide) rfl (fun ls hl => ?_)
            refine lv_iinc (v := im a) (lv' := [(7, .int (im a)), (6, .int (nI a)), (0, .ref r), (1, .int (nI key)), (2, .int x), (3, .long ds), (5, .int (nI mo))]) hx hb dX3_addByDistance_35 hl (k := 6) rfl (by show _ = nI a - nI 1; rw [show Int32.ofInt (-1) = -nI 1 from by decide, Int32.sub_eq_add_neg]) (by decide) rfl (fun ls hl => ?_)
            refine lv_goto (tgt := 14) hx hb dX3_addByDistance_38 (by decide) ?_
            have hstep : ∀ j, a ≤ j → j < R.length → ds < (R.getD j nr0).2.2 := fun j hj hl2 => by
              rcases Nat.eq_or_lt_of_le hj with z | z
              · rw [← z]; exact hgt
              · exact h2 j z hl2
            have hl : lv_has ls 8 [(7, .int (im a)), (6, .int (nI a)), (0, .ref r), (1, .int (nI key)), (2, .int x), (3, .long ds), (5, .int (nI mo))] := hl
            exact ih a (by omega) (by exact hstep) (by omega) ls (lv_sub hl [2, 3, 4, 5, 6, 1, 0] rfl)
  exact loop_14 _ R.length (by omega) (by exact fun j hj hl2 => absurd hl2 (by omega)) (Nat.lt_succ_self _) ls (lv_sub hl [2, 3, 4, 5, 6, 1, 0] rfl)
end
section
/-! what the calls answer and do, over lists -/
noncomputable def cif {α : Sort _} (p : Prop) (a b : α) : α := @ite α p (Classical.propDecidable p) a b
theorem cif_pos {α : Sort _} {p : Prop} {a b : α} (h : p) : cif p a b = a := @if_pos p (Classical.propDecidable p) h α a b
theorem cif_neg {α : Sort _} {p : Prop} {a b : α} (h : ¬ p) : cif p a b = b := @if_neg p (Classical.propDecidable p) h α a b
def kOf (x y : Int32) : Nat := x.toNatClampNeg * 32768 + y.toNatClampNeg
noncomputable def insF (sp bk b bl : Nat) (P : PL) (nc : Nat) (x y v : Int32) : Int32 × PL × List Op :=
  cif (onp x y sp ∧ ¬ v < 0) (cif (60 ≤ nc) (nI 3, P, []) (cif (lkp P (kOf x y) = none) (cif (bl < (tr bk b 0 0 (pput P (kOf x y) v.toNatClampNeg)).length) (nI 4, P, []) (nI 0, pput P (kOf x y) v.toNatClampNeg, [some (kOf x y, some v.toNatClampNeg)])) (nI 1, pput P (kOf x y) v.toNatClampNeg, [some (kOf x y, some v.toNatClampNeg)]))) (nI 2, P, [])
noncomputable def delF (sp : Nat) (P : PL) (nc : Nat) (x y : Int32) : Int32 × PL × List Op :=
  cif (onp x y sp) (cif (lkp P (kOf x y) = none) (nI 5, P, []) (cif (60 ≤ nc) (nI 3, P, []) (nI 0, pdel P (kOf x y), [some (kOf x y, none)]))) (nI 2, P, [])
noncomputable def sel {α : Type} (x : Int32) (P H : α) : Option α := cif (x = 0) (some P) (cif (x = nI 1) (some H) none)
theorem sel_0 {α : Type} {x : Int32} {P H : α} (h : x = 0) : sel x P H = some P := cif_pos h
theorem sel_1 {α : Type} {x : Int32} {P H : α} (h : x = nI 1) : sel x P H = some H := by
  unfold sel
  rw [cif_neg (by rw [h]; decide), cif_pos h]
theorem sel_n {α : Type} {x : Int32} {P H : α} (h : ¬ x = 0) (h1 : ¬ x = nI 1) : sel x P H = none := by
  unfold sel
  rw [cif_neg h, cif_neg h1]
noncomputable def getV (sp : Nat) (S : Option PL) (x y : Int32) : Int32 := match S with
  | none => -1
  | some L => cif (onp x y sp) (vOf L (kOf x y)) (-1)
/-- window: RESULTS and how many -/
noncomputable def wSt (x0 y0 x1 y1 : Int32) (a : RSL × Nat) (q : Nat × Nat) : RSL × Nat := cif (win q.1 x0 y0 x1 y1) (rsAdd a.1 q.1 (nI q.2), a.2 + 1) a
noncomputable def wAll (x0 y0 x1 y1 : Int32) (L : PL) : RSL × Nat := L.foldl (wSt x0 y0 x1 y1) ([], 0)
noncomputable def sSt (x0 y0 x1 y1 : Int32) (a : Int64) (q : Nat × Nat) : Int64 := cif (win q.1 x0 y0 x1 y1) (a + lN q.2) a
noncomputable def sAll (x0 y0 x1 y1 : Int32) (L : PL) : Int64 := L.foldl (sSt x0 y0 x1 y1) (lN 0)
def nSt (x y : Int32) (k : Nat) (R : NRL) (q : Nat × Nat) : NRL := (insD R (q.1, nI q.2, dst q.1 x y)).take k
def nAll (x y : Int32) (k : Nat) (L : PL) : NRL := L.foldl (nSt x y k) []
theorem fold_take {α β : Type} (f : β → α → β) (b : β) (L : List α) (d : α) {i : Nat} (h : i < L.length) : (L.take (i + 1)).foldl f b = f ((L.take i).foldl f b) (L.getD i d) := by
  have e : L.take (i + 1) = L.take i ++ [L.getD i d] := by rw [List.take_succ]; simp [h]
  rw [e, List.foldl_append]; rfl
theorem pKV {L : PL} {i : Nat} : L.getD i (0, 0) = (pK L i, pV L i) := rfl
def rOf (R : NRL) : RSL := R.map (fun q => (q.1, q.2.1))
theorem nr_rs {kf vf : Nat → Int32} {df : Nat → Int64} {R : NRL} (h : nrOk kf vf df R) : rsOk kf vf (rOf R) := by
  refine ⟨by simpa [rOf] using h.1, fun i hi => ?_, fun q hq => ?_⟩
  · have hi' : i < R.length := by simpa [rOf] using hi
    have e : (rOf R).getD i (0, 0) = ((R.getD i nr0).1, (R.getD i nr0).2.1) := by simp [rOf, hi']
    rw [e]
    exact ⟨(h.2.1 i hi').1, (h.2.1 i hi').2.1⟩
  · unfold rOf at hq
    obtain ⟨r, hr, rfl⟩ := List.mem_map.mp hq
    exact h.2.2 r hr
theorem rOf_len (R : NRL) : (rOf R).length = R.length := by simp [rOf]
noncomputable def resV (R : RSL) (i w : Int32) : Int32 := cif (¬ i < 0 ∧ i < nI R.length) (cif (w = nI 0) (nI ((R.getD i.toNatClampNeg (0, 0)).1 / 32768)) (cif (w = nI 1) (nI ((R.getD i.toNatClampNeg (0, 0)).1 % 32768)) (cif (w = nI 2) (R.getD i.toNatClampNeg (0, 0)).2 (-1)))) (-1)
/-- differs: the points that are in one state alone, or with another value -/
def dAdd (a : RSL × Nat) (k : Nat) (x : Int32) : RSL × Nat := (rsAdd a.1 k x, a.2 + 1)
def dif : Nat → PL → PL → RSL × Nat → RSL × Nat
  | 0, _, _, a => a
  | _ + 1, [], [], a => a
  | n + 1, p :: P, [], a => dif n P [] (dAdd a p.1 (nI p.2))
  | n + 1, [], c :: C, a => dif n [] C (dAdd a c.1 (-1))
  | n + 1, p :: P, c :: C, a => if p.1 < c.1 then dif n P (c :: C) (dAdd a p.1 (nI p.2)) else if c.1 < p.1 then dif n (p :: P) C (dAdd a c.1 (-1)) else dif n P C (if p.2 = c.2 then a else dAdd a p.1 (nI p.2))
/-- the tree's cache -/
def tcOk (bk b N : Nat) (L : PL) (w : Nat) (nn dd mo : Int32) (ff : Nat → Int32) : Prop := (mo = nI w → nn = nI (gF bk b 0 0 N L []).length ∧ dd = nI (dpt b (gF bk b 0 0 N L [])) ∧ fOk ff (gF bk b 0 0 N L [])) ∧ (mo = -1 ∨ ∃ m, m ≤ w ∧ mo = nI m)
theorem tc_next {bk b N : Nat} {L L' : PL} {w w' : Nat} {nn dd mo : Int32} {ff : Nat → Int32} (h : tcOk bk b N L w nn dd mo ff) (hw : w < w') (hb : w' < 2 ^ 31) : tcOk bk b N L' w' nn dd mo ff := by
  refine ⟨fun e => ?_, ?_⟩
  · rcases h.2 with z | ⟨m, hm, z⟩
    · exact absurd (e.symm.trans z) (nI_m1 hb)
    · have := (nI_eq (by omega) hb).mp (z.symm.trans e)
      omega
  · rcases h.2 with z | ⟨m, hm, z⟩
    · exact Or.inl z
    · exact Or.inr ⟨m, by omega, z⟩
theorem tc_same {bk b N : Nat} {L : PL} {w : Nat} {ff : Nat → Int32} (h : fOk ff (gF bk b 0 0 N L [])) : tcOk bk b N L w (nI (gF bk b 0 0 N L []).length) (nI (dpt b (gF bk b 0 0 N L []))) (nI w) ff := ⟨fun _ => ⟨rfl, rfl, h⟩, Or.inr ⟨w, Nat.le_refl _, rfl⟩⟩
def insd (b : Nat) (P : PL) : Prop := ∀ q ∈ P, q.1 / 32768 < 2 ^ b ∧ q.1 % 32768 < 2 ^ b
theorem insd_rg {b : Nat} {L : PL} (h : insd b L) : ∀ i, i < L.length → inS L 0 0 (2 ^ b) i = true := by
  intro i hi
  have h1 := h _ (pK_mem hi)
  unfold inS inq
  rw [decide_eq_true_eq]
  show 0 ≤ pK L i / 32768 ∧ pK L i / 32768 < 0 + 2 ^ b ∧ 0 ≤ pK L i % 32768 ∧ pK L i % 32768 < 0 + 2 ^ b
  omega
theorem gF_fit {bk b N : Nat} {L : PL} (h : (tr bk b 0 0 L).length ≤ N) : gF bk b 0 0 N L [] = tr bk b 0 0 L := by
  unfold gF
  rw [List.nil_append, List.take_of_length_le h]
theorem gF_gt {bk b bl : Nat} {L : PL} : bl < (gF bk b 0 0 (bl + 1) L []).length ↔ bl < (tr bk b 0 0 L).length := by
  unfold gF
  rw [List.nil_append, List.length_take]
  omega
noncomputable def cntV (bk b bl sp : Nat) (P H : PL) (nc : Nat) (ct : Int32) (x : Int32) : Int32 :=
  cif (x = nI 0) (nI P.length) (cif (x = nI 1) (nI H.length) (cif (x = nI 2) (nI (tr bk b 0 0 P).length) (cif (x = nI 3) (nI (tr bk b 0 0 H).length) (cif (x = nI 4) (nI (bl - (tr bk b 0 0 P).length)) (cif (x = nI 5) (nI nc) (cif (x = nI 6) (nI (dpt b (tr bk b 0 0 P))) (cif (x = nI 7) ct (cif (x = nI 8) (nI bl) (cif (x = nI 9) (nI bk) (cif (x = nI 10) (nI sp) (-1)))))))))))
theorem sw_ne {x : Int32} {n j : Nat} (h : x.toInt < 0 ∨ (n : Int) ≤ x.toInt) (hj : j < n) (hn : n < 2 ^ 31) : ¬ x = nI j := by
  intro z
  rw [z, nI_toInt (by omega)] at h
  omega
theorem vOf_m1 {kf vf : Nat → Int32} {L : PL} {key : Nat} (h : ptOk kf vf L) : vOf L key = -1 ↔ lkp L key = none := by
  unfold vOf
  cases e : lkp L key with
  | none => simp
  | some v =>
    have := (h.2.2.2 _ (lkp_some e)).2
    constructor
    · intro z; exact absurd z (nI_m1 this)
    · intro z; cases z
theorem pdel_pput {L : PL} {key v : Nat} (hs : pSort L) (h : lkp L key = none) : pdel (pput L key v) key = L := by
  apply sort_ext (pdel_sort (pput_sort hs)) hs
  intro k
  rw [lkp_pdel (pput_sort hs), lkp_pput hs]
  by_cases z : k = key
  · rw [if_pos z, z, h]
  · rw [if_neg z, if_neg z]
theorem pput_len {L : PL} {key v : Nat} : (pput L key v).length ≤ L.length + 1 := by
  induction L with
  | nil => simp [pput]
  | cons r L ih =>
    unfold pput
    split
    · simp; omega
    · split <;> simp
theorem tv_pput {L : PL} {key v w : Nat} (hs : pSort L) : tv (pput L key v) key w = w + 1 := by
  unfold tv
  rw [lkp_pput hs, if_pos rfl]
theorem kOf_nI {a b : Nat} (ha : a < 32768) (hb : b < 32768) : kOf (nI a) (nI b) = a * 32768 + b := by
  unfold kOf
  rw [nI_clamp (by omega), nI_clamp (by omega)]
theorem sel3 (x : Int32) : x = 0 ∨ x = nI 1 ∨ (¬ x = 0 ∧ ¬ x = nI 1) := by
  by_cases h : x = 0
  · exact Or.inl h
  · by_cases h1 : x = nI 1
    · exact Or.inr (Or.inl h1)
    · exact Or.inr (Or.inr ⟨h, h1⟩)
theorem ge_nlt {x : Int32} (h : 0 ≤ x) : ¬ x < 0 := Int32.not_lt.mpr h
end
section
/-! PointStore: insert: contracts, laid by program (wip/gen/spec_store.py) -/
set_option maxHeartbeats 4000000 in
set_option maxRecDepth 100000 in
theorem c_X5_comesIn (l : Launch) (X : kX) (a d p t t2 ch rs sp bl bk cp : Nat) (f_ct : Int32) (pk pv w fa oa b key x : Nat) (f_pw f_nn f_dd f_mo : Int32) (pkf pvf ff o : Nat → Int32) (P : PL) (h : ptOk pkf pvf P) (hlt : P.length < 512) (hno : lkp P key = none) (hk : key < 2 ^ 30) (hx0 : x < 2 ^ 31) (hbl : bl ≤ 400) (hb1 : b ≤ 15) (hbk : 1 ≤ bk) (hbk2 : bk ≤ 8) (htc : tcOk bk b (bl + 1) P w f_nn f_dd f_mo ff) (hin : insd b (pput P key x)) (hw : w + 2 < 2 ^ 31) : CWi l X yX5_comesIn wsX5_comesIn (b + 5) [.ref a, .int (nI key), .int (nI x)] [(a, .inr (5, [.int (nI bl), .int (nI bk), .int (nI sp), .ref d, .ref p, .ref t, .ref t2, .ref ch, .ref rs, .int f_pw, .int f_ct, .int (nI cp)])), (p, .inr (2, [.ref pk, .ref pv, .int (nI P.length), .int (nI w)])), (pk, .inl (X.2.1, 512, .inl pkf)), (pv, .inl (X.2.1, 512, .inl pvf)), (t, .inr (4, [.ref p, .int (nI bk), .int (nI b), .int (nI (bl + 1)), .ref fa, .ref oa, .int f_nn, .int f_dd, .int f_mo])), (fa, .inl (X.2.1, 6 * (bl + 1), .inl ff)), (oa, .inl (X.2.1, 512, .inl o))] (S := (Nat → Int32) × (Nat → Int32) × (Nat → Int32) × (Nat → Int32) × PL × Nat) (fun r u => (r = nI 1 ∧ (¬ bl < (tr bk b 0 0 (pput P key x)).length ∧ ptOk u.1 u.2.1 (pput P key x) ∧ u.2.2.2.2.1 = (pput P key x) ∧ u.2.2.2.2.2 = w + 1 ∧ fOk u.2.2.1 (gF bk b 0 0 (bl + 1) (pput P key x) []))) ∨ (r = nI 0 ∧ (bl < (tr bk b 0 0 (pput P key x)).length ∧ ptOk u.1 u.2.1 P ∧ u.2.2.2.2.1 = P ∧ u.2.2.2.2.2 = w + 2 ∧ fOk u.2.2.1 (gF bk b 0 0 (bl + 1) (pput P key x) [])))) (fun ⟨kf2, vf2, ff2, o2, P2, w2⟩ => [(a, .inr (5, [.int (nI bl), .int (nI bk), .int (nI sp), .ref d, .ref p, .ref t, .ref t2, .ref ch, .ref rs, .int f_pw, .int f_ct, .int (nI cp)])), (p, .inr (2, [.ref pk, .ref pv, .int (nI P2.length), .int (nI w2)])), (pk, .inl (X.2.1, 512, .inl kf2)), (pv, .inl (X.2.1, 512, .inl vf2)), (t, .inr (4, [.ref p, .int (nI bk), .int (nI b), .int (nI (bl + 1)), .ref fa, .ref oa, .int (nI ((gF bk b 0 0 (bl + 1) (pput P key x) []).length)), .int (nI (dpt b (gF bk b 0 0 (bl + 1) (pput P key x) []))), .int (nI (w + 1))])), (fa, .inl (X.2.1, 6 * (bl + 1), .inl ff2)), (oa, .inl (X.2.1, 512, .inl o2))]) := by
  refine Met.ofW (cc := cX5_comesIn) (maxL := 3) (ret := some (.boolean)) (by decide) rfl ?_
  intro pz ez sz mz args below meth cz s₁ Bz hml hv
  obtain ⟨rfl, hP, hK, hD0, hN⟩ := hv
  have hx := Bz.exec
  have hb := Bz.bytes
  have hr := Bz.returns
  have hts := atoms_spec (ws := wsX5_comesIn) Bz.pre
  have hown : sz.vm.findClass RX5 = some mz.cls := findClass_of_methodNamed Bz.named
  have hlocks := Bz.notSynchronized
  have hD := inW.self hD0
  have hS : va_S (inW [(a, .inr (5, [.int (nI bl), .int (nI bk), .int (nI sp), .ref d, .ref p, .ref t, .ref t2, .ref ch, .ref rs, .int f_pw, .int f_ct, .int (nI cp)])), (p, .inr (2, [.ref pk, .ref pv, .int (nI P.length), .int (nI w)])), (pk, .inl (X.2.1, 512, .inl pkf)), (pv, .inl (X.2.1, 512, .inl pvf)), (t, .inr (4, [.ref p, .int (nI bk), .int (nI b), .int (nI (bl + 1)), .ref fa, .ref oa, .int f_nn, .int f_dd, .int f_mo])), (fa, .inl (X.2.1, 6 * (bl + 1), .inl ff)), (oa, .inl (X.2.1, 512, .inl o))]) sz.heap sz.heap [] := va_S.rf
  have hl := lv_entry ([.ref a, .int (nI key), .int (nI x)]) (n := 3) (Nat.le_of_ble_eq_true rfl)
  rw [lg_entry_eq]
  generalize (lg_sl ([.ref a, .int (nI key), .int (nI x)]) ++ List.replicate (3 - (lg_sl ([.ref a, .int (nI key), .int (nI x)])).length) Slot.unset).toArray = ls at hl ⊢
  have hl : lv_has ls 3 [(0, .ref a), (1, .int (nI key)), (2, .int (nI x))] := hl
  have lk16 := hts (.fieldLink RX5 16 "PointStore" "blocks" "I") (by decide +kernel)
  have lk35 := hts (.fieldLink RX5 35 "PointStore" "pending" "LPointStore$Points;") (by decide +kernel)
  have lk44 := hts (.fieldLink RX5 44 "PointStore" "pendingTree" "LPointStore$Tree;") (by decide +kernel)
  have lk191 := hts (.fieldLink RX5 191 "PointStore$Tree" "nodes" "I") (by decide +kernel)
  have hin4 : ∀ w ∈ u_ws RX4 TX4 9, w ∈ wsX5_comesIn := by decide +kernel
  have hin5 : ∀ w ∈ u_ws RX5 TX5 12, w ∈ wsX5_comesIn := by decide +kernel
  refine wQ (fun Q hQ => ?_)
  generalize hAe : inW [(a, .inr (5, [.int (nI bl), .int (nI bk), .int (nI sp), .ref d, .ref p, .ref t, .ref t2, .ref ch, .ref rs, .int f_pw, .int f_ct, .int (nI cp)])), (p, .inr (2, [.ref pk, .ref pv, .int (nI P.length), .int (nI w)])), (pk, .inl (X.2.1, 512, .inl pkf)), (pv, .inl (X.2.1, 512, .inl pvf)), (t, .inr (4, [.ref p, .int (nI bk), .int (nI b), .int (nI (bl + 1)), .ref fa, .ref oa, .int f_nn, .int f_dd, .int f_mo])), (fa, .inl (X.2.1, 6 * (bl + 1), .inl ff)), (oa, .inl (X.2.1, 512, .inl o))] = A_ at hD hS hQ
  have hpl := pput_len (L := P) (key := key) (v := x)
  have hdl : pdel (pput P key x) key = P := pdel_pput h.2.2.1 hno
  have htv : tv (pput P key x) key (w + 1) = w + 2 := tv_pput h.2.2.1
  refine lv_aload_n hx hb dX5_comesIn_0 rfl (lv_at hl 0 rfl) ?_
  refine va_get (D := X.1) (ci := 5) (v := .ref p) (C := RX5) (T := TX5) (N := 12) hx hb hts hin5 hown hK hP 0 rfl rfl 4 (by decide) lk35 (fun _ h9 => h9) rfl dX5_comesIn_1 ?_
  refine ckVRi (As := []) (rest := []) 0 [1] (c_X2_isFull l X p pk pv P.length w h.1) ⟨hx, hb, hml, hown, hts⟩ (cwV 0 hts gX5_comesIn_X2_isFull rfl rfl rfl (by decide +kernel) ⟨(by show 0 + 1 + 1 ≤ b + 5 + 1; omega), (by show 8 + (1 + 11) + 100 * (0 + 1) ≤ 100 * (b + 5 + 1); omega)⟩) hK hN hP hD (by decide) rfl (ci := 2) rfl rfl rfl hl.1 rfl (Nat.le_of_ble_eq_true rfl) dX5_comesIn_4 ⟨Nat.zero_le _, Nat.zero_le _⟩ (fun r_1 hc_4 => ?_)
  rcases hc_4 with ⟨hc_4, rfl⟩ | ⟨hc_4, rfl⟩
  · skip
    omega
  · skip
    refine lv_if_eq (tgt := 12) hx hb dX5_comesIn_7 (by decide) (fun c_7 => ?_) (fun c_7 => ?_)
    · skip
      refine lv_aload_n hx hb dX5_comesIn_12 rfl (lv_at hl 0 rfl) ?_
      refine va_get (D := X.1) (ci := 5) (v := .ref p) (C := RX5) (T := TX5) (N := 12) hx hb hts hin5 hown hK hP 0 rfl rfl 4 (by decide) lk35 (fun _ h9 => h9) rfl dX5_comesIn_13 ?_
      refine lv_iload_n hx hb dX5_comesIn_16 rfl (lv_at hl 1 rfl) ?_
      refine lv_iload_n hx hb dX5_comesIn_17 rfl (lv_at hl 2 rfl) ?_
      refine ckVv (As := [.int (nI key), .int (nI x)]) (rest := []) 0 [1, 2, 3] (c_X2_put l X p pk pv w key x pkf pvf P h hk hx0 (by omega)) ⟨hx, hb, hml, hown, hts⟩ (cwV 2 hts gX5_comesIn_X2_put rfl rfl rfl (by decide +kernel) ⟨(by show 1 + 1 + 1 ≤ b + 5 + 1; omega), (by show 8 + (4 + 11) + 100 * (1 + 1) ≤ 100 * (b + 5 + 1); omega)⟩) hK hN hP hD hS (by decide) rfl (ci := 2) rfl rfl (fun _ => rfl) rfl hl.1 rfl (Nat.le_of_ble_eq_true rfl) dX5_comesIn_18 ⟨Nat.zero_le _, Nat.zero_le _⟩ (fun u_2 H locs hpu hP hD hS => ?_)
      obtain ⟨pkf2, pvf2⟩ := u_2
      have hP : va_P X.1 vwCl [(a, .inr (5, [.int (nI bl), .int (nI bk), .int (nI sp), .ref d, .ref p, .ref t, .ref t2, .ref ch, .ref rs, .int f_pw, .int f_ct, .int (nI cp)])), (p, .inr (2, [.ref pk, .ref pv, .int (nI ((pput P key x).length)), .int (nI (w + 1))])), (pk, .inl (X.2.1, 512, .inl pkf2)), (pv, .inl (X.2.1, 512, .inl pvf2)), (t, .inr (4, [.ref p, .int (nI bk), .int (nI b), .int (nI (bl + 1)), .ref fa, .ref oa, .int f_nn, .int f_dd, .int f_mo])), (fa, .inl (X.2.1, 6 * (bl + 1), .inl ff)), (oa, .inl (X.2.1, 512, .inl o))] H := hP
      have hD : va_D A_ [(a, .inr (5, [.int (nI bl), .int (nI bk), .int (nI sp), .ref d, .ref p, .ref t, .ref t2, .ref ch, .ref rs, .int f_pw, .int f_ct, .int (nI cp)])), (p, .inr (2, [.ref pk, .ref pv, .int (nI ((pput P key x).length)), .int (nI (w + 1))])), (pk, .inl (X.2.1, 512, .inl pkf2)), (pv, .inl (X.2.1, 512, .inl pvf2)), (t, .inr (4, [.ref p, .int (nI bk), .int (nI b), .int (nI (bl + 1)), .ref fa, .ref oa, .int f_nn, .int f_dd, .int f_mo])), (fa, .inl (X.2.1, 6 * (bl + 1), .inl ff)), (oa, .inl (X.2.1, 512, .inl o))] := hD
      try dsimp only at hpu
      refine lv_aload_n hx hb dX5_comesIn_21 rfl (lv_at hl 0 rfl) ?_
      refine va_get (D := X.1) (ci := 5) (v := .ref t) (C := RX5) (T := TX5) (N := 12) hx hb hts hin5 hown hK hP 0 rfl rfl 5 (by decide) lk44 (fun _ h9 => h9) rfl dX5_comesIn_22 ?_
      refine ckVr (As := []) (rest := []) 0 [4, 1, 2, 3, 5, 6] (c_X4_upToDate l X t p pk pv fa oa bk b (bl + 1) (w + 1) f_nn f_dd f_mo pkf2 pvf2 ff o (pput P key x) hpu (by omega) hb1 hbk hbk2 (insd_rg hin) ((tc_next htc (Nat.lt_succ_self w) (by omega)).1)) ⟨hx, hb, hml, hown, hts⟩ (cwV 0 hts gX5_comesIn_X4_upToDate rfl rfl rfl (by decide +kernel) ⟨(by show b + 4 + 1 + 1 ≤ b + 5 + 1; omega), (by show 8 + (2 + 11) + 100 * (b + 4 + 1) ≤ 100 * (b + 5 + 1); omega)⟩) hK hN hP hD hS (by decide) rfl (ci := 4) rfl rfl (fun _ => rfl) rfl hl.1 rfl (Nat.le_of_ble_eq_true rfl) dX5_comesIn_25 ⟨Nat.zero_le _, Nat.zero_le _⟩ (fun u_4 H locs hup hP hD hS => ?_)
      obtain ⟨ff2, o2⟩ := u_4
      have hP : va_P X.1 vwCl [(a, .inr (5, [.int (nI bl), .int (nI bk), .int (nI sp), .ref d, .ref p, .ref t, .ref t2, .ref ch, .ref rs, .int f_pw, .int f_ct, .int (nI cp)])), (p, .inr (2, [.ref pk, .ref pv, .int (nI ((pput P key x).length)), .int (nI (w + 1))])), (pk, .inl (X.2.1, 512, .inl pkf2)), (pv, .inl (X.2.1, 512, .inl pvf2)), (t, .inr (4, [.ref p, .int (nI bk), .int (nI b), .int (nI (bl + 1)), .ref fa, .ref oa, .int (nI ((gF bk b 0 0 (bl + 1) (pput P key x) []).length)), .int (nI (dpt b (gF bk b 0 0 (bl + 1) (pput P key x) []))), .int (nI (w + 1))])), (fa, .inl (X.2.1, 6 * (bl + 1), .inl ff2)), (oa, .inl (X.2.1, 512, .inl o2))] H := hP
      have hD : va_D A_ [(a, .inr (5, [.int (nI bl), .int (nI bk), .int (nI sp), .ref d, .ref p, .ref t, .ref t2, .ref ch, .ref rs, .int f_pw, .int f_ct, .int (nI cp)])), (p, .inr (2, [.ref pk, .ref pv, .int (nI ((pput P key x).length)), .int (nI (w + 1))])), (pk, .inl (X.2.1, 512, .inl pkf2)), (pv, .inl (X.2.1, 512, .inl pvf2)), (t, .inr (4, [.ref p, .int (nI bk), .int (nI b), .int (nI (bl + 1)), .ref fa, .ref oa, .int (nI ((gF bk b 0 0 (bl + 1) (pput P key x) []).length)), .int (nI (dpt b (gF bk b 0 0 (bl + 1) (pput P key x) []))), .int (nI (w + 1))])), (fa, .inl (X.2.1, 6 * (bl + 1), .inl ff2)), (oa, .inl (X.2.1, 512, .inl o2))] := hD
      try dsimp only at hup
      refine va_get (D := X.1) (ci := 4) (v := .int (nI ((gF bk b 0 0 (bl + 1) (pput P key x) []).length))) (C := RX4) (T := TX4) (N := 9) hx hb hts hin4 hown hK hP 4 rfl rfl 6 (by decide) lk191 (fun _ h9 => h9) rfl dX5_comesIn_28 ?_
      refine lv_aload_n hx hb dX5_comesIn_31 rfl (lv_at hl 0 rfl) ?_
      refine va_get (D := X.1) (ci := 5) (v := .int (nI bl)) (C := RX5) (T := TX5) (N := 12) hx hb hts hin5 hown hK hP 0 rfl rfl 0 (by decide) lk16 (fun _ h9 => h9) rfl dX5_comesIn_32 ?_
      have hgl : (gF bk b 0 0 (bl + 1) (pput P key x) []).length ≤ bl + 1 := List.length_take_le _ _
      refine lv_icmp_le (tgt := 48) hx hb dX5_comesIn_35 (by decide) (fun c_35 => ?_) (fun c_35 => ?_)
      · replace c_35 : ((gF bk b 0 0 (bl + 1) (pput P key x) []).length) ≤ bl := (nI_leI (by omega) (by omega)).mp c_35
        refine lv_iconst (v := nI 1) hx hb dX5_comesIn_48 (by decide) ?_
        refine wM hQ ?_
        exact rtZ (pkf2, pvf2, ff2, o2, (pput P key x), w + 1) hx hb hr hlocks (by decide) hP hS (Or.inl ⟨rfl, fun z => by have := (gF_gt (bl := bl)).mpr z; omega, hpu, rfl, rfl, hup⟩) dX5_comesIn_49
      · replace c_35 : ¬ ((gF bk b 0 0 (bl + 1) (pput P key x) []).length) ≤ bl := fun h9 => c_35 ((nI_leI (by omega) (by omega)).mpr h9)
        refine lv_aload_n hx hb dX5_comesIn_38 rfl (lv_at hl 0 rfl) ?_
        refine va_get (D := X.1) (ci := 5) (v := .ref p) (C := RX5) (T := TX5) (N := 12) hx hb hts hin5 hown hK hP 0 rfl rfl 4 (by decide) lk35 (fun _ h9 => h9) rfl dX5_comesIn_39 ?_
        refine lv_iload_n hx hb dX5_comesIn_42 rfl (lv_at hl 1 rfl) ?_
        refine ckVv (As := [.int (nI key)]) (rest := []) 0 [1, 2, 3] (c_X2_takeOut l X p pk pv (w + 1) key pkf2 pvf2 (pput P key x) hpu hk) ⟨hx, hb, hml, hown, hts⟩ (cwV 1 hts gX5_comesIn_X2_takeOut rfl rfl rfl (by decide +kernel) ⟨(by show 1 + 1 + 1 ≤ b + 5 + 1; omega), (by show 8 + (3 + 11) + 100 * (1 + 1) ≤ 100 * (b + 5 + 1); omega)⟩) hK hN hP hD hS (by decide) rfl (ci := 2) rfl rfl (fun _ => rfl) rfl hl.1 rfl (Nat.le_of_ble_eq_true rfl) dX5_comesIn_43 ⟨Nat.zero_le _, Nat.zero_le _⟩ (fun u_6 H locs hto hP hD hS => ?_)
        obtain ⟨pkf3, pvf3⟩ := u_6
        have hP : va_P X.1 vwCl [(a, .inr (5, [.int (nI bl), .int (nI bk), .int (nI sp), .ref d, .ref p, .ref t, .ref t2, .ref ch, .ref rs, .int f_pw, .int f_ct, .int (nI cp)])), (p, .inr (2, [.ref pk, .ref pv, .int (nI ((pdel (pput P key x) key).length)), .int (nI (tv (pput P key x) key (w + 1)))])), (pk, .inl (X.2.1, 512, .inl pkf3)), (pv, .inl (X.2.1, 512, .inl pvf3)), (t, .inr (4, [.ref p, .int (nI bk), .int (nI b), .int (nI (bl + 1)), .ref fa, .ref oa, .int (nI ((gF bk b 0 0 (bl + 1) (pput P key x) []).length)), .int (nI (dpt b (gF bk b 0 0 (bl + 1) (pput P key x) []))), .int (nI (w + 1))])), (fa, .inl (X.2.1, 6 * (bl + 1), .inl ff2)), (oa, .inl (X.2.1, 512, .inl o2))] H := hP
        have hD : va_D A_ [(a, .inr (5, [.int (nI bl), .int (nI bk), .int (nI sp), .ref d, .ref p, .ref t, .ref t2, .ref ch, .ref rs, .int f_pw, .int f_ct, .int (nI cp)])), (p, .inr (2, [.ref pk, .ref pv, .int (nI ((pdel (pput P key x) key).length)), .int (nI (tv (pput P key x) key (w + 1)))])), (pk, .inl (X.2.1, 512, .inl pkf3)), (pv, .inl (X.2.1, 512, .inl pvf3)), (t, .inr (4, [.ref p, .int (nI bk), .int (nI b), .int (nI (bl + 1)), .ref fa, .ref oa, .int (nI ((gF bk b 0 0 (bl + 1) (pput P key x) []).length)), .int (nI (dpt b (gF bk b 0 0 (bl + 1) (pput P key x) []))), .int (nI (w + 1))])), (fa, .inl (X.2.1, 6 * (bl + 1), .inl ff2)), (oa, .inl (X.2.1, 512, .inl o2))] := hD
        try dsimp only at hto
        rw [hdl, htv] at hP hD
        rw [hdl] at hto
        have hP : va_P X.1 vwCl [(a, .inr (5, [.int (nI bl), .int (nI bk), .int (nI sp), .ref d, .ref p, .ref t, .ref t2, .ref ch, .ref rs, .int f_pw, .int f_ct, .int (nI cp)])), (p, .inr (2, [.ref pk, .ref pv, .int (nI P.length), .int (nI (w + 2))])), (pk, .inl (X.2.1, 512, .inl pkf3)), (pv, .inl (X.2.1, 512, .inl pvf3)), (t, .inr (4, [.ref p, .int (nI bk), .int (nI b), .int (nI (bl + 1)), .ref fa, .ref oa, .int (nI ((gF bk b 0 0 (bl + 1) (pput P key x) []).length)), .int (nI (dpt b (gF bk b 0 0 (bl + 1) (pput P key x) []))), .int (nI (w + 1))])), (fa, .inl (X.2.1, 6 * (bl + 1), .inl ff2)), (oa, .inl (X.2.1, 512, .inl o2))] _ := hP
        have hD : va_D A_ [(a, .inr (5, [.int (nI bl), .int (nI bk), .int (nI sp), .ref d, .ref p, .ref t, .ref t2, .ref ch, .ref rs, .int f_pw, .int f_ct, .int (nI cp)])), (p, .inr (2, [.ref pk, .ref pv, .int (nI P.length), .int (nI (w + 2))])), (pk, .inl (X.2.1, 512, .inl pkf3)), (pv, .inl (X.2.1, 512, .inl pvf3)), (t, .inr (4, [.ref p, .int (nI bk), .int (nI b), .int (nI (bl + 1)), .ref fa, .ref oa, .int (nI ((gF bk b 0 0 (bl + 1) (pput P key x) []).length)), .int (nI (dpt b (gF bk b 0 0 (bl + 1) (pput P key x) []))), .int (nI (w + 1))])), (fa, .inl (X.2.1, 6 * (bl + 1), .inl ff2)), (oa, .inl (X.2.1, 512, .inl o2))] := hD
        refine lv_iconst (v := nI 0) hx hb dX5_comesIn_46 (by decide) ?_
        refine wM hQ ?_
        exact rtZ (pkf3, pvf3, ff2, o2, P, w + 2) hx hb hr hlocks (by decide) hP hS (Or.inr ⟨rfl, gF_gt.mp (by omega), hto, rfl, rfl, hup⟩) dX5_comesIn_47
    · exact absurd c_7 (by decide)
set_option maxHeartbeats 4000000 in
set_option maxRecDepth 100000 in
theorem c_X5_insert (l : Launch) (X : kX) (a d p t t2 ch rs sp bl bk cp : Nat) (f_ct : Int32) (pk pv w fa oa b ck cv : Nat) (f_nn f_dd f_mo x y v : Int32) (pkf pvf ff o ckf cvf : Nat → Int32) (P : PL) (C : List Op) (h : ptOk pkf pvf P) (hc : chOk ckf cvf C) (hlt : P.length < 512) (hbl : bl ≤ 400) (hb1 : b ≤ 15) (hbk : 1 ≤ bk) (hbk2 : bk ≤ 8) (hsp : sp ≤ 32768) (hsb : sp = 2 ^ b) (htc : tcOk bk b (bl + 1) P w f_nn f_dd f_mo ff) (hin : insd b P) (hw : w + 2 < 2 ^ 31) : CWi l X yX5_insert wsX5_insert (b + 6) [.ref a, .int x, .int y, .int v] [(a, .inr (5, [.int (nI bl), .int (nI bk), .int (nI sp), .ref d, .ref p, .ref t, .ref t2, .ref ch, .ref rs, .int (nI 1), .int f_ct, .int (nI cp)])), (p, .inr (2, [.ref pk, .ref pv, .int (nI P.length), .int (nI w)])), (pk, .inl (X.2.1, 512, .inl pkf)), (pv, .inl (X.2.1, 512, .inl pvf)), (t, .inr (4, [.ref p, .int (nI bk), .int (nI b), .int (nI (bl + 1)), .ref fa, .ref oa, .int f_nn, .int f_dd, .int f_mo])), (fa, .inl (X.2.1, 6 * (bl + 1), .inl ff)), (oa, .inl (X.2.1, 512, .inl o)), (ch, .inr (0, [.ref ck, .ref cv, .int (nI C.length)])), (ck, .inl (X.2.1, 60, .inl ckf)), (cv, .inl (X.2.1, 60, .inl cvf))] (S := (Nat → Int32) × (Nat → Int32) × PL × Nat × Int32 × Int32 × Int32 × (Nat → Int32) × (Nat → Int32) × (Nat → Int32) × (Nat → Int32) × List Op) (fun r u => (r, u.2.2.1, u.2.2.2.2.2.2.2.2.2.2.2) = insF sp bk b bl P C.length x y v ∧ ptOk u.1 u.2.1 u.2.2.1 ∧ (w ≤ u.2.2.2.1 ∧ u.2.2.2.1 ≤ w + 2) ∧ tcOk bk b (bl + 1) u.2.2.1 u.2.2.2.1 u.2.2.2.2.1 u.2.2.2.2.2.1 u.2.2.2.2.2.2.1 u.2.2.2.2.2.2.2.1 ∧ chOk u.2.2.2.2.2.2.2.2.2.1 u.2.2.2.2.2.2.2.2.2.2.1 (C ++ u.2.2.2.2.2.2.2.2.2.2.2)) (fun ⟨kf2, vf2, P2, w2, g_nn, g_dd, g_mo, ff2, o2, ck2, cv2, D⟩ => [(a, .inr (5, [.int (nI bl), .int (nI bk), .int (nI sp), .ref d, .ref p, .ref t, .ref t2, .ref ch, .ref rs, .int (nI 1), .int f_ct, .int (nI cp)])), (p, .inr (2, [.ref pk, .ref pv, .int (nI P2.length), .int (nI w2)])), (pk, .inl (X.2.1, 512, .inl kf2)), (pv, .inl (X.2.1, 512, .inl vf2)), (t, .inr (4, [.ref p, .int (nI bk), .int (nI b), .int (nI (bl + 1)), .ref fa, .ref oa, .int g_nn, .int g_dd, .int g_mo])), (fa, .inl (X.2.1, 6 * (bl + 1), .inl ff2)), (oa, .inl (X.2.1, 512, .inl o2)), (ch, .inr (0, [.ref ck, .ref cv, .int (nI ((C ++ D).length))])), (ck, .inl (X.2.1, 60, .inl ck2)), (cv, .inl (X.2.1, 60, .inl cv2))]) := by
  refine Met.ofW (cc := cX5_insert) (maxL := 6) (ret := some (.int)) (by decide) rfl ?_
  intro pz ez sz mz args below meth cz s₁ Bz hml hv
  obtain ⟨rfl, hP, hK, hD0, hN⟩ := hv
  have hx := Bz.exec
  have hb := Bz.bytes
  have hr := Bz.returns
  have hts := atoms_spec (ws := wsX5_insert) Bz.pre
  have hown : sz.vm.findClass RX5 = some mz.cls := findClass_of_methodNamed Bz.named
  have hlocks := Bz.notSynchronized
  have hD := inW.self hD0
  have hS : va_S (inW [(a, .inr (5, [.int (nI bl), .int (nI bk), .int (nI sp), .ref d, .ref p, .ref t, .ref t2, .ref ch, .ref rs, .int (nI 1), .int f_ct, .int (nI cp)])), (p, .inr (2, [.ref pk, .ref pv, .int (nI P.length), .int (nI w)])), (pk, .inl (X.2.1, 512, .inl pkf)), (pv, .inl (X.2.1, 512, .inl pvf)), (t, .inr (4, [.ref p, .int (nI bk), .int (nI b), .int (nI (bl + 1)), .ref fa, .ref oa, .int f_nn, .int f_dd, .int f_mo])), (fa, .inl (X.2.1, 6 * (bl + 1), .inl ff)), (oa, .inl (X.2.1, 512, .inl o)), (ch, .inr (0, [.ref ck, .ref cv, .int (nI C.length)])), (ck, .inl (X.2.1, 60, .inl ckf)), (cv, .inl (X.2.1, 60, .inl cvf))]) sz.heap sz.heap [] := va_S.rf
  have hl := lv_entry ([.ref a, .int x, .int y, .int v]) (n := 6) (Nat.le_of_ble_eq_true rfl)
  rw [lg_entry_eq]
  generalize (lg_sl ([.ref a, .int x, .int y, .int v]) ++ List.replicate (6 - (lg_sl ([.ref a, .int x, .int y, .int v])).length) Slot.unset).toArray = ls at hl ⊢
  have hl : lv_has ls 6 [(0, .ref a), (1, .int x), (2, .int y), (3, .int v)] := hl
  have lk35 := hts (.fieldLink RX5 35 "PointStore" "pending" "LPointStore$Points;") (by decide +kernel)
  have lk54 := hts (.fieldLink RX5 54 "PointStore" "changes" "LPointStore$Changes;") (by decide +kernel)
  have lk65 := hts (.fieldLink RX5 65 "PointStore" "powered" "Z") (by decide +kernel)
  have hin5 : ∀ w ∈ u_ws RX5 TX5 12, w ∈ wsX5_insert := by decide +kernel
  refine wQ (fun Q hQ => ?_)
  generalize hAe : inW [(a, .inr (5, [.int (nI bl), .int (nI bk), .int (nI sp), .ref d, .ref p, .ref t, .ref t2, .ref ch, .ref rs, .int (nI 1), .int f_ct, .int (nI cp)])), (p, .inr (2, [.ref pk, .ref pv, .int (nI P.length), .int (nI w)])), (pk, .inl (X.2.1, 512, .inl pkf)), (pv, .inl (X.2.1, 512, .inl pvf)), (t, .inr (4, [.ref p, .int (nI bk), .int (nI b), .int (nI (bl + 1)), .ref fa, .ref oa, .int f_nn, .int f_dd, .int f_mo])), (fa, .inl (X.2.1, 6 * (bl + 1), .inl ff)), (oa, .inl (X.2.1, 512, .inl o)), (ch, .inr (0, [.ref ck, .ref cv, .int (nI C.length)])), (ck, .inl (X.2.1, 60, .inl ckf)), (cv, .inl (X.2.1, 60, .inl cvf))] = A_ at hD hS hQ
  have hC := hc.1
  have hpb : 2 ^ b ≤ 32768 := by omega
  refine lv_aload_n hx hb dX5_insert_0 rfl (lv_at hl 0 rfl) ?_
  refine va_get (D := X.1) (ci := 5) (v := .int (nI 1)) (C := RX5) (T := TX5) (N := 12) hx hb hts hin5 hown hK hP 0 rfl rfl 9 (by decide) lk65 (fun _ h9 => h9) rfl dX5_insert_1 ?_
  refine lv_if_ne (tgt := 10) hx hb dX5_insert_4 (by decide) (fun c_4 => ?_) (fun c_4 => ?_)
  · skip
    refine lv_aload_n hx hb dX5_insert_10 rfl (lv_at hl 0 rfl) ?_
    refine lv_iload_n hx hb dX5_insert_11 rfl (lv_at hl 1 rfl) ?_
    refine lv_iload_n hx hb dX5_insert_12 rfl (lv_at hl 2 rfl) ?_
    refine ckVRi (As := [.int x, .int y]) (rest := []) 0 [0] (c_X5_isOnPlane l X a d p t t2 ch rs sp (nI bl) (nI bk) (nI 1) f_ct (nI cp) x y) ⟨hx, hb, hml, hown, hts⟩ (cwV 2 hts gX5_insert_X5_isOnPlane rfl rfl rfl (by decide +kernel) ⟨Nat.le_of_ble_eq_true rfl, Nat.le_of_ble_eq_true rfl⟩) hK hN hP hD (by decide) rfl (ci := 5) rfl rfl rfl hl.1 rfl (Nat.le_of_ble_eq_true rfl) dX5_insert_13 ⟨Nat.zero_le _, Nat.zero_le _⟩ (fun r_1 hc_13 => ?_)
    rcases hc_13 with ⟨hc_13, rfl⟩ | ⟨hc_13, rfl⟩
    · skip
      obtain ⟨xa, ya, hxa, hya, rfl, rfl⟩ := onp_of hc_13 hsp
      refine lv_if_eq (tgt := 23) hx hb dX5_insert_16 (by decide) (fun c_16 => ?_) (fun c_16 => ?_)
      · exact absurd c_16 (by decide)
      · skip
        refine lv_iload_n hx hb dX5_insert_19 rfl (lv_at hl 3 rfl) ?_
        refine lv_if_ge (tgt := 25) hx hb dX5_insert_20 (by decide) (fun c_20 => ?_) (fun c_20 => ?_)
        · skip
          obtain ⟨vv, hvv, rfl⟩ := nI_of (ge_nlt c_20)
          refine lv_aload_n hx hb dX5_insert_25 rfl (lv_at hl 0 rfl) ?_
          refine va_get (D := X.1) (ci := 5) (v := .ref ch) (C := RX5) (T := TX5) (N := 12) hx hb hts hin5 hown hK hP 0 rfl rfl 7 (by decide) lk54 (fun _ h9 => h9) rfl dX5_insert_26 ?_
          refine ckVRi (As := []) (rest := []) 0 [7] (c_X0_isFull l X ch ck cv C.length hC) ⟨hx, hb, hml, hown, hts⟩ (cwV 0 hts gX5_insert_X0_isFull rfl rfl rfl (by decide +kernel) ⟨Nat.le_of_ble_eq_true rfl, Nat.le_of_ble_eq_true rfl⟩) hK hN hP hD (by decide) rfl (ci := 0) rfl rfl rfl hl.1 rfl (Nat.le_of_ble_eq_true rfl) dX5_insert_29 ⟨Nat.zero_le _, Nat.zero_le _⟩ (fun r_2 hc_29 => ?_)
          rcases hc_29 with ⟨hc_29, rfl⟩ | ⟨hc_29, rfl⟩
          · skip
            refine lv_if_eq (tgt := 37) hx hb dX5_insert_32 (by decide) (fun c_32 => ?_) (fun c_32 => ?_)
            · exact absurd c_32 (by decide)
            · skip
              refine lv_iconst (v := nI 3) hx hb dX5_insert_35 (by decide) ?_
              refine wM hQ ?_
              exact rtI (pkf, pvf, P, w, f_nn, f_dd, f_mo, ff, o, ckf, cvf, []) hx hb hr hlocks (by show va_P X.1 vwCl [(a, .inr (5, [.int (nI bl), .int (nI bk), .int (nI sp), .ref d, .ref p, .ref t, .ref t2, .ref ch, .ref rs, .int (nI 1), .int f_ct, .int (nI cp)])), (p, .inr (2, [.ref pk, .ref pv, .int (nI P.length), .int (nI w)])), (pk, .inl (X.2.1, 512, .inl pkf)), (pv, .inl (X.2.1, 512, .inl pvf)), (t, .inr (4, [.ref p, .int (nI bk), .int (nI b), .int (nI (bl + 1)), .ref fa, .ref oa, .int f_nn, .int f_dd, .int f_mo])), (fa, .inl (X.2.1, 6 * (bl + 1), .inl ff)), (oa, .inl (X.2.1, 512, .inl o)), (ch, .inr (0, [.ref ck, .ref cv, .int (nI ((C ++ []).length))])), (ck, .inl (X.2.1, 60, .inl ckf)), (cv, .inl (X.2.1, 60, .inl cvf))] _; rw [List.append_nil]; exact hP) hS (⟨(by show (nI 3, P, []) = _; unfold insF; rw [cif_pos ⟨hc_13, nI_pos hvv⟩, cif_pos hc_29]), h, ⟨Nat.le_refl _, Nat.le_add_right _ _⟩, htc, (by rw [List.append_nil]; exact hc)⟩) dX5_insert_36
          · skip
            refine lv_if_eq (tgt := 37) hx hb dX5_insert_32 (by decide) (fun c_32 => ?_) (fun c_32 => ?_)
            · skip
              refine lv_iload_n hx hb dX5_insert_37 rfl (lv_at hl 1 rfl) ?_
              refine lv_iload_n hx hb dX5_insert_38 rfl (lv_at hl 2 rfl) ?_
              refine ckSRi (As := [.int (nI xa), .int (nI ya)]) (rest := []) [] (c_X5_keyOf l X xa ya (by omega) (by omega)) ⟨hx, hb, hml, hown, hts⟩ (va_cwS 2 hts gX5_insert_X5_keyOf rfl rfl rfl (by decide +kernel) ⟨Nat.le_of_ble_eq_true rfl, Nat.le_of_ble_eq_true rfl⟩) hK hN hP hD (by decide) rfl rfl hl.1 rfl (Nat.le_of_ble_eq_true rfl) dX5_insert_39 ⟨Nat.zero_le _, Nat.zero_le _⟩ (fun r_3 hc_39 => ?_)
              subst hc_39
              refine lv_istore (lv' := [(4, .int (nI (xa * 32768 + ya))), (0, .ref a), (1, .int (nI xa)), (2, .int (nI ya)), (3, .int (nI vv))]) hx hb dX5_insert_42 hl (by decide) rfl (fun ls hl => ?_)
              refine lv_aload_n hx hb dX5_insert_44 rfl (lv_at hl 1 rfl) ?_
              refine va_get (D := X.1) (ci := 5) (v := .ref p) (C := RX5) (T := TX5) (N := 12) hx hb hts hin5 hown hK hP 0 rfl rfl 4 (by decide) lk35 (fun _ h9 => h9) rfl dX5_insert_45 ?_
              refine lv_iload hx hb dX5_insert_48 (lv_at hl 0 rfl) ?_
              refine ckVRi (As := [.int (nI (xa * 32768 + ya))]) (rest := []) 0 [1, 2, 3] (c_X2_valueOf l X p pk pv w (xa * 32768 + ya) pkf pvf P h (by omega)) ⟨hx, hb, hml, hown, hts⟩ (cwV 1 hts gX5_insert_X2_valueOf rfl rfl rfl (by decide +kernel) ⟨Nat.le_of_ble_eq_true rfl, Nat.le_of_ble_eq_true rfl⟩) hK hN hP hD (by decide) rfl (ci := 2) rfl rfl rfl hl.1 rfl (Nat.le_of_ble_eq_true rfl) dX5_insert_50 ⟨Nat.zero_le _, Nat.zero_le _⟩ (fun r_4 hc_50 => ?_)
              subst hc_50
              refine lv_iconst (v := (-1)) hx hb dX5_insert_53 (by decide) ?_
              refine lv_icmp_eq (tgt := 61) hx hb dX5_insert_54 (by decide) (fun c_54 => ?_) (fun c_54 => ?_)
              · skip
                have hnone := (vOf_m1 h).mp c_54
                have hin2 : insd b (pput P (xa * 32768 + ya) vv) := fun q hq => by
                  rcases pput_mem hq with z | z
                  · rw [z]
                    show (xa * 32768 + ya) / 32768 < 2 ^ b ∧ (xa * 32768 + ya) % 32768 < 2 ^ b
                    omega
                  · exact hin q z
                rw [← kOf_nI (a := xa) (b := ya) (by omega) (by omega)] at hnone
                have hnone : lkp P (xa * 32768 + ya) = none := by rw [kOf_nI (by omega) (by omega)] at hnone; exact hnone
                have hnone2 := hnone
                rw [← kOf_nI (a := xa) (b := ya) (by omega) (by omega)] at hnone2
                refine lv_iconst (v := nI 0) hx hb dX5_insert_61 (by decide) ?_
                refine lv_istore (lv' := [(5, .int (nI 0)), (4, .int (nI (xa * 32768 + ya))), (0, .ref a), (1, .int (nI xa)), (2, .int (nI ya)), (3, .int (nI vv))]) hx hb dX5_insert_62 hl (by decide) rfl (fun ls hl => ?_)
                refine lv_iload hx hb dX5_insert_64 (lv_at hl 0 rfl) ?_
                refine lv_if_eq (tgt := 82) hx hb dX5_insert_66 (by decide) (fun c_66 => ?_) (fun c_66 => ?_)
                · skip
                  refine lv_aload_n hx hb dX5_insert_82 rfl (lv_at hl 2 rfl) ?_
                  refine lv_iload hx hb dX5_insert_83 (lv_at hl 1 rfl) ?_
                  refine lv_iload_n hx hb dX5_insert_85 rfl (lv_at hl 5 rfl) ?_
                  refine ckVi (As := [.int (nI (xa * 32768 + ya)), .int (nI vv)]) (rest := []) 0 [0, 1, 2, 3, 4, 5, 6] (c_X5_comesIn l X a d p t t2 ch rs sp bl bk cp f_ct pk pv w fa oa b (xa * 32768 + ya) vv (nI 1) f_nn f_dd f_mo pkf pvf ff o P h hlt hnone (by omega) hvv hbl hb1 hbk hbk2 htc hin2 hw) ⟨hx, hb, hml, hown, hts⟩ (cwV 2 hts gX5_insert_X5_comesIn rfl rfl rfl (by decide +kernel) ⟨(by show b + 5 + 1 + 1 ≤ b + 6 + 1; omega), (by show 8 + (3 + 11) + 100 * (b + 5 + 1) ≤ 100 * (b + 6 + 1); omega)⟩) hK hN hP hD hS (by decide) rfl (ci := 5) rfl rfl (fun _ => rfl) rfl hl.1 rfl (Nat.le_of_ble_eq_true rfl) dX5_insert_86 ⟨Nat.zero_le _, Nat.zero_le _⟩ (fun r_6 u_5 H locs hc_86 hP hD hS => ?_)
                  obtain ⟨kf2, vf2, ff2, o2, P2, w2⟩ := u_5
                  have hP : va_P X.1 vwCl [(a, .inr (5, [.int (nI bl), .int (nI bk), .int (nI sp), .ref d, .ref p, .ref t, .ref t2, .ref ch, .ref rs, .int (nI 1), .int f_ct, .int (nI cp)])), (p, .inr (2, [.ref pk, .ref pv, .int (nI P2.length), .int (nI w2)])), (pk, .inl (X.2.1, 512, .inl kf2)), (pv, .inl (X.2.1, 512, .inl vf2)), (t, .inr (4, [.ref p, .int (nI bk), .int (nI b), .int (nI (bl + 1)), .ref fa, .ref oa, .int (nI ((gF bk b 0 0 (bl + 1) (pput P (xa * 32768 + ya) vv) []).length)), .int (nI (dpt b (gF bk b 0 0 (bl + 1) (pput P (xa * 32768 + ya) vv) []))), .int (nI (w + 1))])), (fa, .inl (X.2.1, 6 * (bl + 1), .inl ff2)), (oa, .inl (X.2.1, 512, .inl o2)), (ch, .inr (0, [.ref ck, .ref cv, .int (nI C.length)])), (ck, .inl (X.2.1, 60, .inl ckf)), (cv, .inl (X.2.1, 60, .inl cvf))] H := hP
                  have hD : va_D A_ [(a, .inr (5, [.int (nI bl), .int (nI bk), .int (nI sp), .ref d, .ref p, .ref t, .ref t2, .ref ch, .ref rs, .int (nI 1), .int f_ct, .int (nI cp)])), (p, .inr (2, [.ref pk, .ref pv, .int (nI P2.length), .int (nI w2)])), (pk, .inl (X.2.1, 512, .inl kf2)), (pv, .inl (X.2.1, 512, .inl vf2)), (t, .inr (4, [.ref p, .int (nI bk), .int (nI b), .int (nI (bl + 1)), .ref fa, .ref oa, .int (nI ((gF bk b 0 0 (bl + 1) (pput P (xa * 32768 + ya) vv) []).length)), .int (nI (dpt b (gF bk b 0 0 (bl + 1) (pput P (xa * 32768 + ya) vv) []))), .int (nI (w + 1))])), (fa, .inl (X.2.1, 6 * (bl + 1), .inl ff2)), (oa, .inl (X.2.1, 512, .inl o2)), (ch, .inr (0, [.ref ck, .ref cv, .int (nI C.length)])), (ck, .inl (X.2.1, 60, .inl ckf)), (cv, .inl (X.2.1, 60, .inl cvf))] := hD
                  try dsimp only at hc_86
                  rcases hc_86 with ⟨rfl, hq1, hq2, hq3, hq4, hq5⟩ | ⟨rfl, hq1, hq2, hq3, hq4, hq5⟩
                  · skip
                    obtain rfl := hq3.symm
                    obtain rfl := hq4.symm
                    refine lv_if_ne (tgt := 94) hx hb dX5_insert_89 (by decide) (fun c_89 => ?_) (fun c_89 => ?_)
                    · skip
                      refine lv_aload_n hx hb dX5_insert_94 rfl (lv_at hl 2 rfl) ?_
                      refine va_get (D := X.1) (ci := 5) (v := .ref ch) (C := RX5) (T := TX5) (N := 12) hx hb hts hin5 hown hK hP 0 rfl rfl 7 (by decide) lk54 (fun _ h9 => h9) rfl dX5_insert_95 ?_
                      refine lv_iload hx hb dX5_insert_98 (lv_at hl 1 rfl) ?_
                      refine lv_iload_n hx hb dX5_insert_100 rfl (lv_at hl 5 rfl) ?_
                      refine ckVv (As := [.int (nI (xa * 32768 + ya)), .int (nI vv)]) (rest := []) 0 [7, 8, 9] (c_X0_add l X ch ck cv ckf cvf (some (xa * 32768 + ya, some vv) : Op) C hc (by omega) (⟨by omega, hvv⟩)) ⟨hx, hb, hml, hown, hts⟩ (cwV 2 hts gX5_insert_X0_add rfl rfl rfl (by decide +kernel) ⟨Nat.le_of_ble_eq_true rfl, Nat.le_of_ble_eq_true rfl⟩) hK hN hP hD hS (by decide) rfl (ci := 0) rfl rfl (fun _ => rfl) rfl hl.1 rfl (Nat.le_of_ble_eq_true rfl) dX5_insert_101 ⟨Nat.zero_le _, Nat.zero_le _⟩ (fun u_7 H locs hca hP hD hS => ?_)
                      obtain ⟨ck2, cv2⟩ := u_7
                      have hP : va_P X.1 vwCl [(a, .inr (5, [.int (nI bl), .int (nI bk), .int (nI sp), .ref d, .ref p, .ref t, .ref t2, .ref ch, .ref rs, .int (nI 1), .int f_ct, .int (nI cp)])), (p, .inr (2, [.ref pk, .ref pv, .int (nI ((pput P (xa * 32768 + ya) vv).length)), .int (nI (w + 1))])), (pk, .inl (X.2.1, 512, .inl kf2)), (pv, .inl (X.2.1, 512, .inl vf2)), (t, .inr (4, [.ref p, .int (nI bk), .int (nI b), .int (nI (bl + 1)), .ref fa, .ref oa, .int (nI ((gF bk b 0 0 (bl + 1) (pput P (xa * 32768 + ya) vv) []).length)), .int (nI (dpt b (gF bk b 0 0 (bl + 1) (pput P (xa * 32768 + ya) vv) []))), .int (nI (w + 1))])), (fa, .inl (X.2.1, 6 * (bl + 1), .inl ff2)), (oa, .inl (X.2.1, 512, .inl o2)), (ch, .inr (0, [.ref ck, .ref cv, .int (nI (C.length + 1))])), (ck, .inl (X.2.1, 60, .inl ck2)), (cv, .inl (X.2.1, 60, .inl cv2))] H := hP
                      have hD : va_D A_ [(a, .inr (5, [.int (nI bl), .int (nI bk), .int (nI sp), .ref d, .ref p, .ref t, .ref t2, .ref ch, .ref rs, .int (nI 1), .int f_ct, .int (nI cp)])), (p, .inr (2, [.ref pk, .ref pv, .int (nI ((pput P (xa * 32768 + ya) vv).length)), .int (nI (w + 1))])), (pk, .inl (X.2.1, 512, .inl kf2)), (pv, .inl (X.2.1, 512, .inl vf2)), (t, .inr (4, [.ref p, .int (nI bk), .int (nI b), .int (nI (bl + 1)), .ref fa, .ref oa, .int (nI ((gF bk b 0 0 (bl + 1) (pput P (xa * 32768 + ya) vv) []).length)), .int (nI (dpt b (gF bk b 0 0 (bl + 1) (pput P (xa * 32768 + ya) vv) []))), .int (nI (w + 1))])), (fa, .inl (X.2.1, 6 * (bl + 1), .inl ff2)), (oa, .inl (X.2.1, 512, .inl o2)), (ch, .inr (0, [.ref ck, .ref cv, .int (nI (C.length + 1))])), (ck, .inl (X.2.1, 60, .inl ck2)), (cv, .inl (X.2.1, 60, .inl cv2))] := hD
                      try dsimp only at hca
                      refine lv_iload hx hb dX5_insert_104 (lv_at hl 0 rfl) ?_
                      refine lv_if_eq (tgt := 113) hx hb dX5_insert_106 (by decide) (fun c_106 => ?_) (fun c_106 => ?_)
                      · skip
                        refine lv_iconst (v := nI 0) hx hb dX5_insert_113 (by decide) ?_
                        rw [show C.length + 1 = (C ++ [some (xa * 32768 + ya, some vv)]).length from by simp] at hP
                        refine wM hQ ?_
                        exact rtI (kf2, vf2, pput P (xa * 32768 + ya) vv, w + 1, nI ((gF bk b 0 0 (bl + 1) (pput P (xa * 32768 + ya) vv) []).length), nI (dpt b (gF bk b 0 0 (bl + 1) (pput P (xa * 32768 + ya) vv) [])), nI (w + 1), ff2, o2, ck2, cv2, [some (xa * 32768 + ya, some vv)]) hx hb hr hlocks hP hS (⟨(by show (nI 0, pput P (xa * 32768 + ya) vv, [some (xa * 32768 + ya, some vv)]) = _; unfold insF; rw [cif_pos ⟨hc_13, nI_pos hvv⟩, cif_neg hc_29, cif_pos hnone2, kOf_nI (by omega) (by omega), nI_clamp hvv, cif_neg hq1]), hq2, ⟨Nat.le_add_right _ _, Nat.add_le_add_left (by decide) _⟩, tc_same hq5, hca⟩) dX5_insert_114
                      · exact absurd c_106 (by decide)
                    · exact absurd c_89 (by decide)
                  · skip
                    obtain rfl := hq3.symm
                    obtain rfl := hq4.symm
                    refine lv_if_ne (tgt := 94) hx hb dX5_insert_89 (by decide) (fun c_89 => ?_) (fun c_89 => ?_)
                    · exact absurd c_89 (by decide)
                    · skip
                      refine lv_iconst (v := nI 4) hx hb dX5_insert_92 (by decide) ?_
                      refine wM hQ ?_
                      exact rtI (kf2, vf2, P, w + 2, nI ((gF bk b 0 0 (bl + 1) (pput P (xa * 32768 + ya) vv) []).length), nI (dpt b (gF bk b 0 0 (bl + 1) (pput P (xa * 32768 + ya) vv) [])), nI (w + 1), ff2, o2, ckf, cvf, []) hx hb hr hlocks (by show va_P X.1 vwCl [(a, .inr (5, [.int (nI bl), .int (nI bk), .int (nI sp), .ref d, .ref p, .ref t, .ref t2, .ref ch, .ref rs, .int (nI 1), .int f_ct, .int (nI cp)])), (p, .inr (2, [.ref pk, .ref pv, .int (nI P.length), .int (nI (w + 2))])), (pk, .inl (X.2.1, 512, .inl kf2)), (pv, .inl (X.2.1, 512, .inl vf2)), (t, .inr (4, [.ref p, .int (nI bk), .int (nI b), .int (nI (bl + 1)), .ref fa, .ref oa, .int (nI ((gF bk b 0 0 (bl + 1) (pput P (xa * 32768 + ya) vv) []).length)), .int (nI (dpt b (gF bk b 0 0 (bl + 1) (pput P (xa * 32768 + ya) vv) []))), .int (nI (w + 1))])), (fa, .inl (X.2.1, 6 * (bl + 1), .inl ff2)), (oa, .inl (X.2.1, 512, .inl o2)), (ch, .inr (0, [.ref ck, .ref cv, .int (nI ((C ++ []).length))])), (ck, .inl (X.2.1, 60, .inl ckf)), (cv, .inl (X.2.1, 60, .inl cvf))] _; rw [List.append_nil]; exact hP) hS (⟨(by show (nI 4, P, []) = _; unfold insF; rw [cif_pos ⟨hc_13, nI_pos hvv⟩, cif_neg hc_29, cif_pos hnone2, kOf_nI (by omega) (by omega), nI_clamp hvv, cif_pos hq1]), hq2, ⟨Nat.le_add_right _ _, Nat.le_refl _⟩, tc_next (tc_same (L := pput P (xa * 32768 + ya) vv) (w := w + 1) hq5) (Nat.lt_succ_self (w + 1)) (show w + 2 < 2 ^ 31 by omega), (by rw [List.append_nil]; exact hc)⟩) dX5_insert_93
                · exact absurd c_66 (by decide)
              · skip
                have hsome : ¬ lkp P (kOf (nI xa) (nI ya)) = none := fun z => c_54 ((vOf_m1 h).mpr (by rw [kOf_nI (by omega) (by omega)] at z; exact z))
                refine lv_iconst (v := nI 1) hx hb dX5_insert_57 (by decide) ?_
                refine lv_goto (tgt := 62) hx hb dX5_insert_58 (by decide) ?_
                refine lv_istore (lv' := [(5, .int (nI 1)), (4, .int (nI (xa * 32768 + ya))), (0, .ref a), (1, .int (nI xa)), (2, .int (nI ya)), (3, .int (nI vv))]) hx hb dX5_insert_62 hl (by decide) rfl (fun ls hl => ?_)
                refine lv_iload hx hb dX5_insert_64 (lv_at hl 0 rfl) ?_
                refine lv_if_eq (tgt := 82) hx hb dX5_insert_66 (by decide) (fun c_66 => ?_) (fun c_66 => ?_)
                · exact absurd c_66 (by decide)
                · skip
                  refine lv_aload_n hx hb dX5_insert_69 rfl (lv_at hl 2 rfl) ?_
                  refine va_get (D := X.1) (ci := 5) (v := .ref p) (C := RX5) (T := TX5) (N := 12) hx hb hts hin5 hown hK hP 0 rfl rfl 4 (by decide) lk35 (fun _ h9 => h9) rfl dX5_insert_70 ?_
                  refine lv_iload hx hb dX5_insert_73 (lv_at hl 1 rfl) ?_
                  refine lv_iload_n hx hb dX5_insert_75 rfl (lv_at hl 5 rfl) ?_
                  refine ckVv (As := [.int (nI (xa * 32768 + ya)), .int (nI vv)]) (rest := []) 0 [1, 2, 3] (c_X2_put l X p pk pv w (xa * 32768 + ya) vv pkf pvf P h (by omega) hvv (by have := pput_len (L := P) (key := xa * 32768 + ya) (v := vv); omega)) ⟨hx, hb, hml, hown, hts⟩ (cwV 2 hts gX5_insert_X2_put rfl rfl rfl (by decide +kernel) ⟨Nat.le_of_ble_eq_true rfl, Nat.le_of_ble_eq_true rfl⟩) hK hN hP hD hS (by decide) rfl (ci := 2) rfl rfl (fun _ => rfl) rfl hl.1 rfl (Nat.le_of_ble_eq_true rfl) dX5_insert_76 ⟨Nat.zero_le _, Nat.zero_le _⟩ (fun u_9 H locs hpu hP hD hS => ?_)
                  obtain ⟨pkf2, pvf2⟩ := u_9
                  have hP : va_P X.1 vwCl [(a, .inr (5, [.int (nI bl), .int (nI bk), .int (nI sp), .ref d, .ref p, .ref t, .ref t2, .ref ch, .ref rs, .int (nI 1), .int f_ct, .int (nI cp)])), (p, .inr (2, [.ref pk, .ref pv, .int (nI ((pput P (xa * 32768 + ya) vv).length)), .int (nI (w + 1))])), (pk, .inl (X.2.1, 512, .inl pkf2)), (pv, .inl (X.2.1, 512, .inl pvf2)), (t, .inr (4, [.ref p, .int (nI bk), .int (nI b), .int (nI (bl + 1)), .ref fa, .ref oa, .int f_nn, .int f_dd, .int f_mo])), (fa, .inl (X.2.1, 6 * (bl + 1), .inl ff)), (oa, .inl (X.2.1, 512, .inl o)), (ch, .inr (0, [.ref ck, .ref cv, .int (nI C.length)])), (ck, .inl (X.2.1, 60, .inl ckf)), (cv, .inl (X.2.1, 60, .inl cvf))] H := hP
                  have hD : va_D A_ [(a, .inr (5, [.int (nI bl), .int (nI bk), .int (nI sp), .ref d, .ref p, .ref t, .ref t2, .ref ch, .ref rs, .int (nI 1), .int f_ct, .int (nI cp)])), (p, .inr (2, [.ref pk, .ref pv, .int (nI ((pput P (xa * 32768 + ya) vv).length)), .int (nI (w + 1))])), (pk, .inl (X.2.1, 512, .inl pkf2)), (pv, .inl (X.2.1, 512, .inl pvf2)), (t, .inr (4, [.ref p, .int (nI bk), .int (nI b), .int (nI (bl + 1)), .ref fa, .ref oa, .int f_nn, .int f_dd, .int f_mo])), (fa, .inl (X.2.1, 6 * (bl + 1), .inl ff)), (oa, .inl (X.2.1, 512, .inl o)), (ch, .inr (0, [.ref ck, .ref cv, .int (nI C.length)])), (ck, .inl (X.2.1, 60, .inl ckf)), (cv, .inl (X.2.1, 60, .inl cvf))] := hD
                  try dsimp only at hpu
                  refine lv_goto (tgt := 94) hx hb dX5_insert_79 (by decide) ?_
                  refine lv_aload_n hx hb dX5_insert_94 rfl (lv_at hl 2 rfl) ?_
                  refine va_get (D := X.1) (ci := 5) (v := .ref ch) (C := RX5) (T := TX5) (N := 12) hx hb hts hin5 hown hK hP 0 rfl rfl 7 (by decide) lk54 (fun _ h9 => h9) rfl dX5_insert_95 ?_
                  refine lv_iload hx hb dX5_insert_98 (lv_at hl 1 rfl) ?_
                  refine lv_iload_n hx hb dX5_insert_100 rfl (lv_at hl 5 rfl) ?_
                  refine ckVv (As := [.int (nI (xa * 32768 + ya)), .int (nI vv)]) (rest := []) 0 [7, 8, 9] (c_X0_add l X ch ck cv ckf cvf (some (xa * 32768 + ya, some vv) : Op) C hc (by omega) (⟨by omega, hvv⟩)) ⟨hx, hb, hml, hown, hts⟩ (cwV 2 hts gX5_insert_X0_add rfl rfl rfl (by decide +kernel) ⟨Nat.le_of_ble_eq_true rfl, Nat.le_of_ble_eq_true rfl⟩) hK hN hP hD hS (by decide) rfl (ci := 0) rfl rfl (fun _ => rfl) rfl hl.1 rfl (Nat.le_of_ble_eq_true rfl) dX5_insert_101 ⟨Nat.zero_le _, Nat.zero_le _⟩ (fun u_11 H locs hca hP hD hS => ?_)
                  obtain ⟨ck2, cv2⟩ := u_11
                  have hP : va_P X.1 vwCl [(a, .inr (5, [.int (nI bl), .int (nI bk), .int (nI sp), .ref d, .ref p, .ref t, .ref t2, .ref ch, .ref rs, .int (nI 1), .int f_ct, .int (nI cp)])), (p, .inr (2, [.ref pk, .ref pv, .int (nI ((pput P (xa * 32768 + ya) vv).length)), .int (nI (w + 1))])), (pk, .inl (X.2.1, 512, .inl pkf2)), (pv, .inl (X.2.1, 512, .inl pvf2)), (t, .inr (4, [.ref p, .int (nI bk), .int (nI b), .int (nI (bl + 1)), .ref fa, .ref oa, .int f_nn, .int f_dd, .int f_mo])), (fa, .inl (X.2.1, 6 * (bl + 1), .inl ff)), (oa, .inl (X.2.1, 512, .inl o)), (ch, .inr (0, [.ref ck, .ref cv, .int (nI (C.length + 1))])), (ck, .inl (X.2.1, 60, .inl ck2)), (cv, .inl (X.2.1, 60, .inl cv2))] H := hP
                  have hD : va_D A_ [(a, .inr (5, [.int (nI bl), .int (nI bk), .int (nI sp), .ref d, .ref p, .ref t, .ref t2, .ref ch, .ref rs, .int (nI 1), .int f_ct, .int (nI cp)])), (p, .inr (2, [.ref pk, .ref pv, .int (nI ((pput P (xa * 32768 + ya) vv).length)), .int (nI (w + 1))])), (pk, .inl (X.2.1, 512, .inl pkf2)), (pv, .inl (X.2.1, 512, .inl pvf2)), (t, .inr (4, [.ref p, .int (nI bk), .int (nI b), .int (nI (bl + 1)), .ref fa, .ref oa, .int f_nn, .int f_dd, .int f_mo])), (fa, .inl (X.2.1, 6 * (bl + 1), .inl ff)), (oa, .inl (X.2.1, 512, .inl o)), (ch, .inr (0, [.ref ck, .ref cv, .int (nI (C.length + 1))])), (ck, .inl (X.2.1, 60, .inl ck2)), (cv, .inl (X.2.1, 60, .inl cv2))] := hD
                  try dsimp only at hca
                  refine lv_iload hx hb dX5_insert_104 (lv_at hl 0 rfl) ?_
                  refine lv_if_eq (tgt := 113) hx hb dX5_insert_106 (by decide) (fun c_106 => ?_) (fun c_106 => ?_)
                  · exact absurd c_106 (by decide)
                  · skip
                    refine lv_iconst (v := nI 1) hx hb dX5_insert_109 (by decide) ?_
                    refine lv_goto (tgt := 114) hx hb dX5_insert_110 (by decide) ?_
                    rw [show C.length + 1 = (C ++ [some (xa * 32768 + ya, some vv)]).length from by simp] at hP
                    refine wM hQ ?_
                    exact rtI (pkf2, pvf2, pput P (xa * 32768 + ya) vv, w + 1, f_nn, f_dd, f_mo, ff, o, ck2, cv2, [some (xa * 32768 + ya, some vv)]) hx hb hr hlocks hP hS (⟨(by show (nI 1, pput P (xa * 32768 + ya) vv, [some (xa * 32768 + ya, some vv)]) = _; unfold insF; rw [cif_pos ⟨hc_13, nI_pos hvv⟩, cif_neg hc_29, cif_neg hsome, kOf_nI (by omega) (by omega), nI_clamp hvv]), hpu, ⟨Nat.le_add_right _ _, Nat.add_le_add_left (by decide) _⟩, tc_next htc (Nat.lt_succ_self w) (show w + 1 < 2 ^ 31 by omega), hca⟩) dX5_insert_114
            · exact absurd c_32 (by decide)
        · skip
          refine lv_iconst (v := nI 2) hx hb dX5_insert_23 (by decide) ?_
          refine wM hQ ?_
          exact rtI (pkf, pvf, P, w, f_nn, f_dd, f_mo, ff, o, ckf, cvf, []) hx hb hr hlocks (by show va_P X.1 vwCl [(a, .inr (5, [.int (nI bl), .int (nI bk), .int (nI sp), .ref d, .ref p, .ref t, .ref t2, .ref ch, .ref rs, .int (nI 1), .int f_ct, .int (nI cp)])), (p, .inr (2, [.ref pk, .ref pv, .int (nI P.length), .int (nI w)])), (pk, .inl (X.2.1, 512, .inl pkf)), (pv, .inl (X.2.1, 512, .inl pvf)), (t, .inr (4, [.ref p, .int (nI bk), .int (nI b), .int (nI (bl + 1)), .ref fa, .ref oa, .int f_nn, .int f_dd, .int f_mo])), (fa, .inl (X.2.1, 6 * (bl + 1), .inl ff)), (oa, .inl (X.2.1, 512, .inl o)), (ch, .inr (0, [.ref ck, .ref cv, .int (nI ((C ++ []).length))])), (ck, .inl (X.2.1, 60, .inl ckf)), (cv, .inl (X.2.1, 60, .inl cvf))] _; rw [List.append_nil]; exact hP) hS (⟨(by show (nI 2, P, []) = _; unfold insF; rw [cif_neg (fun z => c_20 (Int32.not_lt.mp z.2))]), h, ⟨Nat.le_refl _, Nat.le_add_right _ _⟩, htc, (by rw [List.append_nil]; exact hc)⟩) dX5_insert_24
    · skip
      refine lv_if_eq (tgt := 23) hx hb dX5_insert_16 (by decide) (fun c_16 => ?_) (fun c_16 => ?_)
      · skip
        refine lv_iconst (v := nI 2) hx hb dX5_insert_23 (by decide) ?_
        refine wM hQ ?_
        exact rtI (pkf, pvf, P, w, f_nn, f_dd, f_mo, ff, o, ckf, cvf, []) hx hb hr hlocks (by show va_P X.1 vwCl [(a, .inr (5, [.int (nI bl), .int (nI bk), .int (nI sp), .ref d, .ref p, .ref t, .ref t2, .ref ch, .ref rs, .int (nI 1), .int f_ct, .int (nI cp)])), (p, .inr (2, [.ref pk, .ref pv, .int (nI P.length), .int (nI w)])), (pk, .inl (X.2.1, 512, .inl pkf)), (pv, .inl (X.2.1, 512, .inl pvf)), (t, .inr (4, [.ref p, .int (nI bk), .int (nI b), .int (nI (bl + 1)), .ref fa, .ref oa, .int f_nn, .int f_dd, .int f_mo])), (fa, .inl (X.2.1, 6 * (bl + 1), .inl ff)), (oa, .inl (X.2.1, 512, .inl o)), (ch, .inr (0, [.ref ck, .ref cv, .int (nI ((C ++ []).length))])), (ck, .inl (X.2.1, 60, .inl ckf)), (cv, .inl (X.2.1, 60, .inl cvf))] _; rw [List.append_nil]; exact hP) hS (⟨(by show (nI 2, P, []) = _; unfold insF; rw [cif_neg (fun z => hc_13 z.1)]), h, ⟨Nat.le_refl _, Nat.le_add_right _ _⟩, htc, (by rw [List.append_nil]; exact hc)⟩) dX5_insert_24
      · exact absurd c_16 (by decide)
  · exact absurd c_4 (by decide)
end
