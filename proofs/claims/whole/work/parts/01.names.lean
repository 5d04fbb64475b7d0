/-! ===== BEGIN words of one list among another's, by their places ===== -/
theorem goodIn_r {big : List Cond} (ws : List Cond) (ps : List Nat) (hp : ws = ps.filterMap (fun i => big[i]?)) (h : ws.all goodWord = true) : GoodIn big ws := by
  intro w hw
  have h1 := List.all_eq_true.mp h w hw
  rw [hp] at hw
  obtain ⟨i, -, hi⟩ := List.mem_filterMap.mp hw
  have hm : w ∈ big := by first | exact List.mem_of_getElem? hi | exact List.getElem?_mem hi
  exact ⟨hm, good_of_word h1⟩
theorem goodIn_app {big a b : List Cond} (ha : GoodIn big a) (hb : GoodIn big b) : GoodIn big (a ++ b) := fun w h => (List.mem_append.mp h).elim (ha w) (hb w)
theorem goodIn_ca {big a b : List Cond} {c : Cond} (ha : GoodIn big (c :: a)) (hb : GoodIn big b) : GoodIn big (c :: (a ++ b)) := fun w h => (List.mem_cons.mp h).elim (fun e => ha w (List.mem_cons.mpr (Or.inl e))) (fun h => (List.mem_append.mp h).elim (fun h => ha w (List.mem_cons.mpr (Or.inr h))) (hb w))
theorem goodIn_sub {big ws : List Cond} (hm : ∀ w ∈ ws, w ∈ big) (h : ws.all goodWord = true) : GoodIn big ws := fun w hw => ⟨hm w hw, good_of_word (List.all_eq_true.mp h w hw)⟩
/-! ===== END ===== -/

/-! ===== BEGIN printed: names, fields, word lists, decode rows ===== -/
def RX0 : String := "PointStore$Changes"
def TX0 : u_T := fun k => match k with
  | 0 => ("PointStore$Changes", "keys", "[I", true)
  | 1 => ("PointStore$Changes", "values", "[I", true)
  | _ => ("PointStore$Changes", "total", "I", false)
def tyX0 : Nat → FieldType := fun k => match k with
  | 0 => .array .int
  | 1 => .array .int
  | _ => .int
abbrev wsX00 : List Cond := u_ws RX0 TX0 3
theorem nmX0 : ∀ a, a < 3 → ∀ b, b < 3 → a ≠ b → (TX0 a).2.1 ≠ (TX0 b).2.1 := by decide +kernel
theorem tyX0_ok : ∀ k, k < 3 → parseFieldDescriptor (TX0 k).2.2.1 = some (tyX0 k) := by decide +kernel
abbrev cX0_init : ByteArray := prog_2_method_1_code
def yX0_init : MethodName := ⟨RX0, "<init>", "()V"⟩
abbrev cX0_isFull : ByteArray := prog_2_method_2_code
def yX0_isFull : MethodName := ⟨RX0, "isFull", "()Z"⟩
abbrev cX0_add : ByteArray := prog_2_method_3_code
def yX0_add : MethodName := ⟨RX0, "add", "(II)V"⟩
abbrev cX0_clear : ByteArray := prog_2_method_4_code
def yX0_clear : MethodName := ⟨RX0, "clear", "()V"⟩
def RX1 : String := "PointStore$Disk"
def TX1 : u_T := fun k => match k with
  | 0 => ("PointStore$Disk", "home", "LPointStore$Points;", true)
  | 1 => ("PointStore$Disk", "logKeys", "[I", true)
  | 2 => ("PointStore$Disk", "logValues", "[I", true)
  | _ => ("PointStore$Disk", "sealed", "I", false)
def tyX1 : Nat → FieldType := fun k => match k with
  | 0 => .object "PointStore$Points"
  | 1 => .array .int
  | 2 => .array .int
  | _ => .int
abbrev wsX10 : List Cond := u_ws RX1 TX1 4
theorem nmX1 : ∀ a, a < 4 → ∀ b, b < 4 → a ≠ b → (TX1 a).2.1 ≠ (TX1 b).2.1 := by decide +kernel
theorem tyX1_ok : ∀ k, k < 4 → parseFieldDescriptor (TX1 k).2.2.1 = some (tyX1 k) := by decide +kernel
abbrev cX1_init : ByteArray := prog_3_method_1_code
def yX1_init : MethodName := ⟨RX1, "<init>", "(LPointStore$Points;)V"⟩
abbrev cX1_writeLog : ByteArray := prog_3_method_2_code
def yX1_writeLog : MethodName := ⟨RX1, "writeLog", "(LPointStore$Changes;I)V"⟩
abbrev cX1_seal : ByteArray := prog_3_method_3_code
def yX1_seal : MethodName := ⟨RX1, "seal", "(I)V"⟩
abbrev cX1_writeHome : ByteArray := prog_3_method_4_code
def yX1_writeHome : MethodName := ⟨RX1, "writeHome", "(I)V"⟩
abbrev cX1_end : ByteArray := prog_3_method_5_code
def yX1_end : MethodName := ⟨RX1, "end", "()V"⟩
abbrev cX1_writeAtHome : ByteArray := prog_3_method_6_code
def yX1_writeAtHome : MethodName := ⟨RX1, "writeAtHome", "(II)V"⟩
def RX2 : String := "PointStore$Points"
def TX2 : u_T := fun k => match k with
  | 0 => ("PointStore$Points", "keys", "[I", true)
  | 1 => ("PointStore$Points", "values", "[I", true)
  | 2 => ("PointStore$Points", "total", "I", false)
  | _ => ("PointStore$Points", "version", "I", false)
def tyX2 : Nat → FieldType := fun k => match k with
  | 0 => .array .int
  | 1 => .array .int
  | 2 => .int
  | _ => .int
abbrev wsX20 : List Cond := u_ws RX2 TX2 4
theorem nmX2 : ∀ a, a < 4 → ∀ b, b < 4 → a ≠ b → (TX2 a).2.1 ≠ (TX2 b).2.1 := by decide +kernel
theorem tyX2_ok : ∀ k, k < 4 → parseFieldDescriptor (TX2 k).2.2.1 = some (tyX2 k) := by decide +kernel
abbrev cX2_init : ByteArray := prog_4_method_1_code
def yX2_init : MethodName := ⟨RX2, "<init>", "()V"⟩
abbrev cX2_isFull : ByteArray := prog_4_method_2_code
def yX2_isFull : MethodName := ⟨RX2, "isFull", "()Z"⟩
abbrev cX2_keyAt : ByteArray := prog_4_method_3_code
def yX2_keyAt : MethodName := ⟨RX2, "keyAt", "(I)I"⟩
abbrev cX2_valueOf : ByteArray := prog_4_method_4_code
def yX2_valueOf : MethodName := ⟨RX2, "valueOf", "(I)I"⟩
abbrev cX2_put : ByteArray := prog_4_method_5_code
def yX2_put : MethodName := ⟨RX2, "put", "(II)V"⟩
abbrev cX2_takeOut : ByteArray := prog_4_method_6_code
def yX2_takeOut : MethodName := ⟨RX2, "takeOut", "(I)V"⟩
abbrev cX2_clear : ByteArray := prog_4_method_7_code
def yX2_clear : MethodName := ⟨RX2, "clear", "()V"⟩
abbrev cX2_copyFrom : ByteArray := prog_4_method_8_code
def yX2_copyFrom : MethodName := ⟨RX2, "copyFrom", "(LPointStore$Points;)V"⟩
abbrev cX2_placeOf : ByteArray := prog_4_method_9_code
def yX2_placeOf : MethodName := ⟨RX2, "placeOf", "(I)I"⟩
def RX3 : String := "PointStore$Results"
def TX3 : u_T := fun k => match k with
  | 0 => ("PointStore$Results", "keys", "[I", true)
  | 1 => ("PointStore$Results", "values", "[I", true)
  | 2 => ("PointStore$Results", "distances", "[J", true)
  | _ => ("PointStore$Results", "total", "I", false)
def tyX3 : Nat → FieldType := fun k => match k with
  | 0 => .array .int
  | 1 => .array .int
  | 2 => .array .long
  | _ => .int
abbrev wsX30 : List Cond := u_ws RX3 TX3 4
theorem nmX3 : ∀ a, a < 4 → ∀ b, b < 4 → a ≠ b → (TX3 a).2.1 ≠ (TX3 b).2.1 := by decide +kernel
theorem tyX3_ok : ∀ k, k < 4 → parseFieldDescriptor (TX3 k).2.2.1 = some (tyX3 k) := by decide +kernel
abbrev cX3_init : ByteArray := prog_5_method_1_code
def yX3_init : MethodName := ⟨RX3, "<init>", "()V"⟩
abbrev cX3_clear : ByteArray := prog_5_method_2_code
def yX3_clear : MethodName := ⟨RX3, "clear", "()V"⟩
abbrev cX3_add : ByteArray := prog_5_method_3_code
def yX3_add : MethodName := ⟨RX3, "add", "(II)V"⟩
abbrev cX3_addByDistance : ByteArray := prog_5_method_4_code
def yX3_addByDistance : MethodName := ⟨RX3, "addByDistance", "(IIJI)V"⟩
def RX4 : String := "PointStore$Tree"
def TX4 : u_T := fun k => match k with
  | 0 => ("PointStore$Tree", "points", "LPointStore$Points;", true)
  | 1 => ("PointStore$Tree", "bucket", "I", true)
  | 2 => ("PointStore$Tree", "bits", "I", true)
  | 3 => ("PointStore$Tree", "mostNodes", "I", true)
  | 4 => ("PointStore$Tree", "facts", "[I", true)
  | 5 => ("PointStore$Tree", "order", "[I", true)
  | 6 => ("PointStore$Tree", "nodes", "I", false)
  | 7 => ("PointStore$Tree", "depth", "I", false)
  | _ => ("PointStore$Tree", "madeOf", "I", false)
def tyX4 : Nat → FieldType := fun k => match k with
  | 0 => .object "PointStore$Points"
  | 1 => .int
  | 2 => .int
  | 3 => .int
  | 4 => .array .int
  | 5 => .array .int
  | 6 => .int
  | 7 => .int
  | _ => .int
abbrev wsX40 : List Cond := u_ws RX4 TX4 9
theorem nmX4 : ∀ a, a < 9 → ∀ b, b < 9 → a ≠ b → (TX4 a).2.1 ≠ (TX4 b).2.1 := by decide +kernel
theorem tyX4_ok : ∀ k, k < 9 → parseFieldDescriptor (TX4 k).2.2.1 = some (tyX4 k) := by decide +kernel
abbrev cX4_init : ByteArray := prog_6_method_1_code
def yX4_init : MethodName := ⟨RX4, "<init>", "(LPointStore$Points;III)V"⟩
abbrev cX4_upToDate : ByteArray := prog_6_method_2_code
def yX4_upToDate : MethodName := ⟨RX4, "upToDate", "()LPointStore$Tree;"⟩
abbrev cX4_factOf : ByteArray := prog_6_method_3_code
def yX4_factOf : MethodName := ⟨RX4, "factOf", "(II)I"⟩
abbrev cX4_grow : ByteArray := prog_6_method_4_code
def yX4_grow : MethodName := ⟨RX4, "grow", "(LPointStore$Tree;IIIII)V"⟩
abbrev cX4_gather : ByteArray := prog_6_method_5_code
def yX4_gather : MethodName := ⟨RX4, "gather", "(IIII)I"⟩
abbrev cX4_lowBitsOf : ByteArray := prog_6_method_6_code
def yX4_lowBitsOf : MethodName := ⟨RX4, "lowBitsOf", "(II)I"⟩
def RX5 : String := "PointStore"
def TX5 : u_T := fun k => match k with
  | 0 => ("PointStore", "blocks", "I", true)
  | 1 => ("PointStore", "bucket", "I", true)
  | 2 => ("PointStore", "span", "I", true)
  | 3 => ("PointStore", "disk", "LPointStore$Disk;", true)
  | 4 => ("PointStore", "pending", "LPointStore$Points;", true)
  | 5 => ("PointStore", "pendingTree", "LPointStore$Tree;", true)
  | 6 => ("PointStore", "committedTree", "LPointStore$Tree;", true)
  | 7 => ("PointStore", "changes", "LPointStore$Changes;", true)
  | 8 => ("PointStore", "results", "LPointStore$Results;", true)
  | 9 => ("PointStore", "powered", "Z", false)
  | 10 => ("PointStore", "cut", "I", false)
  | _ => ("PointStore", "cutParts", "I", false)
def tyX5 : Nat → FieldType := fun k => match k with
  | 0 => .int
  | 1 => .int
  | 2 => .int
  | 3 => .object "PointStore$Disk"
  | 4 => .object "PointStore$Points"
  | 5 => .object "PointStore$Tree"
  | 6 => .object "PointStore$Tree"
  | 7 => .object "PointStore$Changes"
  | 8 => .object "PointStore$Results"
  | 9 => .boolean
  | 10 => .int
  | _ => .int
abbrev wsX50 : List Cond := u_ws RX5 TX5 12
theorem nmX5 : ∀ a, a < 12 → ∀ b, b < 12 → a ≠ b → (TX5 a).2.1 ≠ (TX5 b).2.1 := by decide +kernel
theorem tyX5_ok : ∀ k, k < 12 → parseFieldDescriptor (TX5 k).2.2.1 = some (tyX5 k) := by decide +kernel
abbrev cX5_init : ByteArray := prog_1_method_1_code
def yX5_init : MethodName := ⟨RX5, "<init>", "(III)V"⟩
abbrev cX5_insert : ByteArray := prog_1_method_2_code
def yX5_insert : MethodName := ⟨RX5, "insert", "(III)I"⟩
abbrev cX5_delete : ByteArray := prog_1_method_3_code
def yX5_delete : MethodName := ⟨RX5, "delete", "(II)I"⟩
abbrev cX5_get : ByteArray := prog_1_method_4_code
def yX5_get : MethodName := ⟨RX5, "get", "(III)I"⟩
abbrev cX5_window : ByteArray := prog_1_method_5_code
def yX5_window : MethodName := ⟨RX5, "window", "(IIIII)I"⟩
abbrev cX5_nearest : ByteArray := prog_1_method_6_code
def yX5_nearest : MethodName := ⟨RX5, "nearest", "(IIII)I"⟩
abbrev cX5_differs : ByteArray := prog_1_method_7_code
def yX5_differs : MethodName := ⟨RX5, "differs", "()I"⟩
abbrev cX5_result : ByteArray := prog_1_method_8_code
def yX5_result : MethodName := ⟨RX5, "result", "(II)I"⟩
abbrev cX5_size : ByteArray := prog_1_method_9_code
def yX5_size : MethodName := ⟨RX5, "size", "()I"⟩
abbrev cX5_sum : ByteArray := prog_1_method_10_code
def yX5_sum : MethodName := ⟨RX5, "sum", "(IIIII)J"⟩
abbrev cX5_commit : ByteArray := prog_1_method_11_code
def yX5_commit : MethodName := ⟨RX5, "commit", "()I"⟩
abbrev cX5_abort : ByteArray := prog_1_method_12_code
def yX5_abort : MethodName := ⟨RX5, "abort", "()I"⟩
abbrev cX5_format : ByteArray := prog_1_method_13_code
def yX5_format : MethodName := ⟨RX5, "format", "()I"⟩
abbrev cX5_arm : ByteArray := prog_1_method_14_code
def yX5_arm : MethodName := ⟨RX5, "arm", "(II)Z"⟩
abbrev cX5_recover : ByteArray := prog_1_method_15_code
def yX5_recover : MethodName := ⟨RX5, "recover", "()I"⟩
abbrev cX5_node : ByteArray := prog_1_method_16_code
def yX5_node : MethodName := ⟨RX5, "node", "(III)I"⟩
abbrev cX5_count : ByteArray := prog_1_method_17_code
def yX5_count : MethodName := ⟨RX5, "count", "(I)I"⟩
abbrev cX5_comesIn : ByteArray := prog_1_method_18_code
def yX5_comesIn : MethodName := ⟨RX5, "comesIn", "(II)Z"⟩
abbrev cX5_writeChanges : ByteArray := prog_1_method_19_code
def yX5_writeChanges : MethodName := ⟨RX5, "writeChanges", "()Z"⟩
abbrev cX5_losePower : ByteArray := prog_1_method_20_code
def yX5_losePower : MethodName := ⟨RX5, "losePower", "()V"⟩
abbrev cX5_pointsOf : ByteArray := prog_1_method_21_code
def yX5_pointsOf : MethodName := ⟨RX5, "pointsOf", "(I)LPointStore$Points;"⟩
abbrev cX5_treeOf : ByteArray := prog_1_method_22_code
def yX5_treeOf : MethodName := ⟨RX5, "treeOf", "(I)LPointStore$Tree;"⟩
abbrev cX5_isOnPlane : ByteArray := prog_1_method_23_code
def yX5_isOnPlane : MethodName := ⟨RX5, "isOnPlane", "(II)Z"⟩
abbrev cX5_isPlace : ByteArray := prog_1_method_24_code
def yX5_isPlace : MethodName := ⟨RX5, "isPlace", "(I)Z"⟩
abbrev cX5_fromOneTo : ByteArray := prog_1_method_25_code
def yX5_fromOneTo : MethodName := ⟨RX5, "fromOneTo", "(III)I"⟩
abbrev cX5_keyOf : ByteArray := prog_1_method_26_code
def yX5_keyOf : MethodName := ⟨RX5, "keyOf", "(II)I"⟩
abbrev cX5_xOf : ByteArray := prog_1_method_27_code
def yX5_xOf : MethodName := ⟨RX5, "xOf", "(I)I"⟩
abbrev cX5_yOf : ByteArray := prog_1_method_28_code
def yX5_yOf : MethodName := ⟨RX5, "yOf", "(I)I"⟩
abbrev cX5_isWithin : ByteArray := prog_1_method_29_code
def yX5_isWithin : MethodName := ⟨RX5, "isWithin", "(IIIII)Z"⟩
abbrev cX5_distance : ByteArray := prog_1_method_30_code
def yX5_distance : MethodName := ⟨RX5, "distance", "(III)J"⟩
def RX6 : String := "PointStoreModel"
def TX6 : u_T := fun k => match k with
  | 0 => ("PointStoreModel", "blocks", "I", true)
  | 1 => ("PointStoreModel", "bucket", "I", true)
  | 2 => ("PointStoreModel", "bits", "I", true)
  | 3 => ("PointStoreModel", "span", "I", true)
  | 4 => ("PointStoreModel", "many", "[I", true)
  | 5 => ("PointStoreModel", "xs", "[I", true)
  | 6 => ("PointStoreModel", "ys", "[I", true)
  | 7 => ("PointStoreModel", "values", "[I", true)
  | 8 => ("PointStoreModel", "codes", "[J", true)
  | 9 => ("PointStoreModel", "codeValues", "[I", true)
  | 10 => ("PointStoreModel", "changes", "I", false)
  | 11 => ("PointStoreModel", "isOff", "Z", false)
  | 12 => ("PointStoreModel", "armed", "I", false)
  | 13 => ("PointStoreModel", "waitLevel", "[I", true)
  | 14 => ("PointStoreModel", "waitCode", "[J", true)
  | 15 => ("PointStoreModel", "waits", "I", false)
  | 16 => ("PointStoreModel", "level", "I", false)
  | 17 => ("PointStoreModel", "first", "I", false)
  | 18 => ("PointStoreModel", "end", "I", false)
  | 19 => ("PointStoreModel", "code", "J", false)
  | 20 => ("PointStoreModel", "resultX", "[I", true)
  | 21 => ("PointStoreModel", "resultY", "[I", true)
  | 22 => ("PointStoreModel", "resultValue", "[I", true)
  | 23 => ("PointStoreModel", "far", "[J", true)
  | _ => ("PointStoreModel", "results", "I", false)
def tyX6 : Nat → FieldType := fun k => match k with
  | 0 => .int
  | 1 => .int
  | 2 => .int
  | 3 => .int
  | 4 => .array .int
  | 5 => .array .int
  | 6 => .array .int
  | 7 => .array .int
  | 8 => .array .long
  | 9 => .array .int
  | 10 => .int
  | 11 => .boolean
  | 12 => .int
  | 13 => .array .int
  | 14 => .array .long
  | 15 => .int
  | 16 => .int
  | 17 => .int
  | 18 => .int
  | 19 => .long
  | 20 => .array .int
  | 21 => .array .int
  | 22 => .array .int
  | 23 => .array .long
  | _ => .int
abbrev wsX60 : List Cond := u_ws RX6 TX6 25
theorem nmX6 : ∀ a, a < 25 → ∀ b, b < 25 → a ≠ b → (TX6 a).2.1 ≠ (TX6 b).2.1 := by decide +kernel
theorem tyX6_ok : ∀ k, k < 25 → parseFieldDescriptor (TX6 k).2.2.1 = some (tyX6 k) := by decide +kernel
abbrev cX6_init : ByteArray := prog_8_method_1_code
def yX6_init : MethodName := ⟨RX6, "<init>", "(III)V"⟩
abbrev cX6_isInside : ByteArray := prog_8_method_2_code
def yX6_isInside : MethodName := ⟨RX6, "isInside", "(II)Z"⟩
abbrev cX6_isState : ByteArray := prog_8_method_3_code
def yX6_isState : MethodName := ⟨RX6, "isState", "(I)Z"⟩
abbrev cX6_placeOf : ByteArray := prog_8_method_4_code
def yX6_placeOf : MethodName := ⟨RX6, "placeOf", "(III)I"⟩
abbrev cX6_isAt : ByteArray := prog_8_method_5_code
def yX6_isAt : MethodName := ⟨RX6, "isAt", "(IIII)Z"⟩
abbrev cX6_codeOf : ByteArray := prog_8_method_6_code
def yX6_codeOf : MethodName := ⟨RX6, "codeOf", "(II)J"⟩
abbrev cX6_below : ByteArray := prog_8_method_7_code
def yX6_below : MethodName := ⟨RX6, "below", "(IJ)I"⟩
abbrev cX6_puts : ByteArray := prog_8_method_8_code
def yX6_puts : MethodName := ⟨RX6, "puts", "(IIII)V"⟩
abbrev cX6_takes : ByteArray := prog_8_method_9_code
def yX6_takes : MethodName := ⟨RX6, "takes", "(I)V"⟩
abbrev cX6_becomes : ByteArray := prog_8_method_10_code
def yX6_becomes : MethodName := ⟨RX6, "becomes", "(II)V"⟩
abbrev cX6_begins : ByteArray := prog_8_method_11_code
def yX6_begins : MethodName := ⟨RX6, "begins", "()V"⟩
abbrev cX6_next : ByteArray := prog_8_method_12_code
def yX6_next : MethodName := ⟨RX6, "next", "()J"⟩
abbrev cX6_comes : ByteArray := prog_8_method_13_code
def yX6_comes : MethodName := ⟨RX6, "comes", "(I)Z"⟩
abbrev cX6_part : ByteArray := prog_8_method_14_code
def yX6_part : MethodName := ⟨RX6, "part", "(II)I"⟩
abbrev cX6_nodes : ByteArray := prog_8_method_15_code
def yX6_nodes : MethodName := ⟨RX6, "nodes", "(I)I"⟩
abbrev cX6_depth : ByteArray := prog_8_method_16_code
def yX6_depth : MethodName := ⟨RX6, "depth", "()I"⟩
abbrev cX6_node : ByteArray := prog_8_method_17_code
def yX6_node : MethodName := ⟨RX6, "node", "(III)I"⟩
abbrev cX6_insert : ByteArray := prog_8_method_18_code
def yX6_insert : MethodName := ⟨RX6, "insert", "(III)I"⟩
abbrev cX6_delete : ByteArray := prog_8_method_19_code
def yX6_delete : MethodName := ⟨RX6, "delete", "(II)I"⟩
abbrev cX6_get : ByteArray := prog_8_method_20_code
def yX6_get : MethodName := ⟨RX6, "get", "(III)I"⟩
abbrev cX6_tells : ByteArray := prog_8_method_21_code
def yX6_tells : MethodName := ⟨RX6, "tells", "(IIII)V"⟩
abbrev cX6_window : ByteArray := prog_8_method_22_code
def yX6_window : MethodName := ⟨RX6, "window", "(IIIII)I"⟩
abbrev cX6_sum : ByteArray := prog_8_method_23_code
def yX6_sum : MethodName := ⟨RX6, "sum", "(IIIII)J"⟩
abbrev cX6_nearest : ByteArray := prog_8_method_24_code
def yX6_nearest : MethodName := ⟨RX6, "nearest", "(IIII)I"⟩
abbrev cX6_differs : ByteArray := prog_8_method_25_code
def yX6_differs : MethodName := ⟨RX6, "differs", "()I"⟩
abbrev cX6_result : ByteArray := prog_8_method_26_code
def yX6_result : MethodName := ⟨RX6, "result", "(II)I"⟩
abbrev cX6_size : ByteArray := prog_8_method_27_code
def yX6_size : MethodName := ⟨RX6, "size", "()I"⟩
abbrev cX6_goes : ByteArray := prog_8_method_28_code
def yX6_goes : MethodName := ⟨RX6, "goes", "()I"⟩
abbrev cX6_commit : ByteArray := prog_8_method_29_code
def yX6_commit : MethodName := ⟨RX6, "commit", "()I"⟩
abbrev cX6_abort : ByteArray := prog_8_method_30_code
def yX6_abort : MethodName := ⟨RX6, "abort", "()I"⟩
abbrev cX6_format : ByteArray := prog_8_method_31_code
def yX6_format : MethodName := ⟨RX6, "format", "()I"⟩
abbrev cX6_arm : ByteArray := prog_8_method_32_code
def yX6_arm : MethodName := ⟨RX6, "arm", "(II)Z"⟩
abbrev cX6_recover : ByteArray := prog_8_method_33_code
def yX6_recover : MethodName := ⟨RX6, "recover", "()I"⟩
abbrev cX6_count : ByteArray := prog_8_method_34_code
def yX6_count : MethodName := ⟨RX6, "count", "(I)I"⟩
def RJ9 : String := "java/lang/Math"
def TJ9 : u_T := fun k => match k with
  | _ => ("", "", "", false)
def tyJ9 : Nat → FieldType := fun k => match k with
  | _ => .int
abbrev wsJ90 : List Cond := u_ws RJ9 TJ9 0
theorem nmJ9 : ∀ a, a < 0 → ∀ b, b < 0 → a ≠ b → (TJ9 a).2.1 ≠ (TJ9 b).2.1 := by decide +kernel
theorem tyJ9_ok : ∀ k, k < 0 → parseFieldDescriptor (TJ9 k).2.2.1 = some (tyJ9 k) := by decide +kernel
abbrev cJ9_max_7cf53 : ByteArray := prog_9_method_65_code
def yJ9_max_7cf53 : MethodName := ⟨RJ9, "max", "(II)I"⟩
abbrev cJ9_min_7cf53 : ByteArray := prog_9_method_69_code
def yJ9_min_7cf53 : MethodName := ⟨RJ9, "min", "(II)I"⟩
def RJ10 : String := "java/lang/System"
def TJ10 : u_T := fun k => match k with
  | _ => ("", "", "", false)
def tyJ10 : Nat → FieldType := fun k => match k with
  | _ => .int
abbrev wsJ100 : List Cond := u_ws RJ10 TJ10 0
theorem nmJ10 : ∀ a, a < 0 → ∀ b, b < 0 → a ≠ b → (TJ10 a).2.1 ≠ (TJ10 b).2.1 := by decide +kernel
theorem tyJ10_ok : ∀ k, k < 0 → parseFieldDescriptor (TJ10 k).2.2.1 = some (tyJ10 k) := by decide +kernel
def RL : String := "PointStoreLaw"
abbrev cL_cell : ByteArray := method_2_code
def yL_cell : MethodName := ⟨RL, "cell", "([II)I"⟩
abbrev cL_law : ByteArray := code
def yL_law : MethodName := ⟨RL, "law", "([I)Z"⟩
def wsX0_init : List Cond := .code yX0_init cX0_init 1 none :: ([.methodLink RX0 3 objectInit, .instanceMethod objectInit, .code objectInit ⟨#[0xb1]⟩ 1 none, .arrayClass .int, .fieldLink RX0 9 "PointStore$Changes" "keys" "[I", .fieldLink RX0 15 "PointStore$Changes" "values" "[I", .fieldLink RX0 18 "PointStore$Changes" "total" "I"] ++ wsX00)
def wsX0_isFull : List Cond := .code yX0_isFull cX0_isFull 1 (some .boolean) :: ([.fieldLink RX0 18 "PointStore$Changes" "total" "I"] ++ wsX00)
def wsX0_add : List Cond := .code yX0_add cX0_add 3 none :: ([.fieldLink RX0 9 "PointStore$Changes" "keys" "[I", .fieldLink RX0 18 "PointStore$Changes" "total" "I", .fieldLink RX0 15 "PointStore$Changes" "values" "[I", .methodLink RX0 22 yX0_isFull, .instanceMethod yX0_isFull, .selects RX0 yX0_isFull yX0_isFull, .initialized RX0, .code yX0_isFull cX0_isFull 1 (some .boolean)] ++ wsX00)
def wsX0_clear : List Cond := .code yX0_clear cX0_clear 1 none :: ([.fieldLink RX0 18 "PointStore$Changes" "total" "I"] ++ wsX00)
def wsX1_init : List Cond := .code yX1_init cX1_init 2 none :: ([.methodLink RX1 3 objectInit, .instanceMethod objectInit, .code objectInit ⟨#[0xb1]⟩ 1 none, .arrayClass .int, .fieldLink RX1 9 "PointStore$Disk" "logKeys" "[I", .fieldLink RX1 15 "PointStore$Disk" "logValues" "[I", .fieldLink RX1 18 "PointStore$Disk" "sealed" "I", .fieldLink RX1 22 "PointStore$Disk" "home" "LPointStore$Points;"] ++ wsX10)
def wsX1_writeLog : List Cond := .code yX1_writeLog cX1_writeLog 4 none :: ([.fieldLink RX1 26 "PointStore$Changes" "total" "I", .fieldLink RX1 31 "PointStore$Changes" "keys" "[I", .fieldLink RX1 9 "PointStore$Disk" "logKeys" "[I", .methodLink RX1 34 arraycopyName, .native arraycopyName, .static arraycopyName, .initialized "java/lang/System", .fieldLink RX1 40 "PointStore$Changes" "values" "[I", .fieldLink RX1 15 "PointStore$Disk" "logValues" "[I"] ++ wsX00 ++ wsX10)
def wsX1_seal : List Cond := .code yX1_seal cX1_seal 2 none :: ([.fieldLink RX1 18 "PointStore$Disk" "sealed" "I"] ++ wsX10)
def wsX2_clear : List Cond := .code yX2_clear cX2_clear 1 none :: ([.fieldLink RX2 18 "PointStore$Points" "total" "I", .fieldLink RX2 22 "PointStore$Points" "version" "I"] ++ wsX20)
def wsX2_placeOf : List Cond := .code yX2_placeOf cX2_placeOf 4 (some .int) :: ([.fieldLink RX2 18 "PointStore$Points" "total" "I", .fieldLink RX2 9 "PointStore$Points" "keys" "[I"] ++ wsX20)
def wsX2_keyAt : List Cond := .code yX2_keyAt cX2_keyAt 2 (some .int) :: ([.fieldLink RX2 18 "PointStore$Points" "total" "I", .fieldLink RX2 9 "PointStore$Points" "keys" "[I", .constant RX2 25 (1073741824)] ++ wsX20)
def wsX2_takeOut : List Cond := .code yX2_takeOut cX2_takeOut 3 none :: ([.fieldLink RX2 9 "PointStore$Points" "keys" "[I", .fieldLink RX2 18 "PointStore$Points" "total" "I", .methodLink RX2 37 arraycopyName, .native arraycopyName, .static arraycopyName, .initialized "java/lang/System", .fieldLink RX2 15 "PointStore$Points" "values" "[I", .fieldLink RX2 22 "PointStore$Points" "version" "I", .methodLink RX2 26 yX2_placeOf, .instanceMethod yX2_placeOf, .selects RX2 yX2_placeOf yX2_placeOf, .initialized RX2, .code yX2_placeOf cX2_placeOf 4 (some .int), .methodLink RX2 30 yX2_keyAt, .instanceMethod yX2_keyAt, .selects RX2 yX2_keyAt yX2_keyAt, .code yX2_keyAt cX2_keyAt 2 (some .int), .constant RX2 25 (1073741824)] ++ wsX20)
def wsX2_isFull : List Cond := .code yX2_isFull cX2_isFull 1 (some .boolean) :: ([.fieldLink RX2 18 "PointStore$Points" "total" "I"] ++ wsX20)
def wsX2_put : List Cond := .code yX2_put cX2_put 4 none :: ([.fieldLink RX2 9 "PointStore$Points" "keys" "[I", .fieldLink RX2 18 "PointStore$Points" "total" "I", .methodLink RX2 37 arraycopyName, .native arraycopyName, .static arraycopyName, .initialized "java/lang/System", .fieldLink RX2 15 "PointStore$Points" "values" "[I", .fieldLink RX2 22 "PointStore$Points" "version" "I", .methodLink RX2 26 yX2_placeOf, .instanceMethod yX2_placeOf, .selects RX2 yX2_placeOf yX2_placeOf, .initialized RX2, .code yX2_placeOf cX2_placeOf 4 (some .int), .methodLink RX2 30 yX2_keyAt, .instanceMethod yX2_keyAt, .selects RX2 yX2_keyAt yX2_keyAt, .code yX2_keyAt cX2_keyAt 2 (some .int), .constant RX2 25 (1073741824), .methodLink RX2 33 yX2_isFull, .instanceMethod yX2_isFull, .selects RX2 yX2_isFull yX2_isFull, .code yX2_isFull cX2_isFull 1 (some .boolean)] ++ wsX20)
def wsX1_writeAtHome_r1 : List Cond := [Cond.fieldLink RX1 22 "PointStore$Disk" "home" "LPointStore$Points;", Cond.methodLink RX1 47 yX2_clear, Cond.instanceMethod yX2_clear, Cond.selects RX2 yX2_clear yX2_clear, Cond.initialized RX2, Cond.code yX2_clear cX2_clear 1 none, Cond.fieldLink RX2 18 "PointStore$Points" "total" "I", Cond.fieldLink RX2 22 "PointStore$Points" "version" "I", Cond.methodLink RX1 52 yX2_takeOut, Cond.instanceMethod yX2_takeOut, Cond.selects RX2 yX2_takeOut yX2_takeOut, Cond.code yX2_takeOut cX2_takeOut 3 none, Cond.fieldLink RX2 9 "PointStore$Points" "keys" "[I", Cond.methodLink RX2 37 arraycopyName, Cond.native arraycopyName, Cond.static arraycopyName, Cond.initialized "java/lang/System", Cond.fieldLink RX2 15 "PointStore$Points" "values" "[I", Cond.methodLink RX2 26 yX2_placeOf, Cond.instanceMethod yX2_placeOf, Cond.selects RX2 yX2_placeOf yX2_placeOf, Cond.code yX2_placeOf cX2_placeOf 4 (some .int), Cond.methodLink RX2 30 yX2_keyAt, Cond.instanceMethod yX2_keyAt]
def wsX1_writeAtHome_r2 : List Cond := [Cond.selects RX2 yX2_keyAt yX2_keyAt, Cond.code yX2_keyAt cX2_keyAt 2 (some .int), Cond.constant RX2 25 (1073741824), Cond.methodLink RX1 56 yX2_put, Cond.instanceMethod yX2_put, Cond.selects RX2 yX2_put yX2_put, Cond.code yX2_put cX2_put 4 none, Cond.methodLink RX2 33 yX2_isFull, Cond.instanceMethod yX2_isFull, Cond.selects RX2 yX2_isFull yX2_isFull, Cond.code yX2_isFull cX2_isFull 1 (some .boolean)]
def wsX1_writeAtHome : List Cond := .code yX1_writeAtHome cX1_writeAtHome 3 none :: ((wsX1_writeAtHome_r1 ++ wsX1_writeAtHome_r2) ++ wsX10 ++ wsX20)
def wsX1_writeHome_r1 : List Cond := [Cond.fieldLink RX1 18 "PointStore$Disk" "sealed" "I", Cond.fieldLink RX1 9 "PointStore$Disk" "logKeys" "[I", Cond.fieldLink RX1 15 "PointStore$Disk" "logValues" "[I", Cond.methodLink RX1 43 yX1_writeAtHome, Cond.instanceMethod yX1_writeAtHome, Cond.selects RX1 yX1_writeAtHome yX1_writeAtHome, Cond.initialized RX1, Cond.code yX1_writeAtHome cX1_writeAtHome 3 none, Cond.fieldLink RX1 22 "PointStore$Disk" "home" "LPointStore$Points;", Cond.methodLink RX1 47 yX2_clear, Cond.instanceMethod yX2_clear, Cond.selects RX2 yX2_clear yX2_clear, Cond.initialized RX2, Cond.code yX2_clear cX2_clear 1 none, Cond.fieldLink RX2 18 "PointStore$Points" "total" "I", Cond.fieldLink RX2 22 "PointStore$Points" "version" "I", Cond.methodLink RX1 52 yX2_takeOut, Cond.instanceMethod yX2_takeOut, Cond.selects RX2 yX2_takeOut yX2_takeOut, Cond.code yX2_takeOut cX2_takeOut 3 none, Cond.fieldLink RX2 9 "PointStore$Points" "keys" "[I", Cond.methodLink RX2 37 arraycopyName, Cond.native arraycopyName, Cond.static arraycopyName]
def wsX1_writeHome_r2 : List Cond := [Cond.initialized "java/lang/System", Cond.fieldLink RX2 15 "PointStore$Points" "values" "[I", Cond.methodLink RX2 26 yX2_placeOf, Cond.instanceMethod yX2_placeOf, Cond.selects RX2 yX2_placeOf yX2_placeOf, Cond.code yX2_placeOf cX2_placeOf 4 (some .int), Cond.methodLink RX2 30 yX2_keyAt, Cond.instanceMethod yX2_keyAt, Cond.selects RX2 yX2_keyAt yX2_keyAt, Cond.code yX2_keyAt cX2_keyAt 2 (some .int), Cond.constant RX2 25 (1073741824), Cond.methodLink RX1 56 yX2_put, Cond.instanceMethod yX2_put, Cond.selects RX2 yX2_put yX2_put, Cond.code yX2_put cX2_put 4 none, Cond.methodLink RX2 33 yX2_isFull, Cond.instanceMethod yX2_isFull, Cond.selects RX2 yX2_isFull yX2_isFull, Cond.code yX2_isFull cX2_isFull 1 (some .boolean)]
def wsX1_writeHome : List Cond := .code yX1_writeHome cX1_writeHome 4 none :: ((wsX1_writeHome_r1 ++ wsX1_writeHome_r2) ++ wsX10 ++ wsX20)
def wsX1_end : List Cond := .code yX1_end cX1_end 1 none :: ([.fieldLink RX1 18 "PointStore$Disk" "sealed" "I"] ++ wsX10)
def wsX2_init : List Cond := .code yX2_init cX2_init 1 none :: ([.methodLink RX2 3 objectInit, .instanceMethod objectInit, .code objectInit ⟨#[0xb1]⟩ 1 none, .arrayClass .int, .fieldLink RX2 9 "PointStore$Points" "keys" "[I", .fieldLink RX2 15 "PointStore$Points" "values" "[I", .fieldLink RX2 18 "PointStore$Points" "total" "I", .fieldLink RX2 22 "PointStore$Points" "version" "I"] ++ wsX20)
def wsX2_valueOf : List Cond := .code yX2_valueOf cX2_valueOf 3 (some .int) :: ([.fieldLink RX2 15 "PointStore$Points" "values" "[I", .methodLink RX2 26 yX2_placeOf, .instanceMethod yX2_placeOf, .selects RX2 yX2_placeOf yX2_placeOf, .initialized RX2, .code yX2_placeOf cX2_placeOf 4 (some .int), .fieldLink RX2 18 "PointStore$Points" "total" "I", .fieldLink RX2 9 "PointStore$Points" "keys" "[I", .methodLink RX2 30 yX2_keyAt, .instanceMethod yX2_keyAt, .selects RX2 yX2_keyAt yX2_keyAt, .code yX2_keyAt cX2_keyAt 2 (some .int), .constant RX2 25 (1073741824)] ++ wsX20)
def wsX2_copyFrom : List Cond := .code yX2_copyFrom cX2_copyFrom 2 none :: ([.fieldLink RX2 9 "PointStore$Points" "keys" "[I", .fieldLink RX2 18 "PointStore$Points" "total" "I", .methodLink RX2 37 arraycopyName, .native arraycopyName, .static arraycopyName, .initialized "java/lang/System", .fieldLink RX2 15 "PointStore$Points" "values" "[I", .fieldLink RX2 22 "PointStore$Points" "version" "I"] ++ wsX20)
def wsX3_init : List Cond := .code yX3_init cX3_init 1 none :: ([.methodLink RX3 3 objectInit, .instanceMethod objectInit, .code objectInit ⟨#[0xb1]⟩ 1 none, .arrayClass .int, .fieldLink RX3 9 "PointStore$Results" "keys" "[I", .fieldLink RX3 15 "PointStore$Results" "values" "[I", .arrayClass .long, .fieldLink RX3 18 "PointStore$Results" "distances" "[J", .fieldLink RX3 22 "PointStore$Results" "total" "I"] ++ wsX30)
def wsX3_clear : List Cond := .code yX3_clear cX3_clear 1 none :: ([.fieldLink RX3 22 "PointStore$Results" "total" "I"] ++ wsX30)
def wsX3_add : List Cond := .code yX3_add cX3_add 3 none :: ([.fieldLink RX3 22 "PointStore$Results" "total" "I", .fieldLink RX3 9 "PointStore$Results" "keys" "[I", .fieldLink RX3 15 "PointStore$Results" "values" "[I"] ++ wsX30)
def wsX3_addByDistance : List Cond := .code yX3_addByDistance cX3_addByDistance 8 none :: ([.fieldLink RX3 22 "PointStore$Results" "total" "I", .fieldLink RX3 18 "PointStore$Results" "distances" "[J", .methodLink RX3 26 Lib.Math.min.name, .static Lib.Math.min.name, .initialized "java/lang/Math", .code Lib.Math.min.name Lib.Math.min.code 2 (some .int), .fieldLink RX3 9 "PointStore$Results" "keys" "[I", .methodLink RX3 32 arraycopyName, .native arraycopyName, .static arraycopyName, .initialized "java/lang/System", .fieldLink RX3 15 "PointStore$Results" "values" "[I"] ++ wsX30)
def wsX4_init : List Cond := .code yX4_init cX4_init 5 none :: ([.methodLink RX4 3 objectInit, .instanceMethod objectInit, .code objectInit ⟨#[0xb1]⟩ 1 none, .arrayClass .int, .fieldLink RX4 9 "PointStore$Tree" "order" "[I", .fieldLink RX4 15 "PointStore$Tree" "nodes" "I", .fieldLink RX4 19 "PointStore$Tree" "depth" "I", .fieldLink RX4 22 "PointStore$Tree" "madeOf" "I", .fieldLink RX4 25 "PointStore$Tree" "points" "LPointStore$Points;", .fieldLink RX4 29 "PointStore$Tree" "bucket" "I", .fieldLink RX4 32 "PointStore$Tree" "bits" "I", .fieldLink RX4 35 "PointStore$Tree" "mostNodes" "I", .fieldLink RX4 38 "PointStore$Tree" "facts" "[I"] ++ wsX40)
def wsX4_lowBitsOf : List Cond := .code yX4_lowBitsOf cX4_lowBitsOf 5 (some .int) :: ([.fieldLink RX4 25 "PointStore$Tree" "points" "LPointStore$Points;", .fieldLink RX4 72 "PointStore$Points" "values" "[I", .fieldLink RX4 9 "PointStore$Tree" "order" "[I", .constant RX4 75 (65535)] ++ wsX40 ++ wsX20)
def wsX5_keyOf : List Cond := .code yX5_keyOf cX5_keyOf 2 (some .int) :: ([])
def wsX4_gather : List Cond := .code yX4_gather cX4_gather 8 (some .int) :: ([.fieldLink RX4 9 "PointStore$Tree" "order" "[I", .fieldLink RX4 25 "PointStore$Tree" "points" "LPointStore$Points;", .fieldLink RX4 69 "PointStore$Points" "keys" "[I"] ++ wsX40 ++ wsX20)
def wsX4_grow_r1 : List Cond := [Cond.fieldLink RX4 32 "PointStore$Tree" "bits" "I", Cond.fieldLink RX4 15 "PointStore$Tree" "nodes" "I", Cond.fieldLink RX4 35 "PointStore$Tree" "mostNodes" "I", Cond.fieldLink RX4 19 "PointStore$Tree" "depth" "I", Cond.methodLink RX4 53 Lib.Math.max.name, Cond.static Lib.Math.max.name, Cond.initialized "java/lang/Math", Cond.code Lib.Math.max.name Lib.Math.max.code 2 (some .int), Cond.fieldLink RX4 38 "PointStore$Tree" "facts" "[I", Cond.fieldLink RX4 29 "PointStore$Tree" "bucket" "I", Cond.methodLink RX4 59 yX4_lowBitsOf, Cond.instanceMethod yX4_lowBitsOf, Cond.selects RX4 yX4_lowBitsOf yX4_lowBitsOf, Cond.initialized RX4, Cond.code yX4_lowBitsOf cX4_lowBitsOf 5 (some .int), Cond.fieldLink RX4 25 "PointStore$Tree" "points" "LPointStore$Points;", Cond.fieldLink RX4 72 "PointStore$Points" "values" "[I", Cond.fieldLink RX4 9 "PointStore$Tree" "order" "[I", Cond.constant RX4 75 (65535), Cond.static yX5_keyOf, Cond.initialized RX5, Cond.code yX5_keyOf cX5_keyOf 2 (some .int), Cond.methodLink RX4 65 yX4_gather, Cond.instanceMethod yX4_gather]
def wsX4_grow_r2 : List Cond := [Cond.selects RX4 yX4_gather yX4_gather, Cond.code yX4_gather cX4_gather 8 (some .int), Cond.fieldLink RX4 69 "PointStore$Points" "keys" "[I", Cond.methodLink RX4 49 yX4_grow, Cond.static yX4_grow]
def wsX4_grow : List Cond := .code yX4_grow cX4_grow 14 none :: ((wsX4_grow_r1 ++ wsX4_grow_r2) ++ wsX40 ++ wsX20)
def wsX4_upToDate_r1 : List Cond := [Cond.fieldLink RX4 22 "PointStore$Tree" "madeOf" "I", Cond.fieldLink RX4 25 "PointStore$Tree" "points" "LPointStore$Points;", Cond.fieldLink RX4 41 "PointStore$Points" "version" "I", Cond.fieldLink RX4 46 "PointStore$Points" "total" "I", Cond.fieldLink RX4 9 "PointStore$Tree" "order" "[I", Cond.fieldLink RX4 15 "PointStore$Tree" "nodes" "I", Cond.fieldLink RX4 19 "PointStore$Tree" "depth" "I", Cond.methodLink RX4 49 yX4_grow, Cond.static yX4_grow, Cond.initialized RX4, Cond.code yX4_grow cX4_grow 14 none, Cond.fieldLink RX4 32 "PointStore$Tree" "bits" "I", Cond.fieldLink RX4 35 "PointStore$Tree" "mostNodes" "I", Cond.methodLink RX4 53 Lib.Math.max.name, Cond.static Lib.Math.max.name, Cond.initialized "java/lang/Math", Cond.code Lib.Math.max.name Lib.Math.max.code 2 (some .int), Cond.fieldLink RX4 38 "PointStore$Tree" "facts" "[I", Cond.fieldLink RX4 29 "PointStore$Tree" "bucket" "I", Cond.methodLink RX4 59 yX4_lowBitsOf, Cond.instanceMethod yX4_lowBitsOf, Cond.selects RX4 yX4_lowBitsOf yX4_lowBitsOf, Cond.code yX4_lowBitsOf cX4_lowBitsOf 5 (some .int), Cond.fieldLink RX4 72 "PointStore$Points" "values" "[I"]
def wsX4_upToDate_r2 : List Cond := [Cond.constant RX4 75 (65535), Cond.static yX5_keyOf, Cond.initialized RX5, Cond.code yX5_keyOf cX5_keyOf 2 (some .int), Cond.methodLink RX4 65 yX4_gather, Cond.instanceMethod yX4_gather, Cond.selects RX4 yX4_gather yX4_gather, Cond.code yX4_gather cX4_gather 8 (some .int), Cond.fieldLink RX4 69 "PointStore$Points" "keys" "[I"]
def wsX4_upToDate : List Cond := .code yX4_upToDate cX4_upToDate 2 (some (.object "PointStore$Tree")) :: ((wsX4_upToDate_r1 ++ wsX4_upToDate_r2) ++ wsX40 ++ wsX20)
def wsX4_factOf : List Cond := .code yX4_factOf cX4_factOf 3 (some .int) :: ([.fieldLink RX4 15 "PointStore$Tree" "nodes" "I", .fieldLink RX4 38 "PointStore$Tree" "facts" "[I"] ++ wsX40)
def wsX5_fromOneTo : List Cond := .code yX5_fromOneTo cX5_fromOneTo 3 (some .int) :: ([])
def wsX5_init_r1 : List Cond := [Cond.methodLink RX5 3 objectInit, Cond.instanceMethod objectInit, Cond.code objectInit ⟨#[0xb1]⟩ 1 none, Cond.classLink RX5 13 RX2, Cond.instantiable RX2 4, Cond.initialized RX2, Cond.fieldLink RX5 16 "PointStore" "blocks" "I", Cond.fieldLink RX5 20 "PointStore" "bucket" "I", Cond.fieldLink RX5 23 "PointStore" "span" "I", Cond.classLink RX5 26 RX1, Cond.instantiable RX1 4, Cond.initialized RX1, Cond.fieldLink RX5 31 "PointStore" "disk" "LPointStore$Disk;", Cond.fieldLink RX5 35 "PointStore" "pending" "LPointStore$Points;", Cond.classLink RX5 39 RX4, Cond.instantiable RX4 9, Cond.initialized RX4, Cond.fieldLink RX5 44 "PointStore" "pendingTree" "LPointStore$Tree;", Cond.fieldLink RX5 48 "PointStore" "committedTree" "LPointStore$Tree;", Cond.classLink RX5 51 RX0, Cond.instantiable RX0 3, Cond.initialized RX0, Cond.fieldLink RX5 54 "PointStore" "changes" "LPointStore$Changes;", Cond.classLink RX5 58 RX3]
def wsX5_init_r2 : List Cond := [Cond.instantiable RX3 4, Cond.initialized RX3, Cond.fieldLink RX5 61 "PointStore" "results" "LPointStore$Results;", Cond.fieldLink RX5 65 "PointStore" "powered" "Z", Cond.fieldLink RX5 69 "PointStore" "cut" "I", Cond.fieldLink RX5 72 "PointStore" "cutParts" "I", Cond.methodLink RX5 9 yX5_fromOneTo, Cond.static yX5_fromOneTo, Cond.initialized RX5, Cond.code yX5_fromOneTo cX5_fromOneTo 3 (some .int), Cond.instanceMethod yX2_init, Cond.code yX2_init cX2_init 1 none, Cond.methodLink RX2 3 objectInit, Cond.arrayClass .int, Cond.fieldLink RX2 9 "PointStore$Points" "keys" "[I", Cond.fieldLink RX2 15 "PointStore$Points" "values" "[I", Cond.fieldLink RX2 18 "PointStore$Points" "total" "I", Cond.fieldLink RX2 22 "PointStore$Points" "version" "I", Cond.methodLink RX5 28 yX1_init, Cond.instanceMethod yX1_init, Cond.code yX1_init cX1_init 2 none, Cond.methodLink RX1 3 objectInit, Cond.fieldLink RX1 9 "PointStore$Disk" "logKeys" "[I", Cond.fieldLink RX1 15 "PointStore$Disk" "logValues" "[I"]
def wsX5_init_r3 : List Cond := [Cond.fieldLink RX1 18 "PointStore$Disk" "sealed" "I", Cond.fieldLink RX1 22 "PointStore$Disk" "home" "LPointStore$Points;", Cond.methodLink RX5 41 yX4_init, Cond.instanceMethod yX4_init, Cond.code yX4_init cX4_init 5 none, Cond.methodLink RX4 3 objectInit, Cond.fieldLink RX4 9 "PointStore$Tree" "order" "[I", Cond.fieldLink RX4 15 "PointStore$Tree" "nodes" "I", Cond.fieldLink RX4 19 "PointStore$Tree" "depth" "I", Cond.fieldLink RX4 22 "PointStore$Tree" "madeOf" "I", Cond.fieldLink RX4 25 "PointStore$Tree" "points" "LPointStore$Points;", Cond.fieldLink RX4 29 "PointStore$Tree" "bucket" "I", Cond.fieldLink RX4 32 "PointStore$Tree" "bits" "I", Cond.fieldLink RX4 35 "PointStore$Tree" "mostNodes" "I", Cond.fieldLink RX4 38 "PointStore$Tree" "facts" "[I", Cond.instanceMethod yX0_init, Cond.code yX0_init cX0_init 1 none, Cond.methodLink RX0 3 objectInit, Cond.fieldLink RX0 9 "PointStore$Changes" "keys" "[I", Cond.fieldLink RX0 15 "PointStore$Changes" "values" "[I", Cond.fieldLink RX0 18 "PointStore$Changes" "total" "I", Cond.instanceMethod yX3_init, Cond.code yX3_init cX3_init 1 none, Cond.methodLink RX3 3 objectInit]
def wsX5_init_r4 : List Cond := [Cond.fieldLink RX3 9 "PointStore$Results" "keys" "[I", Cond.fieldLink RX3 15 "PointStore$Results" "values" "[I", Cond.arrayClass .long, Cond.fieldLink RX3 18 "PointStore$Results" "distances" "[J", Cond.fieldLink RX3 22 "PointStore$Results" "total" "I"]
def wsX5_init : List Cond := .code yX5_init cX5_init 9 none :: ((wsX5_init_r1 ++ (wsX5_init_r2 ++ (wsX5_init_r3 ++ wsX5_init_r4))) ++ wsX20 ++ wsX50 ++ wsX10 ++ wsX40 ++ wsX00 ++ wsX30)
def wsX5_isOnPlane : List Cond := .code yX5_isOnPlane cX5_isOnPlane 3 (some .boolean) :: ([.fieldLink RX5 23 "PointStore" "span" "I"] ++ wsX50)
def wsX5_comesIn_r1 : List Cond := [Cond.fieldLink RX5 35 "PointStore" "pending" "LPointStore$Points;", Cond.fieldLink RX5 44 "PointStore" "pendingTree" "LPointStore$Tree;", Cond.fieldLink RX5 191 "PointStore$Tree" "nodes" "I", Cond.fieldLink RX5 16 "PointStore" "blocks" "I", Cond.methodLink RX5 197 yX2_isFull, Cond.instanceMethod yX2_isFull, Cond.selects RX2 yX2_isFull yX2_isFull, Cond.initialized RX2, Cond.code yX2_isFull cX2_isFull 1 (some .boolean), Cond.fieldLink RX2 18 "PointStore$Points" "total" "I", Cond.methodLink RX5 91 yX2_put, Cond.instanceMethod yX2_put, Cond.selects RX2 yX2_put yX2_put, Cond.code yX2_put cX2_put 4 none, Cond.fieldLink RX2 9 "PointStore$Points" "keys" "[I", Cond.methodLink RX2 37 arraycopyName, Cond.native arraycopyName, Cond.static arraycopyName, Cond.initialized "java/lang/System", Cond.fieldLink RX2 15 "PointStore$Points" "values" "[I", Cond.fieldLink RX2 22 "PointStore$Points" "version" "I", Cond.methodLink RX2 26 yX2_placeOf, Cond.instanceMethod yX2_placeOf, Cond.selects RX2 yX2_placeOf yX2_placeOf]
def wsX5_comesIn_r2 : List Cond := [Cond.code yX2_placeOf cX2_placeOf 4 (some .int), Cond.methodLink RX2 30 yX2_keyAt, Cond.instanceMethod yX2_keyAt, Cond.selects RX2 yX2_keyAt yX2_keyAt, Cond.code yX2_keyAt cX2_keyAt 2 (some .int), Cond.constant RX2 25 (1073741824), Cond.methodLink RX2 33 yX2_isFull, Cond.methodLink RX5 184 yX4_upToDate, Cond.instanceMethod yX4_upToDate, Cond.selects RX4 yX4_upToDate yX4_upToDate, Cond.initialized RX4, Cond.code yX4_upToDate cX4_upToDate 2 (some (.object "PointStore$Tree")), Cond.fieldLink RX4 22 "PointStore$Tree" "madeOf" "I", Cond.fieldLink RX4 25 "PointStore$Tree" "points" "LPointStore$Points;", Cond.fieldLink RX4 41 "PointStore$Points" "version" "I", Cond.fieldLink RX4 46 "PointStore$Points" "total" "I", Cond.fieldLink RX4 9 "PointStore$Tree" "order" "[I", Cond.fieldLink RX4 15 "PointStore$Tree" "nodes" "I", Cond.fieldLink RX4 19 "PointStore$Tree" "depth" "I", Cond.methodLink RX4 49 yX4_grow, Cond.static yX4_grow, Cond.code yX4_grow cX4_grow 14 none, Cond.fieldLink RX4 32 "PointStore$Tree" "bits" "I", Cond.fieldLink RX4 35 "PointStore$Tree" "mostNodes" "I"]
def wsX5_comesIn_r3 : List Cond := [Cond.methodLink RX4 53 Lib.Math.max.name, Cond.static Lib.Math.max.name, Cond.initialized "java/lang/Math", Cond.code Lib.Math.max.name Lib.Math.max.code 2 (some .int), Cond.fieldLink RX4 38 "PointStore$Tree" "facts" "[I", Cond.fieldLink RX4 29 "PointStore$Tree" "bucket" "I", Cond.methodLink RX4 59 yX4_lowBitsOf, Cond.instanceMethod yX4_lowBitsOf, Cond.selects RX4 yX4_lowBitsOf yX4_lowBitsOf, Cond.code yX4_lowBitsOf cX4_lowBitsOf 5 (some .int), Cond.fieldLink RX4 72 "PointStore$Points" "values" "[I", Cond.constant RX4 75 (65535), Cond.static yX5_keyOf, Cond.initialized RX5, Cond.code yX5_keyOf cX5_keyOf 2 (some .int), Cond.methodLink RX4 65 yX4_gather, Cond.instanceMethod yX4_gather, Cond.selects RX4 yX4_gather yX4_gather, Cond.code yX4_gather cX4_gather 8 (some .int), Cond.fieldLink RX4 69 "PointStore$Points" "keys" "[I", Cond.methodLink RX5 101 yX2_takeOut, Cond.instanceMethod yX2_takeOut, Cond.selects RX2 yX2_takeOut yX2_takeOut, Cond.code yX2_takeOut cX2_takeOut 3 none]
def wsX5_comesIn : List Cond := .code yX5_comesIn cX5_comesIn 3 (some .boolean) :: ((wsX5_comesIn_r1 ++ (wsX5_comesIn_r2 ++ wsX5_comesIn_r3)) ++ wsX50 ++ wsX40 ++ wsX20)
def wsX5_insert_r1 : List Cond := [Cond.fieldLink RX5 65 "PointStore" "powered" "Z", Cond.fieldLink RX5 54 "PointStore" "changes" "LPointStore$Changes;", Cond.fieldLink RX5 35 "PointStore" "pending" "LPointStore$Points;", Cond.methodLink RX5 75 yX5_isOnPlane, Cond.instanceMethod yX5_isOnPlane, Cond.selects RX5 yX5_isOnPlane yX5_isOnPlane, Cond.initialized RX5, Cond.code yX5_isOnPlane cX5_isOnPlane 3 (some .boolean), Cond.fieldLink RX5 23 "PointStore" "span" "I", Cond.methodLink RX5 79 yX0_isFull, Cond.instanceMethod yX0_isFull, Cond.selects RX0 yX0_isFull yX0_isFull, Cond.initialized RX0, Cond.code yX0_isFull cX0_isFull 1 (some .boolean), Cond.fieldLink RX0 18 "PointStore$Changes" "total" "I", Cond.methodLink RX5 83 yX5_keyOf, Cond.static yX5_keyOf, Cond.code yX5_keyOf cX5_keyOf 2 (some .int), Cond.methodLink RX5 87 yX2_valueOf, Cond.instanceMethod yX2_valueOf, Cond.selects RX2 yX2_valueOf yX2_valueOf, Cond.initialized RX2, Cond.code yX2_valueOf cX2_valueOf 3 (some .int), Cond.fieldLink RX2 15 "PointStore$Points" "values" "[I"]
def wsX5_insert_r2 : List Cond := [Cond.methodLink RX2 26 yX2_placeOf, Cond.instanceMethod yX2_placeOf, Cond.selects RX2 yX2_placeOf yX2_placeOf, Cond.code yX2_placeOf cX2_placeOf 4 (some .int), Cond.fieldLink RX2 18 "PointStore$Points" "total" "I", Cond.fieldLink RX2 9 "PointStore$Points" "keys" "[I", Cond.methodLink RX2 30 yX2_keyAt, Cond.instanceMethod yX2_keyAt, Cond.selects RX2 yX2_keyAt yX2_keyAt, Cond.code yX2_keyAt cX2_keyAt 2 (some .int), Cond.constant RX2 25 (1073741824), Cond.methodLink RX5 91 yX2_put, Cond.instanceMethod yX2_put, Cond.selects RX2 yX2_put yX2_put, Cond.code yX2_put cX2_put 4 none, Cond.methodLink RX2 37 arraycopyName, Cond.native arraycopyName, Cond.static arraycopyName, Cond.initialized "java/lang/System", Cond.fieldLink RX2 22 "PointStore$Points" "version" "I", Cond.methodLink RX2 33 yX2_isFull, Cond.instanceMethod yX2_isFull, Cond.selects RX2 yX2_isFull yX2_isFull, Cond.code yX2_isFull cX2_isFull 1 (some .boolean)]
def wsX5_insert_r3 : List Cond := [Cond.methodLink RX5 95 yX5_comesIn, Cond.instanceMethod yX5_comesIn, Cond.selects RX5 yX5_comesIn yX5_comesIn, Cond.code yX5_comesIn cX5_comesIn 3 (some .boolean), Cond.fieldLink RX5 44 "PointStore" "pendingTree" "LPointStore$Tree;", Cond.fieldLink RX5 191 "PointStore$Tree" "nodes" "I", Cond.fieldLink RX5 16 "PointStore" "blocks" "I", Cond.methodLink RX5 197 yX2_isFull, Cond.methodLink RX5 184 yX4_upToDate, Cond.instanceMethod yX4_upToDate, Cond.selects RX4 yX4_upToDate yX4_upToDate, Cond.initialized RX4, Cond.code yX4_upToDate cX4_upToDate 2 (some (.object "PointStore$Tree")), Cond.fieldLink RX4 22 "PointStore$Tree" "madeOf" "I", Cond.fieldLink RX4 25 "PointStore$Tree" "points" "LPointStore$Points;", Cond.fieldLink RX4 41 "PointStore$Points" "version" "I", Cond.fieldLink RX4 46 "PointStore$Points" "total" "I", Cond.fieldLink RX4 9 "PointStore$Tree" "order" "[I", Cond.fieldLink RX4 15 "PointStore$Tree" "nodes" "I", Cond.fieldLink RX4 19 "PointStore$Tree" "depth" "I", Cond.methodLink RX4 49 yX4_grow, Cond.static yX4_grow, Cond.code yX4_grow cX4_grow 14 none, Cond.fieldLink RX4 32 "PointStore$Tree" "bits" "I"]
def wsX5_insert_r4 : List Cond := [Cond.fieldLink RX4 35 "PointStore$Tree" "mostNodes" "I", Cond.methodLink RX4 53 Lib.Math.max.name, Cond.static Lib.Math.max.name, Cond.initialized "java/lang/Math", Cond.code Lib.Math.max.name Lib.Math.max.code 2 (some .int), Cond.fieldLink RX4 38 "PointStore$Tree" "facts" "[I", Cond.fieldLink RX4 29 "PointStore$Tree" "bucket" "I", Cond.methodLink RX4 59 yX4_lowBitsOf, Cond.instanceMethod yX4_lowBitsOf, Cond.selects RX4 yX4_lowBitsOf yX4_lowBitsOf, Cond.code yX4_lowBitsOf cX4_lowBitsOf 5 (some .int), Cond.fieldLink RX4 72 "PointStore$Points" "values" "[I", Cond.constant RX4 75 (65535), Cond.methodLink RX4 65 yX4_gather, Cond.instanceMethod yX4_gather, Cond.selects RX4 yX4_gather yX4_gather, Cond.code yX4_gather cX4_gather 8 (some .int), Cond.fieldLink RX4 69 "PointStore$Points" "keys" "[I", Cond.methodLink RX5 101 yX2_takeOut, Cond.instanceMethod yX2_takeOut, Cond.selects RX2 yX2_takeOut yX2_takeOut, Cond.code yX2_takeOut cX2_takeOut 3 none, Cond.methodLink RX5 98 yX0_add, Cond.instanceMethod yX0_add]
def wsX5_insert_r5 : List Cond := [Cond.selects RX0 yX0_add yX0_add, Cond.code yX0_add cX0_add 3 none, Cond.fieldLink RX0 9 "PointStore$Changes" "keys" "[I", Cond.fieldLink RX0 15 "PointStore$Changes" "values" "[I", Cond.methodLink RX0 22 yX0_isFull]
def wsX5_insert : List Cond := .code yX5_insert cX5_insert 6 (some .int) :: ((wsX5_insert_r1 ++ (wsX5_insert_r2 ++ (wsX5_insert_r3 ++ (wsX5_insert_r4 ++ wsX5_insert_r5)))) ++ wsX50 ++ wsX00 ++ wsX20 ++ wsX40)
def wsX5_delete_r1 : List Cond := [Cond.fieldLink RX5 65 "PointStore" "powered" "Z", Cond.fieldLink RX5 35 "PointStore" "pending" "LPointStore$Points;", Cond.fieldLink RX5 54 "PointStore" "changes" "LPointStore$Changes;", Cond.methodLink RX5 75 yX5_isOnPlane, Cond.instanceMethod yX5_isOnPlane, Cond.selects RX5 yX5_isOnPlane yX5_isOnPlane, Cond.initialized RX5, Cond.code yX5_isOnPlane cX5_isOnPlane 3 (some .boolean), Cond.fieldLink RX5 23 "PointStore" "span" "I", Cond.methodLink RX5 83 yX5_keyOf, Cond.static yX5_keyOf, Cond.code yX5_keyOf cX5_keyOf 2 (some .int), Cond.methodLink RX5 87 yX2_valueOf, Cond.instanceMethod yX2_valueOf, Cond.selects RX2 yX2_valueOf yX2_valueOf, Cond.initialized RX2, Cond.code yX2_valueOf cX2_valueOf 3 (some .int), Cond.fieldLink RX2 15 "PointStore$Points" "values" "[I", Cond.methodLink RX2 26 yX2_placeOf, Cond.instanceMethod yX2_placeOf, Cond.selects RX2 yX2_placeOf yX2_placeOf, Cond.code yX2_placeOf cX2_placeOf 4 (some .int), Cond.fieldLink RX2 18 "PointStore$Points" "total" "I", Cond.fieldLink RX2 9 "PointStore$Points" "keys" "[I"]
def wsX5_delete_r2 : List Cond := [Cond.methodLink RX2 30 yX2_keyAt, Cond.instanceMethod yX2_keyAt, Cond.selects RX2 yX2_keyAt yX2_keyAt, Cond.code yX2_keyAt cX2_keyAt 2 (some .int), Cond.constant RX2 25 (1073741824), Cond.methodLink RX5 79 yX0_isFull, Cond.instanceMethod yX0_isFull, Cond.selects RX0 yX0_isFull yX0_isFull, Cond.initialized RX0, Cond.code yX0_isFull cX0_isFull 1 (some .boolean), Cond.fieldLink RX0 18 "PointStore$Changes" "total" "I", Cond.methodLink RX5 101 yX2_takeOut, Cond.instanceMethod yX2_takeOut, Cond.selects RX2 yX2_takeOut yX2_takeOut, Cond.code yX2_takeOut cX2_takeOut 3 none, Cond.methodLink RX2 37 arraycopyName, Cond.native arraycopyName, Cond.static arraycopyName, Cond.initialized "java/lang/System", Cond.fieldLink RX2 22 "PointStore$Points" "version" "I", Cond.methodLink RX5 98 yX0_add, Cond.instanceMethod yX0_add, Cond.selects RX0 yX0_add yX0_add, Cond.code yX0_add cX0_add 3 none]
def wsX5_delete_r3 : List Cond := [Cond.fieldLink RX0 9 "PointStore$Changes" "keys" "[I", Cond.fieldLink RX0 15 "PointStore$Changes" "values" "[I", Cond.methodLink RX0 22 yX0_isFull]
def wsX5_delete : List Cond := .code yX5_delete cX5_delete 4 (some .int) :: ((wsX5_delete_r1 ++ (wsX5_delete_r2 ++ wsX5_delete_r3)) ++ wsX50 ++ wsX20 ++ wsX00)
def wsX5_pointsOf : List Cond := .code yX5_pointsOf cX5_pointsOf 2 (some (.object "PointStore$Points")) :: ([.fieldLink RX5 35 "PointStore" "pending" "LPointStore$Points;", .fieldLink RX5 31 "PointStore" "disk" "LPointStore$Disk;", .fieldLink RX5 140 "PointStore$Disk" "home" "LPointStore$Points;"] ++ wsX50 ++ wsX10)
def wsX5_get_r1 : List Cond := [Cond.fieldLink RX5 65 "PointStore" "powered" "Z", Cond.methodLink RX5 105 yX5_pointsOf, Cond.instanceMethod yX5_pointsOf, Cond.selects RX5 yX5_pointsOf yX5_pointsOf, Cond.initialized RX5, Cond.code yX5_pointsOf cX5_pointsOf 2 (some (.object "PointStore$Points")), Cond.fieldLink RX5 35 "PointStore" "pending" "LPointStore$Points;", Cond.fieldLink RX5 31 "PointStore" "disk" "LPointStore$Disk;", Cond.fieldLink RX5 140 "PointStore$Disk" "home" "LPointStore$Points;", Cond.methodLink RX5 75 yX5_isOnPlane, Cond.instanceMethod yX5_isOnPlane, Cond.selects RX5 yX5_isOnPlane yX5_isOnPlane, Cond.code yX5_isOnPlane cX5_isOnPlane 3 (some .boolean), Cond.fieldLink RX5 23 "PointStore" "span" "I", Cond.methodLink RX5 83 yX5_keyOf, Cond.static yX5_keyOf, Cond.code yX5_keyOf cX5_keyOf 2 (some .int), Cond.methodLink RX5 87 yX2_valueOf, Cond.instanceMethod yX2_valueOf, Cond.selects RX2 yX2_valueOf yX2_valueOf, Cond.initialized RX2, Cond.code yX2_valueOf cX2_valueOf 3 (some .int), Cond.fieldLink RX2 15 "PointStore$Points" "values" "[I", Cond.methodLink RX2 26 yX2_placeOf]
def wsX5_get_r2 : List Cond := [Cond.instanceMethod yX2_placeOf, Cond.selects RX2 yX2_placeOf yX2_placeOf, Cond.code yX2_placeOf cX2_placeOf 4 (some .int), Cond.fieldLink RX2 18 "PointStore$Points" "total" "I", Cond.fieldLink RX2 9 "PointStore$Points" "keys" "[I", Cond.methodLink RX2 30 yX2_keyAt, Cond.instanceMethod yX2_keyAt, Cond.selects RX2 yX2_keyAt yX2_keyAt, Cond.code yX2_keyAt cX2_keyAt 2 (some .int), Cond.constant RX2 25 (1073741824)]
def wsX5_get : List Cond := .code yX5_get cX5_get 5 (some .int) :: ((wsX5_get_r1 ++ wsX5_get_r2) ++ wsX50 ++ wsX10 ++ wsX20)
def wsX5_xOf : List Cond := .code yX5_xOf cX5_xOf 1 (some .int) :: ([])
def wsX5_yOf : List Cond := .code yX5_yOf cX5_yOf 1 (some .int) :: ([])
def wsX5_isWithin : List Cond := .code yX5_isWithin cX5_isWithin 7 (some .boolean) :: ([.methodLink RX5 153 yX5_xOf, .static yX5_xOf, .initialized RX5, .code yX5_xOf cX5_xOf 1 (some .int), .methodLink RX5 156 yX5_yOf, .static yX5_yOf, .code yX5_yOf cX5_yOf 1 (some .int)])
def wsX5_window_r1 : List Cond := [Cond.fieldLink RX5 65 "PointStore" "powered" "Z", Cond.fieldLink RX5 61 "PointStore" "results" "LPointStore$Results;", Cond.fieldLink RX5 112 "PointStore$Points" "total" "I", Cond.fieldLink RX5 115 "PointStore$Points" "keys" "[I", Cond.fieldLink RX5 123 "PointStore$Points" "values" "[I", Cond.methodLink RX5 105 yX5_pointsOf, Cond.instanceMethod yX5_pointsOf, Cond.selects RX5 yX5_pointsOf yX5_pointsOf, Cond.initialized RX5, Cond.code yX5_pointsOf cX5_pointsOf 2 (some (.object "PointStore$Points")), Cond.fieldLink RX5 35 "PointStore" "pending" "LPointStore$Points;", Cond.fieldLink RX5 31 "PointStore" "disk" "LPointStore$Disk;", Cond.fieldLink RX5 140 "PointStore$Disk" "home" "LPointStore$Points;", Cond.methodLink RX5 109 yX3_clear, Cond.instanceMethod yX3_clear, Cond.selects RX3 yX3_clear yX3_clear, Cond.initialized RX3, Cond.code yX3_clear cX3_clear 1 none, Cond.fieldLink RX3 22 "PointStore$Results" "total" "I", Cond.methodLink RX5 119 yX5_isWithin, Cond.static yX5_isWithin, Cond.code yX5_isWithin cX5_isWithin 7 (some .boolean), Cond.methodLink RX5 153 yX5_xOf, Cond.static yX5_xOf]
def wsX5_window_r2 : List Cond := [Cond.code yX5_xOf cX5_xOf 1 (some .int), Cond.methodLink RX5 156 yX5_yOf, Cond.static yX5_yOf, Cond.code yX5_yOf cX5_yOf 1 (some .int), Cond.methodLink RX5 126 yX3_add, Cond.instanceMethod yX3_add, Cond.selects RX3 yX3_add yX3_add, Cond.code yX3_add cX3_add 3 none, Cond.fieldLink RX3 9 "PointStore$Results" "keys" "[I", Cond.fieldLink RX3 15 "PointStore$Results" "values" "[I"]
def wsX5_window : List Cond := .code yX5_window cX5_window 9 (some .int) :: ((wsX5_window_r1 ++ wsX5_window_r2) ++ wsX50 ++ wsX20 ++ wsX10 ++ wsX30)
def wsX5_isPlace : List Cond := .code yX5_isPlace cX5_isPlace 1 (some .boolean) :: ([.constant RX5 205 (65535)])
def wsX5_distance : List Cond := .code yX5_distance cX5_distance 7 (some .long) :: ([.methodLink RX5 153 yX5_xOf, .static yX5_xOf, .initialized RX5, .code yX5_xOf cX5_xOf 1 (some .int), .methodLink RX5 156 yX5_yOf, .static yX5_yOf, .code yX5_yOf cX5_yOf 1 (some .int)])
def wsX5_nearest_r1 : List Cond := [Cond.fieldLink RX5 65 "PointStore" "powered" "Z", Cond.fieldLink RX5 61 "PointStore" "results" "LPointStore$Results;", Cond.fieldLink RX5 112 "PointStore$Points" "total" "I", Cond.fieldLink RX5 115 "PointStore$Points" "keys" "[I", Cond.fieldLink RX5 123 "PointStore$Points" "values" "[I", Cond.fieldLink RX5 139 "PointStore$Results" "total" "I", Cond.methodLink RX5 105 yX5_pointsOf, Cond.instanceMethod yX5_pointsOf, Cond.selects RX5 yX5_pointsOf yX5_pointsOf, Cond.initialized RX5, Cond.code yX5_pointsOf cX5_pointsOf 2 (some (.object "PointStore$Points")), Cond.fieldLink RX5 35 "PointStore" "pending" "LPointStore$Points;", Cond.fieldLink RX5 31 "PointStore" "disk" "LPointStore$Disk;", Cond.fieldLink RX5 140 "PointStore$Disk" "home" "LPointStore$Points;", Cond.methodLink RX5 127 yX5_isPlace, Cond.static yX5_isPlace, Cond.code yX5_isPlace cX5_isPlace 1 (some .boolean), Cond.constant RX5 205 (65535), Cond.methodLink RX5 109 yX3_clear, Cond.instanceMethod yX3_clear, Cond.selects RX3 yX3_clear yX3_clear, Cond.initialized RX3, Cond.code yX3_clear cX3_clear 1 none, Cond.fieldLink RX3 22 "PointStore$Results" "total" "I"]
def wsX5_nearest_r2 : List Cond := [Cond.methodLink RX5 131 yX5_distance, Cond.static yX5_distance, Cond.code yX5_distance cX5_distance 7 (some .long), Cond.methodLink RX5 153 yX5_xOf, Cond.static yX5_xOf, Cond.code yX5_xOf cX5_xOf 1 (some .int), Cond.methodLink RX5 156 yX5_yOf, Cond.static yX5_yOf, Cond.code yX5_yOf cX5_yOf 1 (some .int), Cond.methodLink RX5 135 yX3_addByDistance, Cond.instanceMethod yX3_addByDistance, Cond.selects RX3 yX3_addByDistance yX3_addByDistance, Cond.code yX3_addByDistance cX3_addByDistance 8 none, Cond.fieldLink RX3 18 "PointStore$Results" "distances" "[J", Cond.methodLink RX3 26 Lib.Math.min.name, Cond.static Lib.Math.min.name, Cond.initialized "java/lang/Math", Cond.code Lib.Math.min.name Lib.Math.min.code 2 (some .int), Cond.fieldLink RX3 9 "PointStore$Results" "keys" "[I", Cond.methodLink RX3 32 arraycopyName, Cond.native arraycopyName, Cond.static arraycopyName, Cond.initialized "java/lang/System", Cond.fieldLink RX3 15 "PointStore$Results" "values" "[I"]
def wsX5_nearest : List Cond := .code yX5_nearest cX5_nearest 8 (some .int) :: ((wsX5_nearest_r1 ++ wsX5_nearest_r2) ++ wsX50 ++ wsX20 ++ wsX30 ++ wsX10)
def wsX5_differs_r1 : List Cond := [Cond.fieldLink RX5 65 "PointStore" "powered" "Z", Cond.fieldLink RX5 31 "PointStore" "disk" "LPointStore$Disk;", Cond.fieldLink RX5 140 "PointStore$Disk" "home" "LPointStore$Points;", Cond.fieldLink RX5 61 "PointStore" "results" "LPointStore$Results;", Cond.fieldLink RX5 35 "PointStore" "pending" "LPointStore$Points;", Cond.fieldLink RX5 112 "PointStore$Points" "total" "I", Cond.methodLink RX5 146 Lib.Math.min.name, Cond.static Lib.Math.min.name, Cond.initialized "java/lang/Math", Cond.code Lib.Math.min.name Lib.Math.min.code 2 (some .int), Cond.constant RX5 151 (1073741824), Cond.fieldLink RX5 123 "PointStore$Points" "values" "[I", Cond.methodLink RX5 109 yX3_clear, Cond.instanceMethod yX3_clear, Cond.selects RX3 yX3_clear yX3_clear, Cond.initialized RX3, Cond.code yX3_clear cX3_clear 1 none, Cond.fieldLink RX3 22 "PointStore$Results" "total" "I", Cond.methodLink RX5 143 yX2_keyAt, Cond.instanceMethod yX2_keyAt, Cond.selects RX2 yX2_keyAt yX2_keyAt, Cond.initialized RX2, Cond.code yX2_keyAt cX2_keyAt 2 (some .int), Cond.fieldLink RX2 18 "PointStore$Points" "total" "I"]
def wsX5_differs_r2 : List Cond := [Cond.fieldLink RX2 9 "PointStore$Points" "keys" "[I", Cond.constant RX2 25 (1073741824), Cond.methodLink RX5 126 yX3_add, Cond.instanceMethod yX3_add, Cond.selects RX3 yX3_add yX3_add, Cond.code yX3_add cX3_add 3 none, Cond.fieldLink RX3 9 "PointStore$Results" "keys" "[I", Cond.fieldLink RX3 15 "PointStore$Results" "values" "[I"]
def wsX5_differs : List Cond := .code yX5_differs cX5_differs 10 (some .int) :: ((wsX5_differs_r1 ++ wsX5_differs_r2) ++ wsX50 ++ wsX10 ++ wsX20 ++ wsX30)
def wsX5_result : List Cond := .code yX5_result cX5_result 3 (some .int) :: ([.fieldLink RX5 61 "PointStore" "results" "LPointStore$Results;", .fieldLink RX5 139 "PointStore$Results" "total" "I", .fieldLink RX5 152 "PointStore$Results" "keys" "[I", .fieldLink RX5 159 "PointStore$Results" "values" "[I", .methodLink RX5 153 yX5_xOf, .static yX5_xOf, .initialized RX5, .code yX5_xOf cX5_xOf 1 (some .int), .methodLink RX5 156 yX5_yOf, .static yX5_yOf, .code yX5_yOf cX5_yOf 1 (some .int)] ++ wsX50 ++ wsX30)
def wsX5_size : List Cond := .code yX5_size cX5_size 1 (some .int) :: ([.fieldLink RX5 61 "PointStore" "results" "LPointStore$Results;", .fieldLink RX5 139 "PointStore$Results" "total" "I"] ++ wsX50 ++ wsX30)
def wsX5_sum : List Cond := .code yX5_sum cX5_sum 10 (some .long) :: ([.fieldLink RX5 65 "PointStore" "powered" "Z", .constantLong RX5 160 (-2), .fieldLink RX5 112 "PointStore$Points" "total" "I", .fieldLink RX5 115 "PointStore$Points" "keys" "[I", .fieldLink RX5 123 "PointStore$Points" "values" "[I", .methodLink RX5 105 yX5_pointsOf, .instanceMethod yX5_pointsOf, .selects RX5 yX5_pointsOf yX5_pointsOf, .initialized RX5, .code yX5_pointsOf cX5_pointsOf 2 (some (.object "PointStore$Points")), .fieldLink RX5 35 "PointStore" "pending" "LPointStore$Points;", .fieldLink RX5 31 "PointStore" "disk" "LPointStore$Disk;", .fieldLink RX5 140 "PointStore$Disk" "home" "LPointStore$Points;", .methodLink RX5 119 yX5_isWithin, .static yX5_isWithin, .code yX5_isWithin cX5_isWithin 7 (some .boolean), .methodLink RX5 153 yX5_xOf, .static yX5_xOf, .code yX5_xOf cX5_xOf 1 (some .int), .methodLink RX5 156 yX5_yOf, .static yX5_yOf, .code yX5_yOf cX5_yOf 1 (some .int)] ++ wsX50 ++ wsX20 ++ wsX10)
def wsX5_losePower : List Cond := .code yX5_losePower cX5_losePower 1 none :: ([.fieldLink RX5 65 "PointStore" "powered" "Z", .fieldLink RX5 69 "PointStore" "cut" "I", .fieldLink RX5 35 "PointStore" "pending" "LPointStore$Points;", .fieldLink RX5 54 "PointStore" "changes" "LPointStore$Changes;", .fieldLink RX5 61 "PointStore" "results" "LPointStore$Results;", .methodLink RX5 170 yX2_clear, .instanceMethod yX2_clear, .selects RX2 yX2_clear yX2_clear, .initialized RX2, .code yX2_clear cX2_clear 1 none, .fieldLink RX2 18 "PointStore$Points" "total" "I", .fieldLink RX2 22 "PointStore$Points" "version" "I", .methodLink RX5 166 yX0_clear, .instanceMethod yX0_clear, .selects RX0 yX0_clear yX0_clear, .initialized RX0, .code yX0_clear cX0_clear 1 none, .fieldLink RX0 18 "PointStore$Changes" "total" "I", .methodLink RX5 109 yX3_clear, .instanceMethod yX3_clear, .selects RX3 yX3_clear yX3_clear, .initialized RX3, .code yX3_clear cX3_clear 1 none, .fieldLink RX3 22 "PointStore$Results" "total" "I"] ++ wsX50 ++ wsX20 ++ wsX00 ++ wsX30)
def wsX5_writeChanges_r1 : List Cond := [Cond.fieldLink RX5 69 "PointStore" "cut" "I", Cond.fieldLink RX5 31 "PointStore" "disk" "LPointStore$Disk;", Cond.fieldLink RX5 54 "PointStore" "changes" "LPointStore$Changes;", Cond.fieldLink RX5 72 "PointStore" "cutParts" "I", Cond.fieldLink RX5 162 "PointStore$Changes" "total" "I", Cond.methodLink RX5 198 yX1_writeLog, Cond.instanceMethod yX1_writeLog, Cond.selects RX1 yX1_writeLog yX1_writeLog, Cond.initialized RX1, Cond.code yX1_writeLog cX1_writeLog 4 none, Cond.fieldLink RX1 26 "PointStore$Changes" "total" "I", Cond.fieldLink RX1 31 "PointStore$Changes" "keys" "[I", Cond.fieldLink RX1 9 "PointStore$Disk" "logKeys" "[I", Cond.methodLink RX1 34 arraycopyName, Cond.native arraycopyName, Cond.static arraycopyName, Cond.initialized "java/lang/System", Cond.fieldLink RX1 40 "PointStore$Changes" "values" "[I", Cond.fieldLink RX1 15 "PointStore$Disk" "logValues" "[I", Cond.methodLink RX5 174 yX5_losePower, Cond.instanceMethod yX5_losePower, Cond.selects RX5 yX5_losePower yX5_losePower, Cond.initialized RX5, Cond.code yX5_losePower cX5_losePower 1 none]
def wsX5_writeChanges_r2 : List Cond := [Cond.fieldLink RX5 65 "PointStore" "powered" "Z", Cond.fieldLink RX5 35 "PointStore" "pending" "LPointStore$Points;", Cond.fieldLink RX5 61 "PointStore" "results" "LPointStore$Results;", Cond.methodLink RX5 170 yX2_clear, Cond.instanceMethod yX2_clear, Cond.selects RX2 yX2_clear yX2_clear, Cond.initialized RX2, Cond.code yX2_clear cX2_clear 1 none, Cond.fieldLink RX2 18 "PointStore$Points" "total" "I", Cond.fieldLink RX2 22 "PointStore$Points" "version" "I", Cond.methodLink RX5 166 yX0_clear, Cond.instanceMethod yX0_clear, Cond.selects RX0 yX0_clear yX0_clear, Cond.initialized RX0, Cond.code yX0_clear cX0_clear 1 none, Cond.fieldLink RX0 18 "PointStore$Changes" "total" "I", Cond.methodLink RX5 109 yX3_clear, Cond.instanceMethod yX3_clear, Cond.selects RX3 yX3_clear yX3_clear, Cond.initialized RX3, Cond.code yX3_clear cX3_clear 1 none, Cond.fieldLink RX3 22 "PointStore$Results" "total" "I", Cond.methodLink RX5 202 yX1_seal, Cond.instanceMethod yX1_seal]
def wsX5_writeChanges_r3 : List Cond := [Cond.selects RX1 yX1_seal yX1_seal, Cond.code yX1_seal cX1_seal 2 none, Cond.fieldLink RX1 18 "PointStore$Disk" "sealed" "I", Cond.methodLink RX5 171 yX1_writeHome, Cond.instanceMethod yX1_writeHome, Cond.selects RX1 yX1_writeHome yX1_writeHome, Cond.code yX1_writeHome cX1_writeHome 4 none, Cond.methodLink RX1 43 yX1_writeAtHome, Cond.instanceMethod yX1_writeAtHome, Cond.selects RX1 yX1_writeAtHome yX1_writeAtHome, Cond.code yX1_writeAtHome cX1_writeAtHome 3 none, Cond.fieldLink RX1 22 "PointStore$Disk" "home" "LPointStore$Points;", Cond.methodLink RX1 47 yX2_clear, Cond.methodLink RX1 52 yX2_takeOut, Cond.instanceMethod yX2_takeOut, Cond.selects RX2 yX2_takeOut yX2_takeOut, Cond.code yX2_takeOut cX2_takeOut 3 none, Cond.fieldLink RX2 9 "PointStore$Points" "keys" "[I", Cond.methodLink RX2 37 arraycopyName, Cond.fieldLink RX2 15 "PointStore$Points" "values" "[I", Cond.methodLink RX2 26 yX2_placeOf, Cond.instanceMethod yX2_placeOf, Cond.selects RX2 yX2_placeOf yX2_placeOf, Cond.code yX2_placeOf cX2_placeOf 4 (some .int)]
def wsX5_writeChanges_r4 : List Cond := [Cond.methodLink RX2 30 yX2_keyAt, Cond.instanceMethod yX2_keyAt, Cond.selects RX2 yX2_keyAt yX2_keyAt, Cond.code yX2_keyAt cX2_keyAt 2 (some .int), Cond.constant RX2 25 (1073741824), Cond.methodLink RX1 56 yX2_put, Cond.instanceMethod yX2_put, Cond.selects RX2 yX2_put yX2_put, Cond.code yX2_put cX2_put 4 none, Cond.methodLink RX2 33 yX2_isFull, Cond.instanceMethod yX2_isFull, Cond.selects RX2 yX2_isFull yX2_isFull, Cond.code yX2_isFull cX2_isFull 1 (some .boolean), Cond.methodLink RX5 177 yX1_end, Cond.instanceMethod yX1_end, Cond.selects RX1 yX1_end yX1_end, Cond.code yX1_end cX1_end 1 none]
def wsX5_writeChanges : List Cond := .code yX5_writeChanges cX5_writeChanges 1 (some .boolean) :: ((wsX5_writeChanges_r1 ++ (wsX5_writeChanges_r2 ++ (wsX5_writeChanges_r3 ++ wsX5_writeChanges_r4))) ++ wsX50 ++ wsX00 ++ wsX10 ++ wsX20 ++ wsX30)
def wsX5_commit_r1 : List Cond := [Cond.fieldLink RX5 65 "PointStore" "powered" "Z", Cond.fieldLink RX5 54 "PointStore" "changes" "LPointStore$Changes;", Cond.fieldLink RX5 162 "PointStore$Changes" "total" "I", Cond.methodLink RX5 163 yX5_writeChanges, Cond.instanceMethod yX5_writeChanges, Cond.selects RX5 yX5_writeChanges yX5_writeChanges, Cond.initialized RX5, Cond.code yX5_writeChanges cX5_writeChanges 1 (some .boolean), Cond.fieldLink RX5 69 "PointStore" "cut" "I", Cond.fieldLink RX5 31 "PointStore" "disk" "LPointStore$Disk;", Cond.fieldLink RX5 72 "PointStore" "cutParts" "I", Cond.methodLink RX5 198 yX1_writeLog, Cond.instanceMethod yX1_writeLog, Cond.selects RX1 yX1_writeLog yX1_writeLog, Cond.initialized RX1, Cond.code yX1_writeLog cX1_writeLog 4 none, Cond.fieldLink RX1 26 "PointStore$Changes" "total" "I", Cond.fieldLink RX1 31 "PointStore$Changes" "keys" "[I", Cond.fieldLink RX1 9 "PointStore$Disk" "logKeys" "[I", Cond.methodLink RX1 34 arraycopyName, Cond.native arraycopyName, Cond.static arraycopyName, Cond.initialized "java/lang/System", Cond.fieldLink RX1 40 "PointStore$Changes" "values" "[I"]
def wsX5_commit_r2 : List Cond := [Cond.fieldLink RX1 15 "PointStore$Disk" "logValues" "[I", Cond.methodLink RX5 174 yX5_losePower, Cond.instanceMethod yX5_losePower, Cond.selects RX5 yX5_losePower yX5_losePower, Cond.code yX5_losePower cX5_losePower 1 none, Cond.fieldLink RX5 35 "PointStore" "pending" "LPointStore$Points;", Cond.fieldLink RX5 61 "PointStore" "results" "LPointStore$Results;", Cond.methodLink RX5 170 yX2_clear, Cond.instanceMethod yX2_clear, Cond.selects RX2 yX2_clear yX2_clear, Cond.initialized RX2, Cond.code yX2_clear cX2_clear 1 none, Cond.fieldLink RX2 18 "PointStore$Points" "total" "I", Cond.fieldLink RX2 22 "PointStore$Points" "version" "I", Cond.methodLink RX5 166 yX0_clear, Cond.instanceMethod yX0_clear, Cond.selects RX0 yX0_clear yX0_clear, Cond.initialized RX0, Cond.code yX0_clear cX0_clear 1 none, Cond.fieldLink RX0 18 "PointStore$Changes" "total" "I", Cond.methodLink RX5 109 yX3_clear, Cond.instanceMethod yX3_clear, Cond.selects RX3 yX3_clear yX3_clear, Cond.initialized RX3]
def wsX5_commit_r3 : List Cond := [Cond.code yX3_clear cX3_clear 1 none, Cond.fieldLink RX3 22 "PointStore$Results" "total" "I", Cond.methodLink RX5 202 yX1_seal, Cond.instanceMethod yX1_seal, Cond.selects RX1 yX1_seal yX1_seal, Cond.code yX1_seal cX1_seal 2 none, Cond.fieldLink RX1 18 "PointStore$Disk" "sealed" "I", Cond.methodLink RX5 171 yX1_writeHome, Cond.instanceMethod yX1_writeHome, Cond.selects RX1 yX1_writeHome yX1_writeHome, Cond.code yX1_writeHome cX1_writeHome 4 none, Cond.methodLink RX1 43 yX1_writeAtHome, Cond.instanceMethod yX1_writeAtHome, Cond.selects RX1 yX1_writeAtHome yX1_writeAtHome, Cond.code yX1_writeAtHome cX1_writeAtHome 3 none, Cond.fieldLink RX1 22 "PointStore$Disk" "home" "LPointStore$Points;", Cond.methodLink RX1 47 yX2_clear, Cond.methodLink RX1 52 yX2_takeOut, Cond.instanceMethod yX2_takeOut, Cond.selects RX2 yX2_takeOut yX2_takeOut, Cond.code yX2_takeOut cX2_takeOut 3 none, Cond.fieldLink RX2 9 "PointStore$Points" "keys" "[I", Cond.methodLink RX2 37 arraycopyName, Cond.fieldLink RX2 15 "PointStore$Points" "values" "[I"]
def wsX5_commit_r4 : List Cond := [Cond.methodLink RX2 26 yX2_placeOf, Cond.instanceMethod yX2_placeOf, Cond.selects RX2 yX2_placeOf yX2_placeOf, Cond.code yX2_placeOf cX2_placeOf 4 (some .int), Cond.methodLink RX2 30 yX2_keyAt, Cond.instanceMethod yX2_keyAt, Cond.selects RX2 yX2_keyAt yX2_keyAt, Cond.code yX2_keyAt cX2_keyAt 2 (some .int), Cond.constant RX2 25 (1073741824), Cond.methodLink RX1 56 yX2_put, Cond.instanceMethod yX2_put, Cond.selects RX2 yX2_put yX2_put, Cond.code yX2_put cX2_put 4 none, Cond.methodLink RX2 33 yX2_isFull, Cond.instanceMethod yX2_isFull, Cond.selects RX2 yX2_isFull yX2_isFull, Cond.code yX2_isFull cX2_isFull 1 (some .boolean), Cond.methodLink RX5 177 yX1_end, Cond.instanceMethod yX1_end, Cond.selects RX1 yX1_end yX1_end, Cond.code yX1_end cX1_end 1 none]
def wsX5_commit : List Cond := .code yX5_commit cX5_commit 2 (some .int) :: ((wsX5_commit_r1 ++ (wsX5_commit_r2 ++ (wsX5_commit_r3 ++ wsX5_commit_r4))) ++ wsX50 ++ wsX00 ++ wsX10 ++ wsX20 ++ wsX30)
def wsX5_abort_r1 : List Cond := [Cond.fieldLink RX5 65 "PointStore" "powered" "Z", Cond.fieldLink RX5 54 "PointStore" "changes" "LPointStore$Changes;", Cond.fieldLink RX5 162 "PointStore$Changes" "total" "I", Cond.fieldLink RX5 35 "PointStore" "pending" "LPointStore$Points;", Cond.fieldLink RX5 31 "PointStore" "disk" "LPointStore$Disk;", Cond.fieldLink RX5 140 "PointStore$Disk" "home" "LPointStore$Points;", Cond.methodLink RX5 167 yX2_copyFrom, Cond.instanceMethod yX2_copyFrom, Cond.selects RX2 yX2_copyFrom yX2_copyFrom, Cond.initialized RX2, Cond.code yX2_copyFrom cX2_copyFrom 2 none, Cond.fieldLink RX2 9 "PointStore$Points" "keys" "[I", Cond.fieldLink RX2 18 "PointStore$Points" "total" "I", Cond.methodLink RX2 37 arraycopyName, Cond.native arraycopyName, Cond.static arraycopyName, Cond.initialized "java/lang/System", Cond.fieldLink RX2 15 "PointStore$Points" "values" "[I", Cond.fieldLink RX2 22 "PointStore$Points" "version" "I", Cond.methodLink RX5 166 yX0_clear, Cond.instanceMethod yX0_clear, Cond.selects RX0 yX0_clear yX0_clear, Cond.initialized RX0, Cond.code yX0_clear cX0_clear 1 none]
def wsX5_abort_r2 : List Cond := [Cond.fieldLink RX0 18 "PointStore$Changes" "total" "I"]
def wsX5_abort : List Cond := .code yX5_abort cX5_abort 2 (some .int) :: ((wsX5_abort_r1 ++ wsX5_abort_r2) ++ wsX50 ++ wsX00 ++ wsX10 ++ wsX20)
def wsX5_format_r1 : List Cond := [Cond.fieldLink RX5 65 "PointStore" "powered" "Z", Cond.fieldLink RX5 54 "PointStore" "changes" "LPointStore$Changes;", Cond.fieldLink RX5 35 "PointStore" "pending" "LPointStore$Points;", Cond.methodLink RX5 166 yX0_clear, Cond.instanceMethod yX0_clear, Cond.selects RX0 yX0_clear yX0_clear, Cond.initialized RX0, Cond.code yX0_clear cX0_clear 1 none, Cond.fieldLink RX0 18 "PointStore$Changes" "total" "I", Cond.methodLink RX5 98 yX0_add, Cond.instanceMethod yX0_add, Cond.selects RX0 yX0_add yX0_add, Cond.code yX0_add cX0_add 3 none, Cond.fieldLink RX0 9 "PointStore$Changes" "keys" "[I", Cond.fieldLink RX0 15 "PointStore$Changes" "values" "[I", Cond.methodLink RX0 22 yX0_isFull, Cond.instanceMethod yX0_isFull, Cond.selects RX0 yX0_isFull yX0_isFull, Cond.code yX0_isFull cX0_isFull 1 (some .boolean), Cond.methodLink RX5 163 yX5_writeChanges, Cond.instanceMethod yX5_writeChanges, Cond.selects RX5 yX5_writeChanges yX5_writeChanges, Cond.initialized RX5, Cond.code yX5_writeChanges cX5_writeChanges 1 (some .boolean)]
def wsX5_format_r2 : List Cond := [Cond.fieldLink RX5 69 "PointStore" "cut" "I", Cond.fieldLink RX5 31 "PointStore" "disk" "LPointStore$Disk;", Cond.fieldLink RX5 72 "PointStore" "cutParts" "I", Cond.fieldLink RX5 162 "PointStore$Changes" "total" "I", Cond.methodLink RX5 198 yX1_writeLog, Cond.instanceMethod yX1_writeLog, Cond.selects RX1 yX1_writeLog yX1_writeLog, Cond.initialized RX1, Cond.code yX1_writeLog cX1_writeLog 4 none, Cond.fieldLink RX1 26 "PointStore$Changes" "total" "I", Cond.fieldLink RX1 31 "PointStore$Changes" "keys" "[I", Cond.fieldLink RX1 9 "PointStore$Disk" "logKeys" "[I", Cond.methodLink RX1 34 arraycopyName, Cond.native arraycopyName, Cond.static arraycopyName, Cond.initialized "java/lang/System", Cond.fieldLink RX1 40 "PointStore$Changes" "values" "[I", Cond.fieldLink RX1 15 "PointStore$Disk" "logValues" "[I", Cond.methodLink RX5 174 yX5_losePower, Cond.instanceMethod yX5_losePower, Cond.selects RX5 yX5_losePower yX5_losePower, Cond.code yX5_losePower cX5_losePower 1 none, Cond.fieldLink RX5 61 "PointStore" "results" "LPointStore$Results;", Cond.methodLink RX5 170 yX2_clear]
def wsX5_format_r3 : List Cond := [Cond.instanceMethod yX2_clear, Cond.selects RX2 yX2_clear yX2_clear, Cond.initialized RX2, Cond.code yX2_clear cX2_clear 1 none, Cond.fieldLink RX2 18 "PointStore$Points" "total" "I", Cond.fieldLink RX2 22 "PointStore$Points" "version" "I", Cond.methodLink RX5 109 yX3_clear, Cond.instanceMethod yX3_clear, Cond.selects RX3 yX3_clear yX3_clear, Cond.initialized RX3, Cond.code yX3_clear cX3_clear 1 none, Cond.fieldLink RX3 22 "PointStore$Results" "total" "I", Cond.methodLink RX5 202 yX1_seal, Cond.instanceMethod yX1_seal, Cond.selects RX1 yX1_seal yX1_seal, Cond.code yX1_seal cX1_seal 2 none, Cond.fieldLink RX1 18 "PointStore$Disk" "sealed" "I", Cond.methodLink RX5 171 yX1_writeHome, Cond.instanceMethod yX1_writeHome, Cond.selects RX1 yX1_writeHome yX1_writeHome, Cond.code yX1_writeHome cX1_writeHome 4 none, Cond.methodLink RX1 43 yX1_writeAtHome, Cond.instanceMethod yX1_writeAtHome, Cond.selects RX1 yX1_writeAtHome yX1_writeAtHome]
def wsX5_format_r4 : List Cond := [Cond.code yX1_writeAtHome cX1_writeAtHome 3 none, Cond.fieldLink RX1 22 "PointStore$Disk" "home" "LPointStore$Points;", Cond.methodLink RX1 47 yX2_clear, Cond.methodLink RX1 52 yX2_takeOut, Cond.instanceMethod yX2_takeOut, Cond.selects RX2 yX2_takeOut yX2_takeOut, Cond.code yX2_takeOut cX2_takeOut 3 none, Cond.fieldLink RX2 9 "PointStore$Points" "keys" "[I", Cond.methodLink RX2 37 arraycopyName, Cond.fieldLink RX2 15 "PointStore$Points" "values" "[I", Cond.methodLink RX2 26 yX2_placeOf, Cond.instanceMethod yX2_placeOf, Cond.selects RX2 yX2_placeOf yX2_placeOf, Cond.code yX2_placeOf cX2_placeOf 4 (some .int), Cond.methodLink RX2 30 yX2_keyAt, Cond.instanceMethod yX2_keyAt, Cond.selects RX2 yX2_keyAt yX2_keyAt, Cond.code yX2_keyAt cX2_keyAt 2 (some .int), Cond.constant RX2 25 (1073741824), Cond.methodLink RX1 56 yX2_put, Cond.instanceMethod yX2_put, Cond.selects RX2 yX2_put yX2_put, Cond.code yX2_put cX2_put 4 none, Cond.methodLink RX2 33 yX2_isFull]
def wsX5_format_r5 : List Cond := [Cond.instanceMethod yX2_isFull, Cond.selects RX2 yX2_isFull yX2_isFull, Cond.code yX2_isFull cX2_isFull 1 (some .boolean), Cond.methodLink RX5 177 yX1_end, Cond.instanceMethod yX1_end, Cond.selects RX1 yX1_end yX1_end, Cond.code yX1_end cX1_end 1 none]
def wsX5_format : List Cond := .code yX5_format cX5_format 1 (some .int) :: ((wsX5_format_r1 ++ (wsX5_format_r2 ++ (wsX5_format_r3 ++ (wsX5_format_r4 ++ wsX5_format_r5)))) ++ wsX50 ++ wsX00 ++ wsX10 ++ wsX20 ++ wsX30)
def wsX5_arm : List Cond := .code yX5_arm cX5_arm 3 (some .boolean) :: ([.fieldLink RX5 69 "PointStore" "cut" "I", .fieldLink RX5 72 "PointStore" "cutParts" "I"] ++ wsX50)
def wsX5_recover_r1 : List Cond := [Cond.fieldLink RX5 69 "PointStore" "cut" "I", Cond.fieldLink RX5 31 "PointStore" "disk" "LPointStore$Disk;", Cond.fieldLink RX5 72 "PointStore" "cutParts" "I", Cond.fieldLink RX5 35 "PointStore" "pending" "LPointStore$Points;", Cond.fieldLink RX5 140 "PointStore$Disk" "home" "LPointStore$Points;", Cond.fieldLink RX5 54 "PointStore" "changes" "LPointStore$Changes;", Cond.fieldLink RX5 61 "PointStore" "results" "LPointStore$Results;", Cond.fieldLink RX5 65 "PointStore" "powered" "Z", Cond.methodLink RX5 171 yX1_writeHome, Cond.instanceMethod yX1_writeHome, Cond.selects RX1 yX1_writeHome yX1_writeHome, Cond.initialized RX1, Cond.code yX1_writeHome cX1_writeHome 4 none, Cond.fieldLink RX1 18 "PointStore$Disk" "sealed" "I", Cond.fieldLink RX1 9 "PointStore$Disk" "logKeys" "[I", Cond.fieldLink RX1 15 "PointStore$Disk" "logValues" "[I", Cond.methodLink RX1 43 yX1_writeAtHome, Cond.instanceMethod yX1_writeAtHome, Cond.selects RX1 yX1_writeAtHome yX1_writeAtHome, Cond.code yX1_writeAtHome cX1_writeAtHome 3 none, Cond.fieldLink RX1 22 "PointStore$Disk" "home" "LPointStore$Points;", Cond.methodLink RX1 47 yX2_clear, Cond.instanceMethod yX2_clear, Cond.selects RX2 yX2_clear yX2_clear]
def wsX5_recover_r2 : List Cond := [Cond.initialized RX2, Cond.code yX2_clear cX2_clear 1 none, Cond.fieldLink RX2 18 "PointStore$Points" "total" "I", Cond.fieldLink RX2 22 "PointStore$Points" "version" "I", Cond.methodLink RX1 52 yX2_takeOut, Cond.instanceMethod yX2_takeOut, Cond.selects RX2 yX2_takeOut yX2_takeOut, Cond.code yX2_takeOut cX2_takeOut 3 none, Cond.fieldLink RX2 9 "PointStore$Points" "keys" "[I", Cond.methodLink RX2 37 arraycopyName, Cond.native arraycopyName, Cond.static arraycopyName, Cond.initialized "java/lang/System", Cond.fieldLink RX2 15 "PointStore$Points" "values" "[I", Cond.methodLink RX2 26 yX2_placeOf, Cond.instanceMethod yX2_placeOf, Cond.selects RX2 yX2_placeOf yX2_placeOf, Cond.code yX2_placeOf cX2_placeOf 4 (some .int), Cond.methodLink RX2 30 yX2_keyAt, Cond.instanceMethod yX2_keyAt, Cond.selects RX2 yX2_keyAt yX2_keyAt, Cond.code yX2_keyAt cX2_keyAt 2 (some .int), Cond.constant RX2 25 (1073741824), Cond.methodLink RX1 56 yX2_put]
def wsX5_recover_r3 : List Cond := [Cond.instanceMethod yX2_put, Cond.selects RX2 yX2_put yX2_put, Cond.code yX2_put cX2_put 4 none, Cond.methodLink RX2 33 yX2_isFull, Cond.instanceMethod yX2_isFull, Cond.selects RX2 yX2_isFull yX2_isFull, Cond.code yX2_isFull cX2_isFull 1 (some .boolean), Cond.methodLink RX5 174 yX5_losePower, Cond.instanceMethod yX5_losePower, Cond.selects RX5 yX5_losePower yX5_losePower, Cond.initialized RX5, Cond.code yX5_losePower cX5_losePower 1 none, Cond.methodLink RX5 170 yX2_clear, Cond.methodLink RX5 166 yX0_clear, Cond.instanceMethod yX0_clear, Cond.selects RX0 yX0_clear yX0_clear, Cond.initialized RX0, Cond.code yX0_clear cX0_clear 1 none, Cond.fieldLink RX0 18 "PointStore$Changes" "total" "I", Cond.methodLink RX5 109 yX3_clear, Cond.instanceMethod yX3_clear, Cond.selects RX3 yX3_clear yX3_clear, Cond.initialized RX3, Cond.code yX3_clear cX3_clear 1 none]
def wsX5_recover_r4 : List Cond := [Cond.fieldLink RX3 22 "PointStore$Results" "total" "I", Cond.methodLink RX5 177 yX1_end, Cond.instanceMethod yX1_end, Cond.selects RX1 yX1_end yX1_end, Cond.code yX1_end cX1_end 1 none, Cond.methodLink RX5 167 yX2_copyFrom, Cond.instanceMethod yX2_copyFrom, Cond.selects RX2 yX2_copyFrom yX2_copyFrom, Cond.code yX2_copyFrom cX2_copyFrom 2 none]
def wsX5_recover : List Cond := .code yX5_recover cX5_recover 1 (some .int) :: ((wsX5_recover_r1 ++ (wsX5_recover_r2 ++ (wsX5_recover_r3 ++ wsX5_recover_r4))) ++ wsX50 ++ wsX10 ++ wsX20 ++ wsX00 ++ wsX30)
def wsX5_treeOf : List Cond := .code yX5_treeOf cX5_treeOf 2 (some (.object "PointStore$Tree")) :: ([.fieldLink RX5 44 "PointStore" "pendingTree" "LPointStore$Tree;", .fieldLink RX5 48 "PointStore" "committedTree" "LPointStore$Tree;"] ++ wsX50)
def wsX5_node_r1 : List Cond := [Cond.fieldLink RX5 65 "PointStore" "powered" "Z", Cond.methodLink RX5 180 yX5_treeOf, Cond.instanceMethod yX5_treeOf, Cond.selects RX5 yX5_treeOf yX5_treeOf, Cond.initialized RX5, Cond.code yX5_treeOf cX5_treeOf 2 (some (.object "PointStore$Tree")), Cond.fieldLink RX5 44 "PointStore" "pendingTree" "LPointStore$Tree;", Cond.fieldLink RX5 48 "PointStore" "committedTree" "LPointStore$Tree;", Cond.methodLink RX5 184 yX4_upToDate, Cond.instanceMethod yX4_upToDate, Cond.selects RX4 yX4_upToDate yX4_upToDate, Cond.initialized RX4, Cond.code yX4_upToDate cX4_upToDate 2 (some (.object "PointStore$Tree")), Cond.fieldLink RX4 22 "PointStore$Tree" "madeOf" "I", Cond.fieldLink RX4 25 "PointStore$Tree" "points" "LPointStore$Points;", Cond.fieldLink RX4 41 "PointStore$Points" "version" "I", Cond.fieldLink RX4 46 "PointStore$Points" "total" "I", Cond.fieldLink RX4 9 "PointStore$Tree" "order" "[I", Cond.fieldLink RX4 15 "PointStore$Tree" "nodes" "I", Cond.fieldLink RX4 19 "PointStore$Tree" "depth" "I", Cond.methodLink RX4 49 yX4_grow, Cond.static yX4_grow, Cond.code yX4_grow cX4_grow 14 none, Cond.fieldLink RX4 32 "PointStore$Tree" "bits" "I"]
def wsX5_node_r2 : List Cond := [Cond.fieldLink RX4 35 "PointStore$Tree" "mostNodes" "I", Cond.methodLink RX4 53 Lib.Math.max.name, Cond.static Lib.Math.max.name, Cond.initialized "java/lang/Math", Cond.code Lib.Math.max.name Lib.Math.max.code 2 (some .int), Cond.fieldLink RX4 38 "PointStore$Tree" "facts" "[I", Cond.fieldLink RX4 29 "PointStore$Tree" "bucket" "I", Cond.methodLink RX4 59 yX4_lowBitsOf, Cond.instanceMethod yX4_lowBitsOf, Cond.selects RX4 yX4_lowBitsOf yX4_lowBitsOf, Cond.code yX4_lowBitsOf cX4_lowBitsOf 5 (some .int), Cond.fieldLink RX4 72 "PointStore$Points" "values" "[I", Cond.constant RX4 75 (65535), Cond.static yX5_keyOf, Cond.code yX5_keyOf cX5_keyOf 2 (some .int), Cond.methodLink RX4 65 yX4_gather, Cond.instanceMethod yX4_gather, Cond.selects RX4 yX4_gather yX4_gather, Cond.code yX4_gather cX4_gather 8 (some .int), Cond.fieldLink RX4 69 "PointStore$Points" "keys" "[I", Cond.methodLink RX5 188 yX4_factOf, Cond.instanceMethod yX4_factOf, Cond.selects RX4 yX4_factOf yX4_factOf, Cond.code yX4_factOf cX4_factOf 3 (some .int)]
def wsX5_node : List Cond := .code yX5_node cX5_node 5 (some .int) :: ((wsX5_node_r1 ++ wsX5_node_r2) ++ wsX50 ++ wsX40 ++ wsX20)
def wsX5_count_r1 : List Cond := [Cond.fieldLink RX5 65 "PointStore" "powered" "Z", Cond.fieldLink RX5 35 "PointStore" "pending" "LPointStore$Points;", Cond.fieldLink RX5 112 "PointStore$Points" "total" "I", Cond.fieldLink RX5 31 "PointStore" "disk" "LPointStore$Disk;", Cond.fieldLink RX5 140 "PointStore$Disk" "home" "LPointStore$Points;", Cond.fieldLink RX5 44 "PointStore" "pendingTree" "LPointStore$Tree;", Cond.fieldLink RX5 191 "PointStore$Tree" "nodes" "I", Cond.fieldLink RX5 48 "PointStore" "committedTree" "LPointStore$Tree;", Cond.fieldLink RX5 16 "PointStore" "blocks" "I", Cond.fieldLink RX5 54 "PointStore" "changes" "LPointStore$Changes;", Cond.fieldLink RX5 162 "PointStore$Changes" "total" "I", Cond.fieldLink RX5 194 "PointStore$Tree" "depth" "I", Cond.fieldLink RX5 69 "PointStore" "cut" "I", Cond.fieldLink RX5 20 "PointStore" "bucket" "I", Cond.fieldLink RX5 23 "PointStore" "span" "I", Cond.methodLink RX5 184 yX4_upToDate, Cond.instanceMethod yX4_upToDate, Cond.selects RX4 yX4_upToDate yX4_upToDate, Cond.initialized RX4, Cond.code yX4_upToDate cX4_upToDate 2 (some (.object "PointStore$Tree")), Cond.fieldLink RX4 22 "PointStore$Tree" "madeOf" "I", Cond.fieldLink RX4 25 "PointStore$Tree" "points" "LPointStore$Points;", Cond.fieldLink RX4 41 "PointStore$Points" "version" "I", Cond.fieldLink RX4 46 "PointStore$Points" "total" "I"]
def wsX5_count_r2 : List Cond := [Cond.fieldLink RX4 9 "PointStore$Tree" "order" "[I", Cond.fieldLink RX4 15 "PointStore$Tree" "nodes" "I", Cond.fieldLink RX4 19 "PointStore$Tree" "depth" "I", Cond.methodLink RX4 49 yX4_grow, Cond.static yX4_grow, Cond.code yX4_grow cX4_grow 14 none, Cond.fieldLink RX4 32 "PointStore$Tree" "bits" "I", Cond.fieldLink RX4 35 "PointStore$Tree" "mostNodes" "I", Cond.methodLink RX4 53 Lib.Math.max.name, Cond.static Lib.Math.max.name, Cond.initialized "java/lang/Math", Cond.code Lib.Math.max.name Lib.Math.max.code 2 (some .int), Cond.fieldLink RX4 38 "PointStore$Tree" "facts" "[I", Cond.fieldLink RX4 29 "PointStore$Tree" "bucket" "I", Cond.methodLink RX4 59 yX4_lowBitsOf, Cond.instanceMethod yX4_lowBitsOf, Cond.selects RX4 yX4_lowBitsOf yX4_lowBitsOf, Cond.code yX4_lowBitsOf cX4_lowBitsOf 5 (some .int), Cond.fieldLink RX4 72 "PointStore$Points" "values" "[I", Cond.constant RX4 75 (65535), Cond.static yX5_keyOf, Cond.initialized RX5, Cond.code yX5_keyOf cX5_keyOf 2 (some .int), Cond.methodLink RX4 65 yX4_gather]
def wsX5_count_r3 : List Cond := [Cond.instanceMethod yX4_gather, Cond.selects RX4 yX4_gather yX4_gather, Cond.code yX4_gather cX4_gather 8 (some .int), Cond.fieldLink RX4 69 "PointStore$Points" "keys" "[I"]
def wsX5_count : List Cond := .code yX5_count cX5_count 2 (some .int) :: ((wsX5_count_r1 ++ (wsX5_count_r2 ++ wsX5_count_r3)) ++ wsX50 ++ wsX20 ++ wsX10 ++ wsX40 ++ wsX00)
def wsX6_init : List Cond := .code yX6_init cX6_init 4 none :: ([.methodLink RX6 1 objectInit, .instanceMethod objectInit, .code objectInit ⟨#[0xb1]⟩ 1 none, .arrayClass .int, .fieldLink RX6 7 "PointStoreModel" "many" "[I", .fieldLink RX6 13 "PointStoreModel" "xs" "[I", .fieldLink RX6 16 "PointStoreModel" "ys" "[I", .fieldLink RX6 19 "PointStoreModel" "values" "[I", .arrayClass .long, .fieldLink RX6 22 "PointStoreModel" "codes" "[J", .fieldLink RX6 26 "PointStoreModel" "codeValues" "[I", .fieldLink RX6 29 "PointStoreModel" "armed" "I", .fieldLink RX6 33 "PointStoreModel" "waitLevel" "[I", .fieldLink RX6 36 "PointStoreModel" "waitCode" "[J", .fieldLink RX6 39 "PointStoreModel" "resultX" "[I", .fieldLink RX6 42 "PointStoreModel" "resultY" "[I", .fieldLink RX6 45 "PointStoreModel" "resultValue" "[I", .fieldLink RX6 48 "PointStoreModel" "far" "[J", .fieldLink RX6 51 "PointStoreModel" "blocks" "I", .fieldLink RX6 54 "PointStoreModel" "bucket" "I", .fieldLink RX6 57 "PointStoreModel" "bits" "I", .fieldLink RX6 60 "PointStoreModel" "span" "I"] ++ wsX60)
def wsX6_isInside : List Cond := .code yX6_isInside cX6_isInside 3 (some .boolean) :: ([.fieldLink RX6 60 "PointStoreModel" "span" "I"] ++ wsX60)
def wsX6_isState : List Cond := .code yX6_isState cX6_isState 1 (some .boolean) :: ([])
def wsX6_placeOf : List Cond := .code yX6_placeOf cX6_placeOf 8 (some .int) :: ([.fieldLink RX6 7 "PointStoreModel" "many" "[I", .fieldLink RX6 13 "PointStoreModel" "xs" "[I", .fieldLink RX6 16 "PointStoreModel" "ys" "[I"] ++ wsX60)
def wsX6_isAt : List Cond := .code yX6_isAt cX6_isAt 5 (some .boolean) :: ([.fieldLink RX6 7 "PointStoreModel" "many" "[I", .fieldLink RX6 13 "PointStoreModel" "xs" "[I", .fieldLink RX6 16 "PointStoreModel" "ys" "[I"] ++ wsX60)
def wsX6_codeOf : List Cond := .code yX6_codeOf cX6_codeOf 6 (some .long) :: ([.fieldLink RX6 57 "PointStoreModel" "bits" "I"] ++ wsX60)
def wsX6_below : List Cond := .code yX6_below cX6_below 7 (some .int) :: ([.fieldLink RX6 7 "PointStoreModel" "many" "[I", .fieldLink RX6 22 "PointStoreModel" "codes" "[J"] ++ wsX60)
def wsX6_puts : List Cond := .code yX6_puts cX6_puts 9 none :: ([.fieldLink RX6 7 "PointStoreModel" "many" "[I", .fieldLink RX6 13 "PointStoreModel" "xs" "[I", .fieldLink RX6 16 "PointStoreModel" "ys" "[I", .fieldLink RX6 19 "PointStoreModel" "values" "[I", .fieldLink RX6 22 "PointStoreModel" "codes" "[J", .fieldLink RX6 26 "PointStoreModel" "codeValues" "[I", .methodLink RX6 63 yX6_codeOf, .instanceMethod yX6_codeOf, .selects RX6 yX6_codeOf yX6_codeOf, .initialized RX6, .code yX6_codeOf cX6_codeOf 6 (some .long), .fieldLink RX6 57 "PointStoreModel" "bits" "I", .methodLink RX6 67 yX6_below, .instanceMethod yX6_below, .selects RX6 yX6_below yX6_below, .code yX6_below cX6_below 7 (some .int)] ++ wsX60)
def wsX6_takes : List Cond := .code yX6_takes cX6_takes 4 none :: ([.fieldLink RX6 13 "PointStoreModel" "xs" "[I", .fieldLink RX6 16 "PointStoreModel" "ys" "[I", .fieldLink RX6 7 "PointStoreModel" "many" "[I", .fieldLink RX6 19 "PointStoreModel" "values" "[I", .fieldLink RX6 22 "PointStoreModel" "codes" "[J", .fieldLink RX6 26 "PointStoreModel" "codeValues" "[I", .methodLink RX6 63 yX6_codeOf, .instanceMethod yX6_codeOf, .selects RX6 yX6_codeOf yX6_codeOf, .initialized RX6, .code yX6_codeOf cX6_codeOf 6 (some .long), .fieldLink RX6 57 "PointStoreModel" "bits" "I", .methodLink RX6 67 yX6_below, .instanceMethod yX6_below, .selects RX6 yX6_below yX6_below, .code yX6_below cX6_below 7 (some .int)] ++ wsX60)
def wsX6_becomes : List Cond := .code yX6_becomes cX6_becomes 6 none :: ([.fieldLink RX6 7 "PointStoreModel" "many" "[I", .fieldLink RX6 13 "PointStoreModel" "xs" "[I", .fieldLink RX6 16 "PointStoreModel" "ys" "[I", .fieldLink RX6 19 "PointStoreModel" "values" "[I", .fieldLink RX6 22 "PointStoreModel" "codes" "[J", .fieldLink RX6 26 "PointStoreModel" "codeValues" "[I", .fieldLink RX6 71 "PointStoreModel" "changes" "I"] ++ wsX60)
def wsX6_begins : List Cond := .code yX6_begins cX6_begins 1 none :: ([.fieldLink RX6 74 "PointStoreModel" "waits" "I", .fieldLink RX6 33 "PointStoreModel" "waitLevel" "[I", .fieldLink RX6 36 "PointStoreModel" "waitCode" "[J"] ++ wsX60)
def wsX6_next : List Cond := .code yX6_next cX6_next 1 (some .long) :: ([.fieldLink RX6 77 "PointStoreModel" "code" "J", .fieldLink RX6 57 "PointStoreModel" "bits" "I", .fieldLink RX6 81 "PointStoreModel" "level" "I"] ++ wsX60)
def wsX6_part : List Cond := .code yX6_part cX6_part 5 (some .int) :: ([.fieldLink RX6 57 "PointStoreModel" "bits" "I", .fieldLink RX6 81 "PointStoreModel" "level" "I", .fieldLink RX6 77 "PointStoreModel" "code" "J", .methodLink RX6 67 yX6_below, .instanceMethod yX6_below, .selects RX6 yX6_below yX6_below, .initialized RX6, .code yX6_below cX6_below 7 (some .int), .fieldLink RX6 7 "PointStoreModel" "many" "[I", .fieldLink RX6 22 "PointStoreModel" "codes" "[J"] ++ wsX60)
def wsX6_comes : List Cond := .code yX6_comes cX6_comes 3 (some .boolean) :: ([.fieldLink RX6 74 "PointStoreModel" "waits" "I", .fieldLink RX6 33 "PointStoreModel" "waitLevel" "[I", .fieldLink RX6 81 "PointStoreModel" "level" "I", .fieldLink RX6 36 "PointStoreModel" "waitCode" "[J", .fieldLink RX6 77 "PointStoreModel" "code" "J", .fieldLink RX6 84 "PointStoreModel" "first" "I", .fieldLink RX6 91 "PointStoreModel" "end" "I", .fieldLink RX6 54 "PointStoreModel" "bucket" "I", .fieldLink RX6 57 "PointStoreModel" "bits" "I", .methodLink RX6 67 yX6_below, .instanceMethod yX6_below, .selects RX6 yX6_below yX6_below, .initialized RX6, .code yX6_below cX6_below 7 (some .int), .fieldLink RX6 7 "PointStoreModel" "many" "[I", .fieldLink RX6 22 "PointStoreModel" "codes" "[J", .methodLink RX6 87 yX6_next, .instanceMethod yX6_next, .selects RX6 yX6_next yX6_next, .code yX6_next cX6_next 1 (some .long), .methodLink RX6 94 yX6_part, .instanceMethod yX6_part, .selects RX6 yX6_part yX6_part, .code yX6_part cX6_part 5 (some .int)] ++ wsX60)
def wsX6_nodes_r1 : List Cond := [Cond.methodLink RX6 98 yX6_begins, Cond.instanceMethod yX6_begins, Cond.selects RX6 yX6_begins yX6_begins, Cond.initialized RX6, Cond.code yX6_begins cX6_begins 1 none, Cond.fieldLink RX6 74 "PointStoreModel" "waits" "I", Cond.fieldLink RX6 33 "PointStoreModel" "waitLevel" "[I", Cond.fieldLink RX6 36 "PointStoreModel" "waitCode" "[J", Cond.methodLink RX6 101 yX6_comes, Cond.instanceMethod yX6_comes, Cond.selects RX6 yX6_comes yX6_comes, Cond.code yX6_comes cX6_comes 3 (some .boolean), Cond.fieldLink RX6 81 "PointStoreModel" "level" "I", Cond.fieldLink RX6 77 "PointStoreModel" "code" "J", Cond.fieldLink RX6 84 "PointStoreModel" "first" "I", Cond.fieldLink RX6 91 "PointStoreModel" "end" "I", Cond.fieldLink RX6 54 "PointStoreModel" "bucket" "I", Cond.fieldLink RX6 57 "PointStoreModel" "bits" "I", Cond.methodLink RX6 67 yX6_below, Cond.instanceMethod yX6_below, Cond.selects RX6 yX6_below yX6_below, Cond.code yX6_below cX6_below 7 (some .int), Cond.fieldLink RX6 7 "PointStoreModel" "many" "[I", Cond.fieldLink RX6 22 "PointStoreModel" "codes" "[J"]
def wsX6_nodes_r2 : List Cond := [Cond.methodLink RX6 87 yX6_next, Cond.instanceMethod yX6_next, Cond.selects RX6 yX6_next yX6_next, Cond.code yX6_next cX6_next 1 (some .long), Cond.methodLink RX6 94 yX6_part, Cond.instanceMethod yX6_part, Cond.selects RX6 yX6_part yX6_part, Cond.code yX6_part cX6_part 5 (some .int)]
def wsX6_nodes : List Cond := .code yX6_nodes cX6_nodes 3 (some .int) :: ((wsX6_nodes_r1 ++ wsX6_nodes_r2) ++ wsX60)
def wsX6_depth_r1 : List Cond := [Cond.fieldLink RX6 81 "PointStoreModel" "level" "I", Cond.methodLink RX6 98 yX6_begins, Cond.instanceMethod yX6_begins, Cond.selects RX6 yX6_begins yX6_begins, Cond.initialized RX6, Cond.code yX6_begins cX6_begins 1 none, Cond.fieldLink RX6 74 "PointStoreModel" "waits" "I", Cond.fieldLink RX6 33 "PointStoreModel" "waitLevel" "[I", Cond.fieldLink RX6 36 "PointStoreModel" "waitCode" "[J", Cond.methodLink RX6 101 yX6_comes, Cond.instanceMethod yX6_comes, Cond.selects RX6 yX6_comes yX6_comes, Cond.code yX6_comes cX6_comes 3 (some .boolean), Cond.fieldLink RX6 77 "PointStoreModel" "code" "J", Cond.fieldLink RX6 84 "PointStoreModel" "first" "I", Cond.fieldLink RX6 91 "PointStoreModel" "end" "I", Cond.fieldLink RX6 54 "PointStoreModel" "bucket" "I", Cond.fieldLink RX6 57 "PointStoreModel" "bits" "I", Cond.methodLink RX6 67 yX6_below, Cond.instanceMethod yX6_below, Cond.selects RX6 yX6_below yX6_below, Cond.code yX6_below cX6_below 7 (some .int), Cond.fieldLink RX6 7 "PointStoreModel" "many" "[I", Cond.fieldLink RX6 22 "PointStoreModel" "codes" "[J"]
def wsX6_depth_r2 : List Cond := [Cond.methodLink RX6 87 yX6_next, Cond.instanceMethod yX6_next, Cond.selects RX6 yX6_next yX6_next, Cond.code yX6_next cX6_next 1 (some .long), Cond.methodLink RX6 94 yX6_part, Cond.instanceMethod yX6_part, Cond.selects RX6 yX6_part yX6_part, Cond.code yX6_part cX6_part 5 (some .int)]
def wsX6_depth : List Cond := .code yX6_depth cX6_depth 2 (some .int) :: ((wsX6_depth_r1 ++ wsX6_depth_r2) ++ wsX60)
def wsX6_node_r1 : List Cond := [Cond.fieldLink RX6 105 "PointStoreModel" "isOff" "Z", Cond.fieldLink RX6 57 "PointStoreModel" "bits" "I", Cond.fieldLink RX6 81 "PointStoreModel" "level" "I", Cond.fieldLink RX6 77 "PointStoreModel" "code" "J", Cond.fieldLink RX6 91 "PointStoreModel" "end" "I", Cond.fieldLink RX6 84 "PointStoreModel" "first" "I", Cond.fieldLink RX6 54 "PointStoreModel" "bucket" "I", Cond.fieldLink RX6 26 "PointStoreModel" "codeValues" "[I", Cond.constant RX6 112 (65535), Cond.methodLink RX6 109 yX6_isState, Cond.static yX6_isState, Cond.initialized RX6, Cond.code yX6_isState cX6_isState 1 (some .boolean), Cond.methodLink RX6 98 yX6_begins, Cond.instanceMethod yX6_begins, Cond.selects RX6 yX6_begins yX6_begins, Cond.code yX6_begins cX6_begins 1 none, Cond.fieldLink RX6 74 "PointStoreModel" "waits" "I", Cond.fieldLink RX6 33 "PointStoreModel" "waitLevel" "[I", Cond.fieldLink RX6 36 "PointStoreModel" "waitCode" "[J", Cond.methodLink RX6 101 yX6_comes, Cond.instanceMethod yX6_comes, Cond.selects RX6 yX6_comes yX6_comes, Cond.code yX6_comes cX6_comes 3 (some .boolean)]
def wsX6_node_r2 : List Cond := [Cond.methodLink RX6 67 yX6_below, Cond.instanceMethod yX6_below, Cond.selects RX6 yX6_below yX6_below, Cond.code yX6_below cX6_below 7 (some .int), Cond.fieldLink RX6 7 "PointStoreModel" "many" "[I", Cond.fieldLink RX6 22 "PointStoreModel" "codes" "[J", Cond.methodLink RX6 87 yX6_next, Cond.instanceMethod yX6_next, Cond.selects RX6 yX6_next yX6_next, Cond.code yX6_next cX6_next 1 (some .long), Cond.methodLink RX6 94 yX6_part, Cond.instanceMethod yX6_part, Cond.selects RX6 yX6_part yX6_part, Cond.code yX6_part cX6_part 5 (some .int)]
def wsX6_node : List Cond := .code yX6_node cX6_node 6 (some .int) :: ((wsX6_node_r1 ++ wsX6_node_r2) ++ wsX60)
def wsX6_insert_r1 : List Cond := [Cond.fieldLink RX6 105 "PointStoreModel" "isOff" "Z", Cond.fieldLink RX6 71 "PointStoreModel" "changes" "I", Cond.fieldLink RX6 19 "PointStoreModel" "values" "[I", Cond.fieldLink RX6 26 "PointStoreModel" "codeValues" "[I", Cond.fieldLink RX6 51 "PointStoreModel" "blocks" "I", Cond.methodLink RX6 113 yX6_isInside, Cond.instanceMethod yX6_isInside, Cond.selects RX6 yX6_isInside yX6_isInside, Cond.initialized RX6, Cond.code yX6_isInside cX6_isInside 3 (some .boolean), Cond.fieldLink RX6 60 "PointStoreModel" "span" "I", Cond.methodLink RX6 117 yX6_placeOf, Cond.instanceMethod yX6_placeOf, Cond.selects RX6 yX6_placeOf yX6_placeOf, Cond.code yX6_placeOf cX6_placeOf 8 (some .int), Cond.fieldLink RX6 7 "PointStoreModel" "many" "[I", Cond.fieldLink RX6 13 "PointStoreModel" "xs" "[I", Cond.fieldLink RX6 16 "PointStoreModel" "ys" "[I", Cond.methodLink RX6 121 yX6_isAt, Cond.instanceMethod yX6_isAt, Cond.selects RX6 yX6_isAt yX6_isAt, Cond.code yX6_isAt cX6_isAt 5 (some .boolean), Cond.methodLink RX6 63 yX6_codeOf, Cond.instanceMethod yX6_codeOf]
def wsX6_insert_r2 : List Cond := [Cond.selects RX6 yX6_codeOf yX6_codeOf, Cond.code yX6_codeOf cX6_codeOf 6 (some .long), Cond.fieldLink RX6 57 "PointStoreModel" "bits" "I", Cond.methodLink RX6 67 yX6_below, Cond.instanceMethod yX6_below, Cond.selects RX6 yX6_below yX6_below, Cond.code yX6_below cX6_below 7 (some .int), Cond.fieldLink RX6 22 "PointStoreModel" "codes" "[J", Cond.methodLink RX6 125 yX6_puts, Cond.instanceMethod yX6_puts, Cond.selects RX6 yX6_puts yX6_puts, Cond.code yX6_puts cX6_puts 9 none, Cond.methodLink RX6 129 yX6_nodes, Cond.instanceMethod yX6_nodes, Cond.selects RX6 yX6_nodes yX6_nodes, Cond.code yX6_nodes cX6_nodes 3 (some .int), Cond.methodLink RX6 98 yX6_begins, Cond.instanceMethod yX6_begins, Cond.selects RX6 yX6_begins yX6_begins, Cond.code yX6_begins cX6_begins 1 none, Cond.fieldLink RX6 74 "PointStoreModel" "waits" "I", Cond.fieldLink RX6 33 "PointStoreModel" "waitLevel" "[I", Cond.fieldLink RX6 36 "PointStoreModel" "waitCode" "[J", Cond.methodLink RX6 101 yX6_comes]
def wsX6_insert_r3 : List Cond := [Cond.instanceMethod yX6_comes, Cond.selects RX6 yX6_comes yX6_comes, Cond.code yX6_comes cX6_comes 3 (some .boolean), Cond.fieldLink RX6 81 "PointStoreModel" "level" "I", Cond.fieldLink RX6 77 "PointStoreModel" "code" "J", Cond.fieldLink RX6 84 "PointStoreModel" "first" "I", Cond.fieldLink RX6 91 "PointStoreModel" "end" "I", Cond.fieldLink RX6 54 "PointStoreModel" "bucket" "I", Cond.methodLink RX6 87 yX6_next, Cond.instanceMethod yX6_next, Cond.selects RX6 yX6_next yX6_next, Cond.code yX6_next cX6_next 1 (some .long), Cond.methodLink RX6 94 yX6_part, Cond.instanceMethod yX6_part, Cond.selects RX6 yX6_part yX6_part, Cond.code yX6_part cX6_part 5 (some .int), Cond.methodLink RX6 133 yX6_takes, Cond.instanceMethod yX6_takes, Cond.selects RX6 yX6_takes yX6_takes, Cond.code yX6_takes cX6_takes 4 none]
def wsX6_insert : List Cond := .code yX6_insert cX6_insert 5 (some .int) :: ((wsX6_insert_r1 ++ (wsX6_insert_r2 ++ wsX6_insert_r3)) ++ wsX60)
def wsX6_delete_r1 : List Cond := [Cond.fieldLink RX6 105 "PointStoreModel" "isOff" "Z", Cond.fieldLink RX6 71 "PointStoreModel" "changes" "I", Cond.methodLink RX6 113 yX6_isInside, Cond.instanceMethod yX6_isInside, Cond.selects RX6 yX6_isInside yX6_isInside, Cond.initialized RX6, Cond.code yX6_isInside cX6_isInside 3 (some .boolean), Cond.fieldLink RX6 60 "PointStoreModel" "span" "I", Cond.methodLink RX6 117 yX6_placeOf, Cond.instanceMethod yX6_placeOf, Cond.selects RX6 yX6_placeOf yX6_placeOf, Cond.code yX6_placeOf cX6_placeOf 8 (some .int), Cond.fieldLink RX6 7 "PointStoreModel" "many" "[I", Cond.fieldLink RX6 13 "PointStoreModel" "xs" "[I", Cond.fieldLink RX6 16 "PointStoreModel" "ys" "[I", Cond.methodLink RX6 121 yX6_isAt, Cond.instanceMethod yX6_isAt, Cond.selects RX6 yX6_isAt yX6_isAt, Cond.code yX6_isAt cX6_isAt 5 (some .boolean), Cond.methodLink RX6 133 yX6_takes, Cond.instanceMethod yX6_takes, Cond.selects RX6 yX6_takes yX6_takes, Cond.code yX6_takes cX6_takes 4 none, Cond.fieldLink RX6 19 "PointStoreModel" "values" "[I"]
def wsX6_delete_r2 : List Cond := [Cond.fieldLink RX6 22 "PointStoreModel" "codes" "[J", Cond.fieldLink RX6 26 "PointStoreModel" "codeValues" "[I", Cond.methodLink RX6 63 yX6_codeOf, Cond.instanceMethod yX6_codeOf, Cond.selects RX6 yX6_codeOf yX6_codeOf, Cond.code yX6_codeOf cX6_codeOf 6 (some .long), Cond.fieldLink RX6 57 "PointStoreModel" "bits" "I", Cond.methodLink RX6 67 yX6_below, Cond.instanceMethod yX6_below, Cond.selects RX6 yX6_below yX6_below, Cond.code yX6_below cX6_below 7 (some .int)]
def wsX6_delete : List Cond := .code yX6_delete cX6_delete 4 (some .int) :: ((wsX6_delete_r1 ++ wsX6_delete_r2) ++ wsX60)
def wsX6_get : List Cond := .code yX6_get cX6_get 5 (some .int) :: ([.fieldLink RX6 105 "PointStoreModel" "isOff" "Z", .fieldLink RX6 19 "PointStoreModel" "values" "[I", .methodLink RX6 109 yX6_isState, .static yX6_isState, .initialized RX6, .code yX6_isState cX6_isState 1 (some .boolean), .methodLink RX6 117 yX6_placeOf, .instanceMethod yX6_placeOf, .selects RX6 yX6_placeOf yX6_placeOf, .code yX6_placeOf cX6_placeOf 8 (some .int), .fieldLink RX6 7 "PointStoreModel" "many" "[I", .fieldLink RX6 13 "PointStoreModel" "xs" "[I", .fieldLink RX6 16 "PointStoreModel" "ys" "[I", .methodLink RX6 121 yX6_isAt, .instanceMethod yX6_isAt, .selects RX6 yX6_isAt yX6_isAt, .code yX6_isAt cX6_isAt 5 (some .boolean)] ++ wsX60)
def wsX6_tells : List Cond := .code yX6_tells cX6_tells 5 none :: ([.fieldLink RX6 39 "PointStoreModel" "resultX" "[I", .fieldLink RX6 42 "PointStoreModel" "resultY" "[I", .fieldLink RX6 45 "PointStoreModel" "resultValue" "[I", .fieldLink RX6 137 "PointStoreModel" "results" "I"] ++ wsX60)
def wsX6_window : List Cond := .code yX6_window cX6_window 9 (some .int) :: ([.fieldLink RX6 105 "PointStoreModel" "isOff" "Z", .fieldLink RX6 137 "PointStoreModel" "results" "I", .fieldLink RX6 7 "PointStoreModel" "many" "[I", .fieldLink RX6 13 "PointStoreModel" "xs" "[I", .fieldLink RX6 16 "PointStoreModel" "ys" "[I", .fieldLink RX6 19 "PointStoreModel" "values" "[I", .methodLink RX6 109 yX6_isState, .static yX6_isState, .initialized RX6, .code yX6_isState cX6_isState 1 (some .boolean), .methodLink RX6 140 yX6_tells, .instanceMethod yX6_tells, .selects RX6 yX6_tells yX6_tells, .code yX6_tells cX6_tells 5 none, .fieldLink RX6 39 "PointStoreModel" "resultX" "[I", .fieldLink RX6 42 "PointStoreModel" "resultY" "[I", .fieldLink RX6 45 "PointStoreModel" "resultValue" "[I"] ++ wsX60)
def wsX6_sum : List Cond := .code yX6_sum cX6_sum 10 (some .long) :: ([.fieldLink RX6 105 "PointStoreModel" "isOff" "Z", .constantLong RX6 143 (-2), .fieldLink RX6 7 "PointStoreModel" "many" "[I", .fieldLink RX6 13 "PointStoreModel" "xs" "[I", .fieldLink RX6 16 "PointStoreModel" "ys" "[I", .fieldLink RX6 19 "PointStoreModel" "values" "[I", .methodLink RX6 109 yX6_isState, .static yX6_isState, .initialized RX6, .code yX6_isState cX6_isState 1 (some .boolean)] ++ wsX60)
def wsX6_nearest : List Cond := .code yX6_nearest cX6_nearest 14 (some .int) :: ([.fieldLink RX6 105 "PointStoreModel" "isOff" "Z", .constant RX6 112 (65535), .fieldLink RX6 137 "PointStoreModel" "results" "I", .fieldLink RX6 7 "PointStoreModel" "many" "[I", .fieldLink RX6 13 "PointStoreModel" "xs" "[I", .fieldLink RX6 16 "PointStoreModel" "ys" "[I", .fieldLink RX6 48 "PointStoreModel" "far" "[J", .fieldLink RX6 39 "PointStoreModel" "resultX" "[I", .fieldLink RX6 42 "PointStoreModel" "resultY" "[I", .fieldLink RX6 45 "PointStoreModel" "resultValue" "[I", .fieldLink RX6 19 "PointStoreModel" "values" "[I", .methodLink RX6 109 yX6_isState, .static yX6_isState, .initialized RX6, .code yX6_isState cX6_isState 1 (some .boolean)] ++ wsX60)
def wsX6_differs : List Cond := .code yX6_differs cX6_differs 7 (some .int) :: ([.fieldLink RX6 105 "PointStoreModel" "isOff" "Z", .fieldLink RX6 137 "PointStoreModel" "results" "I", .fieldLink RX6 7 "PointStoreModel" "many" "[I", .fieldLink RX6 13 "PointStoreModel" "xs" "[I", .fieldLink RX6 16 "PointStoreModel" "ys" "[I", .fieldLink RX6 19 "PointStoreModel" "values" "[I", .methodLink RX6 140 yX6_tells, .instanceMethod yX6_tells, .selects RX6 yX6_tells yX6_tells, .initialized RX6, .code yX6_tells cX6_tells 5 none, .fieldLink RX6 39 "PointStoreModel" "resultX" "[I", .fieldLink RX6 42 "PointStoreModel" "resultY" "[I", .fieldLink RX6 45 "PointStoreModel" "resultValue" "[I"] ++ wsX60)
def wsX6_result : List Cond := .code yX6_result cX6_result 3 (some .int) :: ([.fieldLink RX6 137 "PointStoreModel" "results" "I", .fieldLink RX6 39 "PointStoreModel" "resultX" "[I", .fieldLink RX6 42 "PointStoreModel" "resultY" "[I", .fieldLink RX6 45 "PointStoreModel" "resultValue" "[I"] ++ wsX60)
def wsX6_size : List Cond := .code yX6_size cX6_size 1 (some .int) :: ([.fieldLink RX6 137 "PointStoreModel" "results" "I"] ++ wsX60)
def wsX6_goes : List Cond := .code yX6_goes cX6_goes 1 (some .int) :: ([.fieldLink RX6 105 "PointStoreModel" "isOff" "Z", .fieldLink RX6 29 "PointStoreModel" "armed" "I", .fieldLink RX6 137 "PointStoreModel" "results" "I"] ++ wsX60)
def wsX6_commit : List Cond := .code yX6_commit cX6_commit 2 (some .int) :: ([.fieldLink RX6 105 "PointStoreModel" "isOff" "Z", .fieldLink RX6 71 "PointStoreModel" "changes" "I", .fieldLink RX6 29 "PointStoreModel" "armed" "I", .methodLink RX6 145 yX6_becomes, .instanceMethod yX6_becomes, .selects RX6 yX6_becomes yX6_becomes, .initialized RX6, .code yX6_becomes cX6_becomes 6 none, .fieldLink RX6 7 "PointStoreModel" "many" "[I", .fieldLink RX6 13 "PointStoreModel" "xs" "[I", .fieldLink RX6 16 "PointStoreModel" "ys" "[I", .fieldLink RX6 19 "PointStoreModel" "values" "[I", .fieldLink RX6 22 "PointStoreModel" "codes" "[J", .fieldLink RX6 26 "PointStoreModel" "codeValues" "[I", .methodLink RX6 149 yX6_goes, .instanceMethod yX6_goes, .selects RX6 yX6_goes yX6_goes, .code yX6_goes cX6_goes 1 (some .int), .fieldLink RX6 137 "PointStoreModel" "results" "I"] ++ wsX60)
def wsX6_abort : List Cond := .code yX6_abort cX6_abort 2 (some .int) :: ([.fieldLink RX6 105 "PointStoreModel" "isOff" "Z", .fieldLink RX6 71 "PointStoreModel" "changes" "I", .methodLink RX6 145 yX6_becomes, .instanceMethod yX6_becomes, .selects RX6 yX6_becomes yX6_becomes, .initialized RX6, .code yX6_becomes cX6_becomes 6 none, .fieldLink RX6 7 "PointStoreModel" "many" "[I", .fieldLink RX6 13 "PointStoreModel" "xs" "[I", .fieldLink RX6 16 "PointStoreModel" "ys" "[I", .fieldLink RX6 19 "PointStoreModel" "values" "[I", .fieldLink RX6 22 "PointStoreModel" "codes" "[J", .fieldLink RX6 26 "PointStoreModel" "codeValues" "[I"] ++ wsX60)
def wsX6_format : List Cond := .code yX6_format cX6_format 1 (some .int) :: ([.fieldLink RX6 105 "PointStoreModel" "isOff" "Z", .fieldLink RX6 29 "PointStoreModel" "armed" "I", .fieldLink RX6 7 "PointStoreModel" "many" "[I", .fieldLink RX6 71 "PointStoreModel" "changes" "I", .methodLink RX6 149 yX6_goes, .instanceMethod yX6_goes, .selects RX6 yX6_goes yX6_goes, .initialized RX6, .code yX6_goes cX6_goes 1 (some .int), .fieldLink RX6 137 "PointStoreModel" "results" "I"] ++ wsX60)
def wsX6_arm : List Cond := .code yX6_arm cX6_arm 3 (some .boolean) :: ([.fieldLink RX6 29 "PointStoreModel" "armed" "I"] ++ wsX60)
def wsX6_recover : List Cond := .code yX6_recover cX6_recover 1 (some .int) :: ([.fieldLink RX6 137 "PointStoreModel" "results" "I", .fieldLink RX6 29 "PointStoreModel" "armed" "I", .fieldLink RX6 105 "PointStoreModel" "isOff" "Z", .methodLink RX6 149 yX6_goes, .instanceMethod yX6_goes, .selects RX6 yX6_goes yX6_goes, .initialized RX6, .code yX6_goes cX6_goes 1 (some .int), .methodLink RX6 145 yX6_becomes, .instanceMethod yX6_becomes, .selects RX6 yX6_becomes yX6_becomes, .code yX6_becomes cX6_becomes 6 none, .fieldLink RX6 7 "PointStoreModel" "many" "[I", .fieldLink RX6 13 "PointStoreModel" "xs" "[I", .fieldLink RX6 16 "PointStoreModel" "ys" "[I", .fieldLink RX6 19 "PointStoreModel" "values" "[I", .fieldLink RX6 22 "PointStoreModel" "codes" "[J", .fieldLink RX6 26 "PointStoreModel" "codeValues" "[I", .fieldLink RX6 71 "PointStoreModel" "changes" "I"] ++ wsX60)
def wsX6_count_r1 : List Cond := [Cond.fieldLink RX6 105 "PointStoreModel" "isOff" "Z", Cond.fieldLink RX6 7 "PointStoreModel" "many" "[I", Cond.fieldLink RX6 51 "PointStoreModel" "blocks" "I", Cond.fieldLink RX6 71 "PointStoreModel" "changes" "I", Cond.fieldLink RX6 29 "PointStoreModel" "armed" "I", Cond.fieldLink RX6 54 "PointStoreModel" "bucket" "I", Cond.fieldLink RX6 60 "PointStoreModel" "span" "I", Cond.methodLink RX6 129 yX6_nodes, Cond.instanceMethod yX6_nodes, Cond.selects RX6 yX6_nodes yX6_nodes, Cond.initialized RX6, Cond.code yX6_nodes cX6_nodes 3 (some .int), Cond.methodLink RX6 98 yX6_begins, Cond.instanceMethod yX6_begins, Cond.selects RX6 yX6_begins yX6_begins, Cond.code yX6_begins cX6_begins 1 none, Cond.fieldLink RX6 74 "PointStoreModel" "waits" "I", Cond.fieldLink RX6 33 "PointStoreModel" "waitLevel" "[I", Cond.fieldLink RX6 36 "PointStoreModel" "waitCode" "[J", Cond.methodLink RX6 101 yX6_comes, Cond.instanceMethod yX6_comes, Cond.selects RX6 yX6_comes yX6_comes, Cond.code yX6_comes cX6_comes 3 (some .boolean), Cond.fieldLink RX6 81 "PointStoreModel" "level" "I"]
def wsX6_count_r2 : List Cond := [Cond.fieldLink RX6 77 "PointStoreModel" "code" "J", Cond.fieldLink RX6 84 "PointStoreModel" "first" "I", Cond.fieldLink RX6 91 "PointStoreModel" "end" "I", Cond.fieldLink RX6 57 "PointStoreModel" "bits" "I", Cond.methodLink RX6 67 yX6_below, Cond.instanceMethod yX6_below, Cond.selects RX6 yX6_below yX6_below, Cond.code yX6_below cX6_below 7 (some .int), Cond.fieldLink RX6 22 "PointStoreModel" "codes" "[J", Cond.methodLink RX6 87 yX6_next, Cond.instanceMethod yX6_next, Cond.selects RX6 yX6_next yX6_next, Cond.code yX6_next cX6_next 1 (some .long), Cond.methodLink RX6 94 yX6_part, Cond.instanceMethod yX6_part, Cond.selects RX6 yX6_part yX6_part, Cond.code yX6_part cX6_part 5 (some .int), Cond.methodLink RX6 153 yX6_depth, Cond.instanceMethod yX6_depth, Cond.selects RX6 yX6_depth yX6_depth, Cond.code yX6_depth cX6_depth 2 (some .int)]
def wsX6_count : List Cond := .code yX6_count cX6_count 2 (some .int) :: ((wsX6_count_r1 ++ wsX6_count_r2) ++ wsX60)
def wsJ9_max_7cf53 : List Cond := .code yJ9_max_7cf53 cJ9_max_7cf53 2 (some .int) :: ([])
def wsJ9_min_7cf53 : List Cond := .code yJ9_min_7cf53 cJ9_min_7cf53 2 (some .int) :: ([])
def wsL_cell : List Cond := .code yL_cell cL_cell 2 (some .int) :: ([])
def wsL_law_r1 : List Cond := [Cond.classLink RL 7 RX5, Cond.instantiable RX5 12, Cond.initialized RX5, Cond.classLink RL 18 RX6, Cond.instantiable RX6 25, Cond.initialized RX6, Cond.methodLink RL 9 yL_cell, Cond.static yL_cell, Cond.initialized RL, Cond.code yL_cell cL_cell 2 (some .int), Cond.methodLink RL 15 yX5_init, Cond.instanceMethod yX5_init, Cond.code yX5_init cX5_init 9 none, Cond.methodLink RX5 3 objectInit, Cond.instanceMethod objectInit, Cond.code objectInit ⟨#[0xb1]⟩ 1 none, Cond.classLink RX5 13 RX2, Cond.instantiable RX2 4, Cond.initialized RX2, Cond.fieldLink RX5 16 "PointStore" "blocks" "I", Cond.fieldLink RX5 20 "PointStore" "bucket" "I", Cond.fieldLink RX5 23 "PointStore" "span" "I", Cond.classLink RX5 26 RX1, Cond.instantiable RX1 4]
def wsL_law_r2 : List Cond := [Cond.initialized RX1, Cond.fieldLink RX5 31 "PointStore" "disk" "LPointStore$Disk;", Cond.fieldLink RX5 35 "PointStore" "pending" "LPointStore$Points;", Cond.classLink RX5 39 RX4, Cond.instantiable RX4 9, Cond.initialized RX4, Cond.fieldLink RX5 44 "PointStore" "pendingTree" "LPointStore$Tree;", Cond.fieldLink RX5 48 "PointStore" "committedTree" "LPointStore$Tree;", Cond.classLink RX5 51 RX0, Cond.instantiable RX0 3, Cond.initialized RX0, Cond.fieldLink RX5 54 "PointStore" "changes" "LPointStore$Changes;", Cond.classLink RX5 58 RX3, Cond.instantiable RX3 4, Cond.initialized RX3, Cond.fieldLink RX5 61 "PointStore" "results" "LPointStore$Results;", Cond.fieldLink RX5 65 "PointStore" "powered" "Z", Cond.fieldLink RX5 69 "PointStore" "cut" "I", Cond.fieldLink RX5 72 "PointStore" "cutParts" "I", Cond.methodLink RX5 9 yX5_fromOneTo, Cond.static yX5_fromOneTo, Cond.code yX5_fromOneTo cX5_fromOneTo 3 (some .int), Cond.instanceMethod yX2_init, Cond.code yX2_init cX2_init 1 none]
def wsL_law_r3 : List Cond := [Cond.methodLink RX2 3 objectInit, Cond.arrayClass .int, Cond.fieldLink RX2 9 "PointStore$Points" "keys" "[I", Cond.fieldLink RX2 15 "PointStore$Points" "values" "[I", Cond.fieldLink RX2 18 "PointStore$Points" "total" "I", Cond.fieldLink RX2 22 "PointStore$Points" "version" "I", Cond.methodLink RX5 28 yX1_init, Cond.instanceMethod yX1_init, Cond.code yX1_init cX1_init 2 none, Cond.methodLink RX1 3 objectInit, Cond.fieldLink RX1 9 "PointStore$Disk" "logKeys" "[I", Cond.fieldLink RX1 15 "PointStore$Disk" "logValues" "[I", Cond.fieldLink RX1 18 "PointStore$Disk" "sealed" "I", Cond.fieldLink RX1 22 "PointStore$Disk" "home" "LPointStore$Points;", Cond.methodLink RX5 41 yX4_init, Cond.instanceMethod yX4_init, Cond.code yX4_init cX4_init 5 none, Cond.methodLink RX4 3 objectInit, Cond.fieldLink RX4 9 "PointStore$Tree" "order" "[I", Cond.fieldLink RX4 15 "PointStore$Tree" "nodes" "I", Cond.fieldLink RX4 19 "PointStore$Tree" "depth" "I", Cond.fieldLink RX4 22 "PointStore$Tree" "madeOf" "I", Cond.fieldLink RX4 25 "PointStore$Tree" "points" "LPointStore$Points;", Cond.fieldLink RX4 29 "PointStore$Tree" "bucket" "I"]
def wsL_law_r4 : List Cond := [Cond.fieldLink RX4 32 "PointStore$Tree" "bits" "I", Cond.fieldLink RX4 35 "PointStore$Tree" "mostNodes" "I", Cond.fieldLink RX4 38 "PointStore$Tree" "facts" "[I", Cond.instanceMethod yX0_init, Cond.code yX0_init cX0_init 1 none, Cond.methodLink RX0 3 objectInit, Cond.fieldLink RX0 9 "PointStore$Changes" "keys" "[I", Cond.fieldLink RX0 15 "PointStore$Changes" "values" "[I", Cond.fieldLink RX0 18 "PointStore$Changes" "total" "I", Cond.instanceMethod yX3_init, Cond.code yX3_init cX3_init 1 none, Cond.methodLink RX3 3 objectInit, Cond.fieldLink RX3 9 "PointStore$Results" "keys" "[I", Cond.fieldLink RX3 15 "PointStore$Results" "values" "[I", Cond.arrayClass .long, Cond.fieldLink RX3 18 "PointStore$Results" "distances" "[J", Cond.fieldLink RX3 22 "PointStore$Results" "total" "I", Cond.methodLink RL 20 yX6_init, Cond.instanceMethod yX6_init, Cond.code yX6_init cX6_init 4 none, Cond.methodLink RX6 1 objectInit, Cond.fieldLink RX6 7 "PointStoreModel" "many" "[I", Cond.fieldLink RX6 13 "PointStoreModel" "xs" "[I", Cond.fieldLink RX6 16 "PointStoreModel" "ys" "[I"]
def wsL_law_r5 : List Cond := [Cond.fieldLink RX6 19 "PointStoreModel" "values" "[I", Cond.fieldLink RX6 22 "PointStoreModel" "codes" "[J", Cond.fieldLink RX6 26 "PointStoreModel" "codeValues" "[I", Cond.fieldLink RX6 29 "PointStoreModel" "armed" "I", Cond.fieldLink RX6 33 "PointStoreModel" "waitLevel" "[I", Cond.fieldLink RX6 36 "PointStoreModel" "waitCode" "[J", Cond.fieldLink RX6 39 "PointStoreModel" "resultX" "[I", Cond.fieldLink RX6 42 "PointStoreModel" "resultY" "[I", Cond.fieldLink RX6 45 "PointStoreModel" "resultValue" "[I", Cond.fieldLink RX6 48 "PointStoreModel" "far" "[J", Cond.fieldLink RX6 51 "PointStoreModel" "blocks" "I", Cond.fieldLink RX6 54 "PointStoreModel" "bucket" "I", Cond.fieldLink RX6 57 "PointStoreModel" "bits" "I", Cond.fieldLink RX6 60 "PointStoreModel" "span" "I", Cond.methodLink RL 21 yX5_insert, Cond.instanceMethod yX5_insert, Cond.selects RX5 yX5_insert yX5_insert, Cond.code yX5_insert cX5_insert 6 (some .int), Cond.methodLink RX5 75 yX5_isOnPlane, Cond.instanceMethod yX5_isOnPlane, Cond.selects RX5 yX5_isOnPlane yX5_isOnPlane, Cond.code yX5_isOnPlane cX5_isOnPlane 3 (some .boolean), Cond.methodLink RX5 79 yX0_isFull, Cond.instanceMethod yX0_isFull]
def wsL_law_r6 : List Cond := [Cond.selects RX0 yX0_isFull yX0_isFull, Cond.code yX0_isFull cX0_isFull 1 (some .boolean), Cond.methodLink RX5 83 yX5_keyOf, Cond.static yX5_keyOf, Cond.code yX5_keyOf cX5_keyOf 2 (some .int), Cond.methodLink RX5 87 yX2_valueOf, Cond.instanceMethod yX2_valueOf, Cond.selects RX2 yX2_valueOf yX2_valueOf, Cond.code yX2_valueOf cX2_valueOf 3 (some .int), Cond.methodLink RX2 26 yX2_placeOf, Cond.instanceMethod yX2_placeOf, Cond.selects RX2 yX2_placeOf yX2_placeOf, Cond.code yX2_placeOf cX2_placeOf 4 (some .int), Cond.methodLink RX2 30 yX2_keyAt, Cond.instanceMethod yX2_keyAt, Cond.selects RX2 yX2_keyAt yX2_keyAt, Cond.code yX2_keyAt cX2_keyAt 2 (some .int), Cond.constant RX2 25 (1073741824), Cond.methodLink RX5 91 yX2_put, Cond.instanceMethod yX2_put, Cond.selects RX2 yX2_put yX2_put, Cond.code yX2_put cX2_put 4 none, Cond.methodLink RX2 37 arraycopyName, Cond.native arraycopyName]
def wsL_law_r7 : List Cond := [Cond.static arraycopyName, Cond.initialized "java/lang/System", Cond.methodLink RX2 33 yX2_isFull, Cond.instanceMethod yX2_isFull, Cond.selects RX2 yX2_isFull yX2_isFull, Cond.code yX2_isFull cX2_isFull 1 (some .boolean), Cond.methodLink RX5 95 yX5_comesIn, Cond.instanceMethod yX5_comesIn, Cond.selects RX5 yX5_comesIn yX5_comesIn, Cond.code yX5_comesIn cX5_comesIn 3 (some .boolean), Cond.fieldLink RX5 191 "PointStore$Tree" "nodes" "I", Cond.methodLink RX5 197 yX2_isFull, Cond.methodLink RX5 184 yX4_upToDate, Cond.instanceMethod yX4_upToDate, Cond.selects RX4 yX4_upToDate yX4_upToDate, Cond.code yX4_upToDate cX4_upToDate 2 (some (.object "PointStore$Tree")), Cond.fieldLink RX4 41 "PointStore$Points" "version" "I", Cond.fieldLink RX4 46 "PointStore$Points" "total" "I", Cond.methodLink RX4 49 yX4_grow, Cond.static yX4_grow, Cond.code yX4_grow cX4_grow 14 none, Cond.methodLink RX4 53 Lib.Math.max.name, Cond.static Lib.Math.max.name, Cond.initialized "java/lang/Math"]
def wsL_law_r8 : List Cond := [Cond.code Lib.Math.max.name Lib.Math.max.code 2 (some .int), Cond.methodLink RX4 59 yX4_lowBitsOf, Cond.instanceMethod yX4_lowBitsOf, Cond.selects RX4 yX4_lowBitsOf yX4_lowBitsOf, Cond.code yX4_lowBitsOf cX4_lowBitsOf 5 (some .int), Cond.fieldLink RX4 72 "PointStore$Points" "values" "[I", Cond.constant RX4 75 (65535), Cond.methodLink RX4 65 yX4_gather, Cond.instanceMethod yX4_gather, Cond.selects RX4 yX4_gather yX4_gather, Cond.code yX4_gather cX4_gather 8 (some .int), Cond.fieldLink RX4 69 "PointStore$Points" "keys" "[I", Cond.methodLink RX5 101 yX2_takeOut, Cond.instanceMethod yX2_takeOut, Cond.selects RX2 yX2_takeOut yX2_takeOut, Cond.code yX2_takeOut cX2_takeOut 3 none, Cond.methodLink RX5 98 yX0_add, Cond.instanceMethod yX0_add, Cond.selects RX0 yX0_add yX0_add, Cond.code yX0_add cX0_add 3 none, Cond.methodLink RX0 22 yX0_isFull, Cond.methodLink RL 25 yX6_insert, Cond.instanceMethod yX6_insert, Cond.selects RX6 yX6_insert yX6_insert]
def wsL_law_r9 : List Cond := [Cond.code yX6_insert cX6_insert 5 (some .int), Cond.fieldLink RX6 105 "PointStoreModel" "isOff" "Z", Cond.fieldLink RX6 71 "PointStoreModel" "changes" "I", Cond.methodLink RX6 113 yX6_isInside, Cond.instanceMethod yX6_isInside, Cond.selects RX6 yX6_isInside yX6_isInside, Cond.code yX6_isInside cX6_isInside 3 (some .boolean), Cond.methodLink RX6 117 yX6_placeOf, Cond.instanceMethod yX6_placeOf, Cond.selects RX6 yX6_placeOf yX6_placeOf, Cond.code yX6_placeOf cX6_placeOf 8 (some .int), Cond.methodLink RX6 121 yX6_isAt, Cond.instanceMethod yX6_isAt, Cond.selects RX6 yX6_isAt yX6_isAt, Cond.code yX6_isAt cX6_isAt 5 (some .boolean), Cond.methodLink RX6 63 yX6_codeOf, Cond.instanceMethod yX6_codeOf, Cond.selects RX6 yX6_codeOf yX6_codeOf, Cond.code yX6_codeOf cX6_codeOf 6 (some .long), Cond.methodLink RX6 67 yX6_below, Cond.instanceMethod yX6_below, Cond.selects RX6 yX6_below yX6_below, Cond.code yX6_below cX6_below 7 (some .int), Cond.methodLink RX6 125 yX6_puts]
def wsL_law_r10 : List Cond := [Cond.instanceMethod yX6_puts, Cond.selects RX6 yX6_puts yX6_puts, Cond.code yX6_puts cX6_puts 9 none, Cond.methodLink RX6 129 yX6_nodes, Cond.instanceMethod yX6_nodes, Cond.selects RX6 yX6_nodes yX6_nodes, Cond.code yX6_nodes cX6_nodes 3 (some .int), Cond.methodLink RX6 98 yX6_begins, Cond.instanceMethod yX6_begins, Cond.selects RX6 yX6_begins yX6_begins, Cond.code yX6_begins cX6_begins 1 none, Cond.fieldLink RX6 74 "PointStoreModel" "waits" "I", Cond.methodLink RX6 101 yX6_comes, Cond.instanceMethod yX6_comes, Cond.selects RX6 yX6_comes yX6_comes, Cond.code yX6_comes cX6_comes 3 (some .boolean), Cond.fieldLink RX6 81 "PointStoreModel" "level" "I", Cond.fieldLink RX6 77 "PointStoreModel" "code" "J", Cond.fieldLink RX6 84 "PointStoreModel" "first" "I", Cond.fieldLink RX6 91 "PointStoreModel" "end" "I", Cond.methodLink RX6 87 yX6_next, Cond.instanceMethod yX6_next, Cond.selects RX6 yX6_next yX6_next, Cond.code yX6_next cX6_next 1 (some .long)]
def wsL_law_r11 : List Cond := [Cond.methodLink RX6 94 yX6_part, Cond.instanceMethod yX6_part, Cond.selects RX6 yX6_part yX6_part, Cond.code yX6_part cX6_part 5 (some .int), Cond.methodLink RX6 133 yX6_takes, Cond.instanceMethod yX6_takes, Cond.selects RX6 yX6_takes yX6_takes, Cond.code yX6_takes cX6_takes 4 none, Cond.methodLink RL 26 yX5_delete, Cond.instanceMethod yX5_delete, Cond.selects RX5 yX5_delete yX5_delete, Cond.code yX5_delete cX5_delete 4 (some .int), Cond.methodLink RL 30 yX6_delete, Cond.instanceMethod yX6_delete, Cond.selects RX6 yX6_delete yX6_delete, Cond.code yX6_delete cX6_delete 4 (some .int), Cond.methodLink RL 31 yX5_get, Cond.instanceMethod yX5_get, Cond.selects RX5 yX5_get yX5_get, Cond.code yX5_get cX5_get 5 (some .int), Cond.methodLink RX5 105 yX5_pointsOf, Cond.instanceMethod yX5_pointsOf, Cond.selects RX5 yX5_pointsOf yX5_pointsOf, Cond.code yX5_pointsOf cX5_pointsOf 2 (some (.object "PointStore$Points"))]
def wsL_law_r12 : List Cond := [Cond.fieldLink RX5 140 "PointStore$Disk" "home" "LPointStore$Points;", Cond.methodLink RL 34 yX6_get, Cond.instanceMethod yX6_get, Cond.selects RX6 yX6_get yX6_get, Cond.code yX6_get cX6_get 5 (some .int), Cond.methodLink RX6 109 yX6_isState, Cond.static yX6_isState, Cond.code yX6_isState cX6_isState 1 (some .boolean), Cond.methodLink RL 35 yX5_window, Cond.instanceMethod yX5_window, Cond.selects RX5 yX5_window yX5_window, Cond.code yX5_window cX5_window 9 (some .int), Cond.fieldLink RX5 112 "PointStore$Points" "total" "I", Cond.fieldLink RX5 115 "PointStore$Points" "keys" "[I", Cond.fieldLink RX5 123 "PointStore$Points" "values" "[I", Cond.methodLink RX5 109 yX3_clear, Cond.instanceMethod yX3_clear, Cond.selects RX3 yX3_clear yX3_clear, Cond.code yX3_clear cX3_clear 1 none, Cond.methodLink RX5 119 yX5_isWithin, Cond.static yX5_isWithin, Cond.code yX5_isWithin cX5_isWithin 7 (some .boolean), Cond.methodLink RX5 153 yX5_xOf, Cond.static yX5_xOf]
def wsL_law_r13 : List Cond := [Cond.code yX5_xOf cX5_xOf 1 (some .int), Cond.methodLink RX5 156 yX5_yOf, Cond.static yX5_yOf, Cond.code yX5_yOf cX5_yOf 1 (some .int), Cond.methodLink RX5 126 yX3_add, Cond.instanceMethod yX3_add, Cond.selects RX3 yX3_add yX3_add, Cond.code yX3_add cX3_add 3 none, Cond.methodLink RL 39 yX6_window, Cond.instanceMethod yX6_window, Cond.selects RX6 yX6_window yX6_window, Cond.code yX6_window cX6_window 9 (some .int), Cond.fieldLink RX6 137 "PointStoreModel" "results" "I", Cond.methodLink RX6 140 yX6_tells, Cond.instanceMethod yX6_tells, Cond.selects RX6 yX6_tells yX6_tells, Cond.code yX6_tells cX6_tells 5 none, Cond.methodLink RL 40 yX5_nearest, Cond.instanceMethod yX5_nearest, Cond.selects RX5 yX5_nearest yX5_nearest, Cond.code yX5_nearest cX5_nearest 8 (some .int), Cond.fieldLink RX5 139 "PointStore$Results" "total" "I", Cond.methodLink RX5 127 yX5_isPlace, Cond.static yX5_isPlace]
def wsL_law_r14 : List Cond := [Cond.code yX5_isPlace cX5_isPlace 1 (some .boolean), Cond.constant RX5 205 (65535), Cond.methodLink RX5 131 yX5_distance, Cond.static yX5_distance, Cond.code yX5_distance cX5_distance 7 (some .long), Cond.methodLink RX5 135 yX3_addByDistance, Cond.instanceMethod yX3_addByDistance, Cond.selects RX3 yX3_addByDistance yX3_addByDistance, Cond.code yX3_addByDistance cX3_addByDistance 8 none, Cond.methodLink RX3 26 Lib.Math.min.name, Cond.static Lib.Math.min.name, Cond.code Lib.Math.min.name Lib.Math.min.code 2 (some .int), Cond.methodLink RX3 32 arraycopyName, Cond.methodLink RL 44 yX6_nearest, Cond.instanceMethod yX6_nearest, Cond.selects RX6 yX6_nearest yX6_nearest, Cond.code yX6_nearest cX6_nearest 14 (some .int), Cond.constant RX6 112 (65535), Cond.methodLink RL 45 yX5_differs, Cond.instanceMethod yX5_differs, Cond.selects RX5 yX5_differs yX5_differs, Cond.code yX5_differs cX5_differs 10 (some .int), Cond.methodLink RX5 146 Lib.Math.min.name, Cond.constant RX5 151 (1073741824)]
def wsL_law_r15 : List Cond := [Cond.methodLink RX5 143 yX2_keyAt, Cond.methodLink RL 49 yX6_differs, Cond.instanceMethod yX6_differs, Cond.selects RX6 yX6_differs yX6_differs, Cond.code yX6_differs cX6_differs 7 (some .int), Cond.methodLink RL 50 yX5_result, Cond.instanceMethod yX5_result, Cond.selects RX5 yX5_result yX5_result, Cond.code yX5_result cX5_result 3 (some .int), Cond.fieldLink RX5 152 "PointStore$Results" "keys" "[I", Cond.fieldLink RX5 159 "PointStore$Results" "values" "[I", Cond.methodLink RL 53 yX6_result, Cond.instanceMethod yX6_result, Cond.selects RX6 yX6_result yX6_result, Cond.code yX6_result cX6_result 3 (some .int), Cond.methodLink RL 54 yX5_size, Cond.instanceMethod yX5_size, Cond.selects RX5 yX5_size yX5_size, Cond.code yX5_size cX5_size 1 (some .int), Cond.methodLink RL 57 yX6_size, Cond.instanceMethod yX6_size, Cond.selects RX6 yX6_size yX6_size, Cond.code yX6_size cX6_size 1 (some .int), Cond.methodLink RL 58 yX5_sum]
def wsL_law_r16 : List Cond := [Cond.instanceMethod yX5_sum, Cond.selects RX5 yX5_sum yX5_sum, Cond.code yX5_sum cX5_sum 10 (some .long), Cond.constantLong RX5 160 (-2), Cond.methodLink RL 62 yX6_sum, Cond.instanceMethod yX6_sum, Cond.selects RX6 yX6_sum yX6_sum, Cond.code yX6_sum cX6_sum 10 (some .long), Cond.constantLong RX6 143 (-2), Cond.methodLink RL 63 yX5_commit, Cond.instanceMethod yX5_commit, Cond.selects RX5 yX5_commit yX5_commit, Cond.code yX5_commit cX5_commit 2 (some .int), Cond.fieldLink RX5 162 "PointStore$Changes" "total" "I", Cond.methodLink RX5 163 yX5_writeChanges, Cond.instanceMethod yX5_writeChanges, Cond.selects RX5 yX5_writeChanges yX5_writeChanges, Cond.code yX5_writeChanges cX5_writeChanges 1 (some .boolean), Cond.methodLink RX5 198 yX1_writeLog, Cond.instanceMethod yX1_writeLog, Cond.selects RX1 yX1_writeLog yX1_writeLog, Cond.code yX1_writeLog cX1_writeLog 4 none, Cond.fieldLink RX1 26 "PointStore$Changes" "total" "I", Cond.fieldLink RX1 31 "PointStore$Changes" "keys" "[I"]
def wsL_law_r17 : List Cond := [Cond.methodLink RX1 34 arraycopyName, Cond.fieldLink RX1 40 "PointStore$Changes" "values" "[I", Cond.methodLink RX5 174 yX5_losePower, Cond.instanceMethod yX5_losePower, Cond.selects RX5 yX5_losePower yX5_losePower, Cond.code yX5_losePower cX5_losePower 1 none, Cond.methodLink RX5 170 yX2_clear, Cond.instanceMethod yX2_clear, Cond.selects RX2 yX2_clear yX2_clear, Cond.code yX2_clear cX2_clear 1 none, Cond.methodLink RX5 166 yX0_clear, Cond.instanceMethod yX0_clear, Cond.selects RX0 yX0_clear yX0_clear, Cond.code yX0_clear cX0_clear 1 none, Cond.methodLink RX5 202 yX1_seal, Cond.instanceMethod yX1_seal, Cond.selects RX1 yX1_seal yX1_seal, Cond.code yX1_seal cX1_seal 2 none, Cond.methodLink RX5 171 yX1_writeHome, Cond.instanceMethod yX1_writeHome, Cond.selects RX1 yX1_writeHome yX1_writeHome, Cond.code yX1_writeHome cX1_writeHome 4 none, Cond.methodLink RX1 43 yX1_writeAtHome, Cond.instanceMethod yX1_writeAtHome]
def wsL_law_r18 : List Cond := [Cond.selects RX1 yX1_writeAtHome yX1_writeAtHome, Cond.code yX1_writeAtHome cX1_writeAtHome 3 none, Cond.methodLink RX1 47 yX2_clear, Cond.methodLink RX1 52 yX2_takeOut, Cond.methodLink RX1 56 yX2_put, Cond.methodLink RX5 177 yX1_end, Cond.instanceMethod yX1_end, Cond.selects RX1 yX1_end yX1_end, Cond.code yX1_end cX1_end 1 none, Cond.methodLink RL 66 yX6_commit, Cond.instanceMethod yX6_commit, Cond.selects RX6 yX6_commit yX6_commit, Cond.code yX6_commit cX6_commit 2 (some .int), Cond.methodLink RX6 145 yX6_becomes, Cond.instanceMethod yX6_becomes, Cond.selects RX6 yX6_becomes yX6_becomes, Cond.code yX6_becomes cX6_becomes 6 none, Cond.methodLink RX6 149 yX6_goes, Cond.instanceMethod yX6_goes, Cond.selects RX6 yX6_goes yX6_goes, Cond.code yX6_goes cX6_goes 1 (some .int), Cond.methodLink RL 67 yX5_abort, Cond.instanceMethod yX5_abort, Cond.selects RX5 yX5_abort yX5_abort]
def wsL_law_r19 : List Cond := [Cond.code yX5_abort cX5_abort 2 (some .int), Cond.methodLink RX5 167 yX2_copyFrom, Cond.instanceMethod yX2_copyFrom, Cond.selects RX2 yX2_copyFrom yX2_copyFrom, Cond.code yX2_copyFrom cX2_copyFrom 2 none, Cond.methodLink RL 70 yX6_abort, Cond.instanceMethod yX6_abort, Cond.selects RX6 yX6_abort yX6_abort, Cond.code yX6_abort cX6_abort 2 (some .int), Cond.methodLink RL 71 yX5_format, Cond.instanceMethod yX5_format, Cond.selects RX5 yX5_format yX5_format, Cond.code yX5_format cX5_format 1 (some .int), Cond.methodLink RL 74 yX6_format, Cond.instanceMethod yX6_format, Cond.selects RX6 yX6_format yX6_format, Cond.code yX6_format cX6_format 1 (some .int), Cond.methodLink RL 75 yX5_arm, Cond.instanceMethod yX5_arm, Cond.selects RX5 yX5_arm yX5_arm, Cond.code yX5_arm cX5_arm 3 (some .boolean), Cond.methodLink RL 79 yX6_arm, Cond.instanceMethod yX6_arm, Cond.selects RX6 yX6_arm yX6_arm]
def wsL_law_r20 : List Cond := [Cond.code yX6_arm cX6_arm 3 (some .boolean), Cond.methodLink RL 80 yX5_recover, Cond.instanceMethod yX5_recover, Cond.selects RX5 yX5_recover yX5_recover, Cond.code yX5_recover cX5_recover 1 (some .int), Cond.methodLink RL 83 yX6_recover, Cond.instanceMethod yX6_recover, Cond.selects RX6 yX6_recover yX6_recover, Cond.code yX6_recover cX6_recover 1 (some .int), Cond.methodLink RL 84 yX5_node, Cond.instanceMethod yX5_node, Cond.selects RX5 yX5_node yX5_node, Cond.code yX5_node cX5_node 5 (some .int), Cond.methodLink RX5 180 yX5_treeOf, Cond.instanceMethod yX5_treeOf, Cond.selects RX5 yX5_treeOf yX5_treeOf, Cond.code yX5_treeOf cX5_treeOf 2 (some (.object "PointStore$Tree")), Cond.methodLink RX5 188 yX4_factOf, Cond.instanceMethod yX4_factOf, Cond.selects RX4 yX4_factOf yX4_factOf, Cond.code yX4_factOf cX4_factOf 3 (some .int), Cond.methodLink RL 87 yX6_node, Cond.instanceMethod yX6_node, Cond.selects RX6 yX6_node yX6_node]
def wsL_law_r21 : List Cond := [Cond.code yX6_node cX6_node 6 (some .int), Cond.methodLink RL 88 yX5_count, Cond.instanceMethod yX5_count, Cond.selects RX5 yX5_count yX5_count, Cond.code yX5_count cX5_count 2 (some .int), Cond.fieldLink RX5 194 "PointStore$Tree" "depth" "I", Cond.methodLink RL 92 yX6_count, Cond.instanceMethod yX6_count, Cond.selects RX6 yX6_count yX6_count, Cond.code yX6_count cX6_count 2 (some .int), Cond.methodLink RX6 153 yX6_depth, Cond.instanceMethod yX6_depth, Cond.selects RX6 yX6_depth yX6_depth, Cond.code yX6_depth cX6_depth 2 (some .int)]
def wsL_law : List Cond := (wsL_law_r1 ++ (wsL_law_r2 ++ (wsL_law_r3 ++ (wsL_law_r4 ++ (wsL_law_r5 ++ (wsL_law_r6 ++ (wsL_law_r7 ++ (wsL_law_r8 ++ (wsL_law_r9 ++ (wsL_law_r10 ++ (wsL_law_r11 ++ (wsL_law_r12 ++ (wsL_law_r13 ++ (wsL_law_r14 ++ (wsL_law_r15 ++ (wsL_law_r16 ++ (wsL_law_r17 ++ (wsL_law_r18 ++ (wsL_law_r19 ++ (wsL_law_r20 ++ wsL_law_r21)))))))))))))))))))) ++ wsX50 ++ wsX60 ++ wsX20 ++ wsX10 ++ wsX40 ++ wsX00 ++ wsX30 ++ ([] : List Cond)
theorem inlX0 : ∀ w ∈ wsX00, w ∈ wsL_law := fun _ h => List.mem_append_left _ (List.mem_append_left _ (List.mem_append_right _ h))
theorem inlX1 : ∀ w ∈ wsX10, w ∈ wsL_law := fun _ h => List.mem_append_left _ (List.mem_append_left _ (List.mem_append_left _ (List.mem_append_left _ (List.mem_append_right _ h))))
theorem inlX2 : ∀ w ∈ wsX20, w ∈ wsL_law := fun _ h => List.mem_append_left _ (List.mem_append_left _ (List.mem_append_left _ (List.mem_append_left _ (List.mem_append_left _ (List.mem_append_right _ h)))))
theorem inlX3 : ∀ w ∈ wsX30, w ∈ wsL_law := fun _ h => List.mem_append_left _ (List.mem_append_right _ h)
theorem inlX4 : ∀ w ∈ wsX40, w ∈ wsL_law := fun _ h => List.mem_append_left _ (List.mem_append_left _ (List.mem_append_left _ (List.mem_append_right _ h)))
theorem inlX5 : ∀ w ∈ wsX50, w ∈ wsL_law := fun _ h => List.mem_append_left _ (List.mem_append_left _ (List.mem_append_left _ (List.mem_append_left _ (List.mem_append_left _ (List.mem_append_left _ (List.mem_append_left _ (List.mem_append_right _ h)))))))
theorem inlX6 : ∀ w ∈ wsX60, w ∈ wsL_law := fun _ h => List.mem_append_left _ (List.mem_append_left _ (List.mem_append_left _ (List.mem_append_left _ (List.mem_append_left _ (List.mem_append_left _ (List.mem_append_right _ h))))))
theorem inJ9 : ∀ w ∈ wsJ90, w ∈ lw_tbl := by decide +kernel
theorem inJ10 : ∀ w ∈ wsJ100, w ∈ lw_tbl := by decide +kernel
theorem dX0_init_0 : decode cX0_init 0 = .ok (.aload_n 0, 1) := by decide +kernel
theorem dX0_init_1 : decode cX0_init 1 = .ok (.invokespecial 3, 3) := by decide +kernel
theorem dX0_init_4 : decode cX0_init 4 = .ok (.aload_n 0, 1) := by decide +kernel
theorem dX0_init_5 : decode cX0_init 5 = .ok (.bipush 60, 2) := by decide +kernel
theorem dX0_init_7 : decode cX0_init 7 = .ok (.newarray .int, 2) := by decide +kernel
theorem dX0_init_9 : decode cX0_init 9 = .ok (.putfield 9, 3) := by decide +kernel
theorem dX0_init_12 : decode cX0_init 12 = .ok (.aload_n 0, 1) := by decide +kernel
theorem dX0_init_13 : decode cX0_init 13 = .ok (.bipush 60, 2) := by decide +kernel
theorem dX0_init_15 : decode cX0_init 15 = .ok (.newarray .int, 2) := by decide +kernel
theorem dX0_init_17 : decode cX0_init 17 = .ok (.putfield 15, 3) := by decide +kernel
theorem dX0_init_20 : decode cX0_init 20 = .ok (.aload_n 0, 1) := by decide +kernel
theorem dX0_init_21 : decode cX0_init 21 = .ok (.iconst 0, 1) := by decide +kernel
theorem dX0_init_22 : decode cX0_init 22 = .ok (.putfield 18, 3) := by decide +kernel
theorem dX0_init_25 : decode cX0_init 25 = .ok (.return_, 1) := by decide +kernel
theorem dX0_isFull_0 : decode cX0_isFull 0 = .ok (.aload_n 0, 1) := by decide +kernel
theorem dX0_isFull_1 : decode cX0_isFull 1 = .ok (.getfield 18, 3) := by decide +kernel
theorem dX0_isFull_4 : decode cX0_isFull 4 = .ok (.bipush 60, 2) := by decide +kernel
theorem dX0_isFull_6 : decode cX0_isFull 6 = .ok (.if_icmp .lt 7, 3) := by decide +kernel
theorem dX0_isFull_9 : decode cX0_isFull 9 = .ok (.iconst 1, 1) := by decide +kernel
theorem dX0_isFull_10 : decode cX0_isFull 10 = .ok (.goto 4, 3) := by decide +kernel
theorem dX0_isFull_13 : decode cX0_isFull 13 = .ok (.iconst 0, 1) := by decide +kernel
theorem dX0_isFull_14 : decode cX0_isFull 14 = .ok (.ireturn, 1) := by decide +kernel
set_option maxRecDepth 20000 in
theorem ggX0_add_X0_isFull : GoodIn wsX0_add wsX0_isFull := goodIn_r _ [8, 2, 9, 10, 11] (by decide +kernel) (by decide +kernel)
set_option maxRecDepth 20000 in
theorem gX0_add_X0_isFull : GoodIn wsX0_add (wsV RX0 22 RX0 yX0_isFull wsX0_isFull) := goodIn_app (goodIn_of _ (by decide +kernel)) ggX0_add_X0_isFull
theorem dX0_add_0 : decode cX0_add 0 = .ok (.aload_n 0, 1) := by decide +kernel
theorem dX0_add_1 : decode cX0_add 1 = .ok (.invokevirtual 22, 3) := by decide +kernel
theorem dX0_add_4 : decode cX0_add 4 = .ok (.ifCond .eq 4, 3) := by decide +kernel
theorem dX0_add_7 : decode cX0_add 7 = .ok (.return_, 1) := by decide +kernel
theorem dX0_add_8 : decode cX0_add 8 = .ok (.aload_n 0, 1) := by decide +kernel
theorem dX0_add_9 : decode cX0_add 9 = .ok (.getfield 9, 3) := by decide +kernel
theorem dX0_add_12 : decode cX0_add 12 = .ok (.aload_n 0, 1) := by decide +kernel
theorem dX0_add_13 : decode cX0_add 13 = .ok (.getfield 18, 3) := by decide +kernel
theorem dX0_add_16 : decode cX0_add 16 = .ok (.iload_n 1, 1) := by decide +kernel
theorem dX0_add_17 : decode cX0_add 17 = .ok (.iastore, 1) := by decide +kernel
theorem dX0_add_18 : decode cX0_add 18 = .ok (.aload_n 0, 1) := by decide +kernel
theorem dX0_add_19 : decode cX0_add 19 = .ok (.getfield 15, 3) := by decide +kernel
theorem dX0_add_22 : decode cX0_add 22 = .ok (.aload_n 0, 1) := by decide +kernel
theorem dX0_add_23 : decode cX0_add 23 = .ok (.getfield 18, 3) := by decide +kernel
theorem dX0_add_26 : decode cX0_add 26 = .ok (.iload_n 2, 1) := by decide +kernel
theorem dX0_add_27 : decode cX0_add 27 = .ok (.iastore, 1) := by decide +kernel
theorem dX0_add_28 : decode cX0_add 28 = .ok (.aload_n 0, 1) := by decide +kernel
theorem dX0_add_29 : decode cX0_add 29 = .ok (.dup, 1) := by decide +kernel
theorem dX0_add_30 : decode cX0_add 30 = .ok (.getfield 18, 3) := by decide +kernel
theorem dX0_add_33 : decode cX0_add 33 = .ok (.iconst 1, 1) := by decide +kernel
theorem dX0_add_34 : decode cX0_add 34 = .ok (.iadd, 1) := by decide +kernel
theorem dX0_add_35 : decode cX0_add 35 = .ok (.putfield 18, 3) := by decide +kernel
theorem dX0_add_38 : decode cX0_add 38 = .ok (.return_, 1) := by decide +kernel
theorem dX0_clear_0 : decode cX0_clear 0 = .ok (.aload_n 0, 1) := by decide +kernel
theorem dX0_clear_1 : decode cX0_clear 1 = .ok (.iconst 0, 1) := by decide +kernel
theorem dX0_clear_2 : decode cX0_clear 2 = .ok (.putfield 18, 3) := by decide +kernel
theorem dX0_clear_5 : decode cX0_clear 5 = .ok (.return_, 1) := by decide +kernel
theorem dX1_init_0 : decode cX1_init 0 = .ok (.aload_n 0, 1) := by decide +kernel
theorem dX1_init_1 : decode cX1_init 1 = .ok (.invokespecial 3, 3) := by decide +kernel
theorem dX1_init_4 : decode cX1_init 4 = .ok (.aload_n 0, 1) := by decide +kernel
theorem dX1_init_5 : decode cX1_init 5 = .ok (.bipush 60, 2) := by decide +kernel
theorem dX1_init_7 : decode cX1_init 7 = .ok (.newarray .int, 2) := by decide +kernel
theorem dX1_init_9 : decode cX1_init 9 = .ok (.putfield 9, 3) := by decide +kernel
theorem dX1_init_12 : decode cX1_init 12 = .ok (.aload_n 0, 1) := by decide +kernel
theorem dX1_init_13 : decode cX1_init 13 = .ok (.bipush 60, 2) := by decide +kernel
theorem dX1_init_15 : decode cX1_init 15 = .ok (.newarray .int, 2) := by decide +kernel
theorem dX1_init_17 : decode cX1_init 17 = .ok (.putfield 15, 3) := by decide +kernel
theorem dX1_init_20 : decode cX1_init 20 = .ok (.aload_n 0, 1) := by decide +kernel
theorem dX1_init_21 : decode cX1_init 21 = .ok (.iconst 0, 1) := by decide +kernel
theorem dX1_init_22 : decode cX1_init 22 = .ok (.putfield 18, 3) := by decide +kernel
theorem dX1_init_25 : decode cX1_init 25 = .ok (.aload_n 0, 1) := by decide +kernel
theorem dX1_init_26 : decode cX1_init 26 = .ok (.aload_n 1, 1) := by decide +kernel
theorem dX1_init_27 : decode cX1_init 27 = .ok (.putfield 22, 3) := by decide +kernel
theorem dX1_init_30 : decode cX1_init 30 = .ok (.return_, 1) := by decide +kernel
theorem dX1_writeLog_0 : decode cX1_writeLog 0 = .ok (.aload_n 1, 1) := by decide +kernel
theorem dX1_writeLog_1 : decode cX1_writeLog 1 = .ok (.getfield 26, 3) := by decide +kernel
theorem dX1_writeLog_4 : decode cX1_writeLog 4 = .ok (.iload_n 2, 1) := by decide +kernel
theorem dX1_writeLog_5 : decode cX1_writeLog 5 = .ok (.imul, 1) := by decide +kernel
theorem dX1_writeLog_6 : decode cX1_writeLog 6 = .ok (.sipush 256, 3) := by decide +kernel
theorem dX1_writeLog_9 : decode cX1_writeLog 9 = .ok (.idiv, 1) := by decide +kernel
theorem dX1_writeLog_10 : decode cX1_writeLog 10 = .ok (.istore_n 3, 1) := by decide +kernel
theorem dX1_writeLog_11 : decode cX1_writeLog 11 = .ok (.aload_n 1, 1) := by decide +kernel
theorem dX1_writeLog_12 : decode cX1_writeLog 12 = .ok (.getfield 31, 3) := by decide +kernel
theorem dX1_writeLog_15 : decode cX1_writeLog 15 = .ok (.iconst 0, 1) := by decide +kernel
theorem dX1_writeLog_16 : decode cX1_writeLog 16 = .ok (.aload_n 0, 1) := by decide +kernel
theorem dX1_writeLog_17 : decode cX1_writeLog 17 = .ok (.getfield 9, 3) := by decide +kernel
theorem dX1_writeLog_20 : decode cX1_writeLog 20 = .ok (.iconst 0, 1) := by decide +kernel
theorem dX1_writeLog_21 : decode cX1_writeLog 21 = .ok (.iload_n 3, 1) := by decide +kernel
theorem dX1_writeLog_22 : decode cX1_writeLog 22 = .ok (.invokestatic 34, 3) := by decide +kernel
theorem dX1_writeLog_25 : decode cX1_writeLog 25 = .ok (.aload_n 1, 1) := by decide +kernel
theorem dX1_writeLog_26 : decode cX1_writeLog 26 = .ok (.getfield 40, 3) := by decide +kernel
theorem dX1_writeLog_29 : decode cX1_writeLog 29 = .ok (.iconst 0, 1) := by decide +kernel
theorem dX1_writeLog_30 : decode cX1_writeLog 30 = .ok (.aload_n 0, 1) := by decide +kernel
theorem dX1_writeLog_31 : decode cX1_writeLog 31 = .ok (.getfield 15, 3) := by decide +kernel
theorem dX1_writeLog_34 : decode cX1_writeLog 34 = .ok (.iconst 0, 1) := by decide +kernel
theorem dX1_writeLog_35 : decode cX1_writeLog 35 = .ok (.iload_n 3, 1) := by decide +kernel
theorem dX1_writeLog_36 : decode cX1_writeLog 36 = .ok (.invokestatic 34, 3) := by decide +kernel
theorem dX1_writeLog_39 : decode cX1_writeLog 39 = .ok (.iload_n 3, 1) := by decide +kernel
theorem dX1_writeLog_40 : decode cX1_writeLog 40 = .ok (.aload_n 1, 1) := by decide +kernel
theorem dX1_writeLog_41 : decode cX1_writeLog 41 = .ok (.getfield 26, 3) := by decide +kernel
theorem dX1_writeLog_44 : decode cX1_writeLog 44 = .ok (.if_icmp .ge 15, 3) := by decide +kernel
theorem dX1_writeLog_47 : decode cX1_writeLog 47 = .ok (.aload_n 0, 1) := by decide +kernel
theorem dX1_writeLog_48 : decode cX1_writeLog 48 = .ok (.getfield 9, 3) := by decide +kernel
theorem dX1_writeLog_51 : decode cX1_writeLog 51 = .ok (.iload_n 3, 1) := by decide +kernel
theorem dX1_writeLog_52 : decode cX1_writeLog 52 = .ok (.aload_n 1, 1) := by decide +kernel
theorem dX1_writeLog_53 : decode cX1_writeLog 53 = .ok (.getfield 31, 3) := by decide +kernel
theorem dX1_writeLog_56 : decode cX1_writeLog 56 = .ok (.iload_n 3, 1) := by decide +kernel
theorem dX1_writeLog_57 : decode cX1_writeLog 57 = .ok (.iaload, 1) := by decide +kernel
theorem dX1_writeLog_58 : decode cX1_writeLog 58 = .ok (.iastore, 1) := by decide +kernel
theorem dX1_writeLog_59 : decode cX1_writeLog 59 = .ok (.return_, 1) := by decide +kernel
theorem dX1_seal_0 : decode cX1_seal 0 = .ok (.aload_n 0, 1) := by decide +kernel
theorem dX1_seal_1 : decode cX1_seal 1 = .ok (.iload_n 1, 1) := by decide +kernel
theorem dX1_seal_2 : decode cX1_seal 2 = .ok (.putfield 18, 3) := by decide +kernel
theorem dX1_seal_5 : decode cX1_seal 5 = .ok (.return_, 1) := by decide +kernel
set_option maxRecDepth 20000 in
theorem ggX1_writeHome_X1_writeAtHome : GoodIn wsX1_writeHome wsX1_writeAtHome := goodIn_r _ [8, 9, 10, 11, 12, 13, 14, 15, 16, 17, 18, 19, 20, 21, 22, 23, 24, 25, 26, 27, 28, 29, 30, 31, 32, 33, 34, 35, 36, 37, 38, 39, 40, 41, 42, 43, 44, 45, 46, 47, 48, 49, 50, 51] (by decide +kernel) (by decide +kernel)
set_option maxRecDepth 20000 in
theorem gX1_writeHome_X1_writeAtHome : GoodIn wsX1_writeHome (wsV RX1 43 RX1 yX1_writeAtHome wsX1_writeAtHome) := goodIn_app (goodIn_of _ (by decide +kernel)) ggX1_writeHome_X1_writeAtHome
theorem dX1_writeHome_0 : decode cX1_writeHome 0 = .ok (.aload_n 0, 1) := by decide +kernel
theorem dX1_writeHome_1 : decode cX1_writeHome 1 = .ok (.getfield 18, 3) := by decide +kernel
theorem dX1_writeHome_4 : decode cX1_writeHome 4 = .ok (.iload_n 1, 1) := by decide +kernel
theorem dX1_writeHome_5 : decode cX1_writeHome 5 = .ok (.imul, 1) := by decide +kernel
theorem dX1_writeHome_6 : decode cX1_writeHome 6 = .ok (.sipush 256, 3) := by decide +kernel
theorem dX1_writeHome_9 : decode cX1_writeHome 9 = .ok (.idiv, 1) := by decide +kernel
theorem dX1_writeHome_10 : decode cX1_writeHome 10 = .ok (.istore_n 2, 1) := by decide +kernel
theorem dX1_writeHome_11 : decode cX1_writeHome 11 = .ok (.iconst 0, 1) := by decide +kernel
theorem dX1_writeHome_12 : decode cX1_writeHome 12 = .ok (.istore_n 3, 1) := by decide +kernel
theorem dX1_writeHome_13 : decode cX1_writeHome 13 = .ok (.iload_n 3, 1) := by decide +kernel
theorem dX1_writeHome_14 : decode cX1_writeHome 14 = .ok (.iload_n 2, 1) := by decide +kernel
theorem dX1_writeHome_15 : decode cX1_writeHome 15 = .ok (.if_icmp .ge 25, 3) := by decide +kernel
theorem dX1_writeHome_18 : decode cX1_writeHome 18 = .ok (.aload_n 0, 1) := by decide +kernel
theorem dX1_writeHome_19 : decode cX1_writeHome 19 = .ok (.aload_n 0, 1) := by decide +kernel
theorem dX1_writeHome_20 : decode cX1_writeHome 20 = .ok (.getfield 9, 3) := by decide +kernel
theorem dX1_writeHome_23 : decode cX1_writeHome 23 = .ok (.iload_n 3, 1) := by decide +kernel
theorem dX1_writeHome_24 : decode cX1_writeHome 24 = .ok (.iaload, 1) := by decide +kernel
theorem dX1_writeHome_25 : decode cX1_writeHome 25 = .ok (.aload_n 0, 1) := by decide +kernel
theorem dX1_writeHome_26 : decode cX1_writeHome 26 = .ok (.getfield 15, 3) := by decide +kernel
theorem dX1_writeHome_29 : decode cX1_writeHome 29 = .ok (.iload_n 3, 1) := by decide +kernel
theorem dX1_writeHome_30 : decode cX1_writeHome 30 = .ok (.iaload, 1) := by decide +kernel
theorem dX1_writeHome_31 : decode cX1_writeHome 31 = .ok (.invokevirtual 43, 3) := by decide +kernel
theorem dX1_writeHome_34 : decode cX1_writeHome 34 = .ok (.iinc 3 1, 3) := by decide +kernel
theorem dX1_writeHome_37 : decode cX1_writeHome 37 = .ok (.goto (-24), 3) := by decide +kernel
theorem dX1_writeHome_40 : decode cX1_writeHome 40 = .ok (.return_, 1) := by decide +kernel
theorem dX1_end_0 : decode cX1_end 0 = .ok (.aload_n 0, 1) := by decide +kernel
theorem dX1_end_1 : decode cX1_end 1 = .ok (.iconst 0, 1) := by decide +kernel
theorem dX1_end_2 : decode cX1_end 2 = .ok (.putfield 18, 3) := by decide +kernel
theorem dX1_end_5 : decode cX1_end 5 = .ok (.return_, 1) := by decide +kernel
set_option maxRecDepth 20000 in
theorem ggX1_writeAtHome_X2_clear : GoodIn wsX1_writeAtHome wsX2_clear := goodIn_r _ [6, 7, 8, 40, 41, 42, 43] (by decide +kernel) (by decide +kernel)
set_option maxRecDepth 20000 in
theorem gX1_writeAtHome_X2_clear : GoodIn wsX1_writeAtHome (wsV RX1 47 RX2 yX2_clear wsX2_clear) := goodIn_app (goodIn_of _ (by decide +kernel)) ggX1_writeAtHome_X2_clear
set_option maxRecDepth 20000 in
theorem ggX1_writeAtHome_X2_takeOut : GoodIn wsX1_writeAtHome wsX2_takeOut := goodIn_r _ [12, 13, 7, 14, 15, 16, 17, 18, 8, 19, 20, 21, 5, 22, 23, 24, 25, 26, 27, 40, 41, 42, 43] (by decide +kernel) (by decide +kernel)
set_option maxRecDepth 20000 in
theorem gX1_writeAtHome_X2_takeOut : GoodIn wsX1_writeAtHome (wsV RX1 52 RX2 yX2_takeOut wsX2_takeOut) := goodIn_app (goodIn_of _ (by decide +kernel)) ggX1_writeAtHome_X2_takeOut
set_option maxRecDepth 20000 in
theorem ggX1_writeAtHome_X2_put : GoodIn wsX1_writeAtHome wsX2_put := goodIn_r _ [31, 13, 7, 14, 15, 16, 17, 18, 8, 19, 20, 21, 5, 22, 23, 24, 25, 26, 27, 32, 33, 34, 35, 40, 41, 42, 43] (by decide +kernel) (by decide +kernel)
set_option maxRecDepth 20000 in
theorem gX1_writeAtHome_X2_put : GoodIn wsX1_writeAtHome (wsV RX1 56 RX2 yX2_put wsX2_put) := goodIn_app (goodIn_of _ (by decide +kernel)) ggX1_writeAtHome_X2_put
theorem dX1_writeAtHome_0 : decode cX1_writeAtHome 0 = .ok (.iload_n 1, 1) := by decide +kernel
theorem dX1_writeAtHome_1 : decode cX1_writeAtHome 1 = .ok (.iconst (-1), 1) := by decide +kernel
theorem dX1_writeAtHome_2 : decode cX1_writeAtHome 2 = .ok (.if_icmp .ne 13, 3) := by decide +kernel
theorem dX1_writeAtHome_5 : decode cX1_writeAtHome 5 = .ok (.aload_n 0, 1) := by decide +kernel
theorem dX1_writeAtHome_6 : decode cX1_writeAtHome 6 = .ok (.getfield 22, 3) := by decide +kernel
theorem dX1_writeAtHome_9 : decode cX1_writeAtHome 9 = .ok (.invokevirtual 47, 3) := by decide +kernel
theorem dX1_writeAtHome_12 : decode cX1_writeAtHome 12 = .ok (.goto 28, 3) := by decide +kernel
theorem dX1_writeAtHome_15 : decode cX1_writeAtHome 15 = .ok (.iload_n 2, 1) := by decide +kernel
theorem dX1_writeAtHome_16 : decode cX1_writeAtHome 16 = .ok (.iconst (-1), 1) := by decide +kernel
theorem dX1_writeAtHome_17 : decode cX1_writeAtHome 17 = .ok (.if_icmp .ne 14, 3) := by decide +kernel
theorem dX1_writeAtHome_20 : decode cX1_writeAtHome 20 = .ok (.aload_n 0, 1) := by decide +kernel
theorem dX1_writeAtHome_21 : decode cX1_writeAtHome 21 = .ok (.getfield 22, 3) := by decide +kernel
theorem dX1_writeAtHome_24 : decode cX1_writeAtHome 24 = .ok (.iload_n 1, 1) := by decide +kernel
theorem dX1_writeAtHome_25 : decode cX1_writeAtHome 25 = .ok (.invokevirtual 52, 3) := by decide +kernel
theorem dX1_writeAtHome_28 : decode cX1_writeAtHome 28 = .ok (.goto 12, 3) := by decide +kernel
theorem dX1_writeAtHome_31 : decode cX1_writeAtHome 31 = .ok (.aload_n 0, 1) := by decide +kernel
theorem dX1_writeAtHome_32 : decode cX1_writeAtHome 32 = .ok (.getfield 22, 3) := by decide +kernel
theorem dX1_writeAtHome_35 : decode cX1_writeAtHome 35 = .ok (.iload_n 1, 1) := by decide +kernel
theorem dX1_writeAtHome_36 : decode cX1_writeAtHome 36 = .ok (.iload_n 2, 1) := by decide +kernel
theorem dX1_writeAtHome_37 : decode cX1_writeAtHome 37 = .ok (.invokevirtual 56, 3) := by decide +kernel
theorem dX1_writeAtHome_40 : decode cX1_writeAtHome 40 = .ok (.return_, 1) := by decide +kernel
theorem dX2_init_0 : decode cX2_init 0 = .ok (.aload_n 0, 1) := by decide +kernel
theorem dX2_init_1 : decode cX2_init 1 = .ok (.invokespecial 3, 3) := by decide +kernel
theorem dX2_init_4 : decode cX2_init 4 = .ok (.aload_n 0, 1) := by decide +kernel
theorem dX2_init_5 : decode cX2_init 5 = .ok (.sipush 512, 3) := by decide +kernel
theorem dX2_init_8 : decode cX2_init 8 = .ok (.newarray .int, 2) := by decide +kernel
theorem dX2_init_10 : decode cX2_init 10 = .ok (.putfield 9, 3) := by decide +kernel
theorem dX2_init_13 : decode cX2_init 13 = .ok (.aload_n 0, 1) := by decide +kernel
theorem dX2_init_14 : decode cX2_init 14 = .ok (.sipush 512, 3) := by decide +kernel
theorem dX2_init_17 : decode cX2_init 17 = .ok (.newarray .int, 2) := by decide +kernel
theorem dX2_init_19 : decode cX2_init 19 = .ok (.putfield 15, 3) := by decide +kernel
theorem dX2_init_22 : decode cX2_init 22 = .ok (.aload_n 0, 1) := by decide +kernel
theorem dX2_init_23 : decode cX2_init 23 = .ok (.iconst 0, 1) := by decide +kernel
theorem dX2_init_24 : decode cX2_init 24 = .ok (.putfield 18, 3) := by decide +kernel
theorem dX2_init_27 : decode cX2_init 27 = .ok (.aload_n 0, 1) := by decide +kernel
theorem dX2_init_28 : decode cX2_init 28 = .ok (.iconst 0, 1) := by decide +kernel
theorem dX2_init_29 : decode cX2_init 29 = .ok (.putfield 22, 3) := by decide +kernel
theorem dX2_init_32 : decode cX2_init 32 = .ok (.return_, 1) := by decide +kernel
theorem dX2_isFull_0 : decode cX2_isFull 0 = .ok (.aload_n 0, 1) := by decide +kernel
theorem dX2_isFull_1 : decode cX2_isFull 1 = .ok (.getfield 18, 3) := by decide +kernel
theorem dX2_isFull_4 : decode cX2_isFull 4 = .ok (.sipush 512, 3) := by decide +kernel
theorem dX2_isFull_7 : decode cX2_isFull 7 = .ok (.if_icmp .lt 7, 3) := by decide +kernel
theorem dX2_isFull_10 : decode cX2_isFull 10 = .ok (.iconst 1, 1) := by decide +kernel
theorem dX2_isFull_11 : decode cX2_isFull 11 = .ok (.goto 4, 3) := by decide +kernel
theorem dX2_isFull_14 : decode cX2_isFull 14 = .ok (.iconst 0, 1) := by decide +kernel
theorem dX2_isFull_15 : decode cX2_isFull 15 = .ok (.ireturn, 1) := by decide +kernel
theorem dX2_keyAt_0 : decode cX2_keyAt 0 = .ok (.iload_n 1, 1) := by decide +kernel
theorem dX2_keyAt_1 : decode cX2_keyAt 1 = .ok (.ifCond .lt 20, 3) := by decide +kernel
theorem dX2_keyAt_4 : decode cX2_keyAt 4 = .ok (.iload_n 1, 1) := by decide +kernel
theorem dX2_keyAt_5 : decode cX2_keyAt 5 = .ok (.aload_n 0, 1) := by decide +kernel
theorem dX2_keyAt_6 : decode cX2_keyAt 6 = .ok (.getfield 18, 3) := by decide +kernel
theorem dX2_keyAt_9 : decode cX2_keyAt 9 = .ok (.if_icmp .ge 12, 3) := by decide +kernel
theorem dX2_keyAt_12 : decode cX2_keyAt 12 = .ok (.aload_n 0, 1) := by decide +kernel
theorem dX2_keyAt_13 : decode cX2_keyAt 13 = .ok (.getfield 9, 3) := by decide +kernel
theorem dX2_keyAt_16 : decode cX2_keyAt 16 = .ok (.iload_n 1, 1) := by decide +kernel
theorem dX2_keyAt_17 : decode cX2_keyAt 17 = .ok (.iaload, 1) := by decide +kernel
theorem dX2_keyAt_18 : decode cX2_keyAt 18 = .ok (.goto 5, 3) := by decide +kernel
theorem dX2_keyAt_21 : decode cX2_keyAt 21 = .ok (.ldc 25, 2) := by decide +kernel
theorem dX2_keyAt_23 : decode cX2_keyAt 23 = .ok (.ireturn, 1) := by decide +kernel
set_option maxRecDepth 20000 in
theorem ggX2_valueOf_X2_placeOf : GoodIn wsX2_valueOf wsX2_placeOf := goodIn_r _ [6, 7, 8, 14, 15, 16, 17] (by decide +kernel) (by decide +kernel)
set_option maxRecDepth 20000 in
theorem gX2_valueOf_X2_placeOf : GoodIn wsX2_valueOf (wsV RX2 26 RX2 yX2_placeOf wsX2_placeOf) := goodIn_app (goodIn_of _ (by decide +kernel)) ggX2_valueOf_X2_placeOf
set_option maxRecDepth 20000 in
theorem ggX2_valueOf_X2_keyAt : GoodIn wsX2_valueOf wsX2_keyAt := goodIn_r _ [12, 7, 8, 13, 14, 15, 16, 17] (by decide +kernel) (by decide +kernel)
set_option maxRecDepth 20000 in
theorem gX2_valueOf_X2_keyAt : GoodIn wsX2_valueOf (wsV RX2 30 RX2 yX2_keyAt wsX2_keyAt) := goodIn_app (goodIn_of _ (by decide +kernel)) ggX2_valueOf_X2_keyAt
theorem dX2_valueOf_0 : decode cX2_valueOf 0 = .ok (.aload_n 0, 1) := by decide +kernel
theorem dX2_valueOf_1 : decode cX2_valueOf 1 = .ok (.iload_n 1, 1) := by decide +kernel
theorem dX2_valueOf_2 : decode cX2_valueOf 2 = .ok (.invokevirtual 26, 3) := by decide +kernel
theorem dX2_valueOf_5 : decode cX2_valueOf 5 = .ok (.istore_n 2, 1) := by decide +kernel
theorem dX2_valueOf_6 : decode cX2_valueOf 6 = .ok (.aload_n 0, 1) := by decide +kernel
theorem dX2_valueOf_7 : decode cX2_valueOf 7 = .ok (.iload_n 2, 1) := by decide +kernel
theorem dX2_valueOf_8 : decode cX2_valueOf 8 = .ok (.invokevirtual 30, 3) := by decide +kernel
theorem dX2_valueOf_11 : decode cX2_valueOf 11 = .ok (.iload_n 1, 1) := by decide +kernel
theorem dX2_valueOf_12 : decode cX2_valueOf 12 = .ok (.if_icmp .ne 12, 3) := by decide +kernel
theorem dX2_valueOf_15 : decode cX2_valueOf 15 = .ok (.aload_n 0, 1) := by decide +kernel
theorem dX2_valueOf_16 : decode cX2_valueOf 16 = .ok (.getfield 15, 3) := by decide +kernel
theorem dX2_valueOf_19 : decode cX2_valueOf 19 = .ok (.iload_n 2, 1) := by decide +kernel
theorem dX2_valueOf_20 : decode cX2_valueOf 20 = .ok (.iaload, 1) := by decide +kernel
theorem dX2_valueOf_21 : decode cX2_valueOf 21 = .ok (.goto 4, 3) := by decide +kernel
theorem dX2_valueOf_24 : decode cX2_valueOf 24 = .ok (.iconst (-1), 1) := by decide +kernel
theorem dX2_valueOf_25 : decode cX2_valueOf 25 = .ok (.ireturn, 1) := by decide +kernel
set_option maxRecDepth 20000 in
theorem ggX2_put_X2_placeOf : GoodIn wsX2_put wsX2_placeOf := goodIn_r _ [13, 2, 1, 23, 24, 25, 26] (by decide +kernel) (by decide +kernel)
set_option maxRecDepth 20000 in
theorem gX2_put_X2_placeOf : GoodIn wsX2_put (wsV RX2 26 RX2 yX2_placeOf wsX2_placeOf) := goodIn_app (goodIn_of _ (by decide +kernel)) ggX2_put_X2_placeOf
set_option maxRecDepth 20000 in
theorem ggX2_put_X2_keyAt : GoodIn wsX2_put wsX2_keyAt := goodIn_r _ [17, 2, 1, 18, 23, 24, 25, 26] (by decide +kernel) (by decide +kernel)
set_option maxRecDepth 20000 in
theorem gX2_put_X2_keyAt : GoodIn wsX2_put (wsV RX2 30 RX2 yX2_keyAt wsX2_keyAt) := goodIn_app (goodIn_of _ (by decide +kernel)) ggX2_put_X2_keyAt
set_option maxRecDepth 20000 in
theorem ggX2_put_X2_isFull : GoodIn wsX2_put wsX2_isFull := goodIn_r _ [22, 2, 23, 24, 25, 26] (by decide +kernel) (by decide +kernel)
set_option maxRecDepth 20000 in
theorem gX2_put_X2_isFull : GoodIn wsX2_put (wsV RX2 33 RX2 yX2_isFull wsX2_isFull) := goodIn_app (goodIn_of _ (by decide +kernel)) ggX2_put_X2_isFull
theorem dX2_put_0 : decode cX2_put 0 = .ok (.aload_n 0, 1) := by decide +kernel
theorem dX2_put_1 : decode cX2_put 1 = .ok (.iload_n 1, 1) := by decide +kernel
theorem dX2_put_2 : decode cX2_put 2 = .ok (.invokevirtual 26, 3) := by decide +kernel
theorem dX2_put_5 : decode cX2_put 5 = .ok (.istore_n 3, 1) := by decide +kernel
theorem dX2_put_6 : decode cX2_put 6 = .ok (.aload_n 0, 1) := by decide +kernel
theorem dX2_put_7 : decode cX2_put 7 = .ok (.iload_n 3, 1) := by decide +kernel
theorem dX2_put_8 : decode cX2_put 8 = .ok (.invokevirtual 30, 3) := by decide +kernel
theorem dX2_put_11 : decode cX2_put 11 = .ok (.iload_n 1, 1) := by decide +kernel
theorem dX2_put_12 : decode cX2_put 12 = .ok (.if_icmp .eq 70, 3) := by decide +kernel
theorem dX2_put_15 : decode cX2_put 15 = .ok (.aload_n 0, 1) := by decide +kernel
theorem dX2_put_16 : decode cX2_put 16 = .ok (.invokevirtual 33, 3) := by decide +kernel
theorem dX2_put_19 : decode cX2_put 19 = .ok (.ifCond .eq 4, 3) := by decide +kernel
theorem dX2_put_22 : decode cX2_put 22 = .ok (.return_, 1) := by decide +kernel
theorem dX2_put_23 : decode cX2_put 23 = .ok (.aload_n 0, 1) := by decide +kernel
theorem dX2_put_24 : decode cX2_put 24 = .ok (.getfield 9, 3) := by decide +kernel
theorem dX2_put_27 : decode cX2_put 27 = .ok (.iload_n 3, 1) := by decide +kernel
theorem dX2_put_28 : decode cX2_put 28 = .ok (.aload_n 0, 1) := by decide +kernel
theorem dX2_put_29 : decode cX2_put 29 = .ok (.getfield 9, 3) := by decide +kernel
theorem dX2_put_32 : decode cX2_put 32 = .ok (.iload_n 3, 1) := by decide +kernel
theorem dX2_put_33 : decode cX2_put 33 = .ok (.iconst 1, 1) := by decide +kernel
theorem dX2_put_34 : decode cX2_put 34 = .ok (.iadd, 1) := by decide +kernel
theorem dX2_put_35 : decode cX2_put 35 = .ok (.aload_n 0, 1) := by decide +kernel
theorem dX2_put_36 : decode cX2_put 36 = .ok (.getfield 18, 3) := by decide +kernel
theorem dX2_put_39 : decode cX2_put 39 = .ok (.iload_n 3, 1) := by decide +kernel
theorem dX2_put_40 : decode cX2_put 40 = .ok (.isub, 1) := by decide +kernel
theorem dX2_put_41 : decode cX2_put 41 = .ok (.invokestatic 37, 3) := by decide +kernel
theorem dX2_put_44 : decode cX2_put 44 = .ok (.aload_n 0, 1) := by decide +kernel
theorem dX2_put_45 : decode cX2_put 45 = .ok (.getfield 15, 3) := by decide +kernel
theorem dX2_put_48 : decode cX2_put 48 = .ok (.iload_n 3, 1) := by decide +kernel
theorem dX2_put_49 : decode cX2_put 49 = .ok (.aload_n 0, 1) := by decide +kernel
theorem dX2_put_50 : decode cX2_put 50 = .ok (.getfield 15, 3) := by decide +kernel
theorem dX2_put_53 : decode cX2_put 53 = .ok (.iload_n 3, 1) := by decide +kernel
theorem dX2_put_54 : decode cX2_put 54 = .ok (.iconst 1, 1) := by decide +kernel
theorem dX2_put_55 : decode cX2_put 55 = .ok (.iadd, 1) := by decide +kernel
theorem dX2_put_56 : decode cX2_put 56 = .ok (.aload_n 0, 1) := by decide +kernel
theorem dX2_put_57 : decode cX2_put 57 = .ok (.getfield 18, 3) := by decide +kernel
theorem dX2_put_60 : decode cX2_put 60 = .ok (.iload_n 3, 1) := by decide +kernel
theorem dX2_put_61 : decode cX2_put 61 = .ok (.isub, 1) := by decide +kernel
theorem dX2_put_62 : decode cX2_put 62 = .ok (.invokestatic 37, 3) := by decide +kernel
theorem dX2_put_65 : decode cX2_put 65 = .ok (.aload_n 0, 1) := by decide +kernel
theorem dX2_put_66 : decode cX2_put 66 = .ok (.getfield 9, 3) := by decide +kernel
theorem dX2_put_69 : decode cX2_put 69 = .ok (.iload_n 3, 1) := by decide +kernel
theorem dX2_put_70 : decode cX2_put 70 = .ok (.iload_n 1, 1) := by decide +kernel
theorem dX2_put_71 : decode cX2_put 71 = .ok (.iastore, 1) := by decide +kernel
theorem dX2_put_72 : decode cX2_put 72 = .ok (.aload_n 0, 1) := by decide +kernel
theorem dX2_put_73 : decode cX2_put 73 = .ok (.dup, 1) := by decide +kernel
theorem dX2_put_74 : decode cX2_put 74 = .ok (.getfield 18, 3) := by decide +kernel
theorem dX2_put_77 : decode cX2_put 77 = .ok (.iconst 1, 1) := by decide +kernel
theorem dX2_put_78 : decode cX2_put 78 = .ok (.iadd, 1) := by decide +kernel
theorem dX2_put_79 : decode cX2_put 79 = .ok (.putfield 18, 3) := by decide +kernel
theorem dX2_put_82 : decode cX2_put 82 = .ok (.aload_n 0, 1) := by decide +kernel
theorem dX2_put_83 : decode cX2_put 83 = .ok (.getfield 15, 3) := by decide +kernel
theorem dX2_put_86 : decode cX2_put 86 = .ok (.iload_n 3, 1) := by decide +kernel
theorem dX2_put_87 : decode cX2_put 87 = .ok (.iload_n 2, 1) := by decide +kernel
theorem dX2_put_88 : decode cX2_put 88 = .ok (.iastore, 1) := by decide +kernel
theorem dX2_put_89 : decode cX2_put 89 = .ok (.aload_n 0, 1) := by decide +kernel
theorem dX2_put_90 : decode cX2_put 90 = .ok (.dup, 1) := by decide +kernel
theorem dX2_put_91 : decode cX2_put 91 = .ok (.getfield 22, 3) := by decide +kernel
theorem dX2_put_94 : decode cX2_put 94 = .ok (.iconst 1, 1) := by decide +kernel
theorem dX2_put_95 : decode cX2_put 95 = .ok (.iadd, 1) := by decide +kernel
theorem dX2_put_96 : decode cX2_put 96 = .ok (.putfield 22, 3) := by decide +kernel
theorem dX2_put_99 : decode cX2_put 99 = .ok (.return_, 1) := by decide +kernel
set_option maxRecDepth 20000 in
theorem ggX2_takeOut_X2_placeOf : GoodIn wsX2_takeOut wsX2_placeOf := goodIn_r _ [13, 2, 1, 19, 20, 21, 22] (by decide +kernel) (by decide +kernel)
set_option maxRecDepth 20000 in
theorem gX2_takeOut_X2_placeOf : GoodIn wsX2_takeOut (wsV RX2 26 RX2 yX2_placeOf wsX2_placeOf) := goodIn_app (goodIn_of _ (by decide +kernel)) ggX2_takeOut_X2_placeOf
set_option maxRecDepth 20000 in
theorem ggX2_takeOut_X2_keyAt : GoodIn wsX2_takeOut wsX2_keyAt := goodIn_r _ [17, 2, 1, 18, 19, 20, 21, 22] (by decide +kernel) (by decide +kernel)
set_option maxRecDepth 20000 in
theorem gX2_takeOut_X2_keyAt : GoodIn wsX2_takeOut (wsV RX2 30 RX2 yX2_keyAt wsX2_keyAt) := goodIn_app (goodIn_of _ (by decide +kernel)) ggX2_takeOut_X2_keyAt
theorem dX2_takeOut_0 : decode cX2_takeOut 0 = .ok (.aload_n 0, 1) := by decide +kernel
theorem dX2_takeOut_1 : decode cX2_takeOut 1 = .ok (.iload_n 1, 1) := by decide +kernel
theorem dX2_takeOut_2 : decode cX2_takeOut 2 = .ok (.invokevirtual 26, 3) := by decide +kernel
theorem dX2_takeOut_5 : decode cX2_takeOut 5 = .ok (.istore_n 2, 1) := by decide +kernel
theorem dX2_takeOut_6 : decode cX2_takeOut 6 = .ok (.aload_n 0, 1) := by decide +kernel
theorem dX2_takeOut_7 : decode cX2_takeOut 7 = .ok (.iload_n 2, 1) := by decide +kernel
theorem dX2_takeOut_8 : decode cX2_takeOut 8 = .ok (.invokevirtual 30, 3) := by decide +kernel
theorem dX2_takeOut_11 : decode cX2_takeOut 11 = .ok (.iload_n 1, 1) := by decide +kernel
theorem dX2_takeOut_12 : decode cX2_takeOut 12 = .ok (.if_icmp .eq 4, 3) := by decide +kernel
theorem dX2_takeOut_15 : decode cX2_takeOut 15 = .ok (.return_, 1) := by decide +kernel
theorem dX2_takeOut_16 : decode cX2_takeOut 16 = .ok (.aload_n 0, 1) := by decide +kernel
theorem dX2_takeOut_17 : decode cX2_takeOut 17 = .ok (.getfield 9, 3) := by decide +kernel
theorem dX2_takeOut_20 : decode cX2_takeOut 20 = .ok (.iload_n 2, 1) := by decide +kernel
theorem dX2_takeOut_21 : decode cX2_takeOut 21 = .ok (.iconst 1, 1) := by decide +kernel
theorem dX2_takeOut_22 : decode cX2_takeOut 22 = .ok (.iadd, 1) := by decide +kernel
theorem dX2_takeOut_23 : decode cX2_takeOut 23 = .ok (.aload_n 0, 1) := by decide +kernel
theorem dX2_takeOut_24 : decode cX2_takeOut 24 = .ok (.getfield 9, 3) := by decide +kernel
theorem dX2_takeOut_27 : decode cX2_takeOut 27 = .ok (.iload_n 2, 1) := by decide +kernel
theorem dX2_takeOut_28 : decode cX2_takeOut 28 = .ok (.aload_n 0, 1) := by decide +kernel
theorem dX2_takeOut_29 : decode cX2_takeOut 29 = .ok (.getfield 18, 3) := by decide +kernel
theorem dX2_takeOut_32 : decode cX2_takeOut 32 = .ok (.iload_n 2, 1) := by decide +kernel
theorem dX2_takeOut_33 : decode cX2_takeOut 33 = .ok (.isub, 1) := by decide +kernel
theorem dX2_takeOut_34 : decode cX2_takeOut 34 = .ok (.iconst 1, 1) := by decide +kernel
theorem dX2_takeOut_35 : decode cX2_takeOut 35 = .ok (.isub, 1) := by decide +kernel
theorem dX2_takeOut_36 : decode cX2_takeOut 36 = .ok (.invokestatic 37, 3) := by decide +kernel
theorem dX2_takeOut_39 : decode cX2_takeOut 39 = .ok (.aload_n 0, 1) := by decide +kernel
theorem dX2_takeOut_40 : decode cX2_takeOut 40 = .ok (.getfield 15, 3) := by decide +kernel
theorem dX2_takeOut_43 : decode cX2_takeOut 43 = .ok (.iload_n 2, 1) := by decide +kernel
theorem dX2_takeOut_44 : decode cX2_takeOut 44 = .ok (.iconst 1, 1) := by decide +kernel
theorem dX2_takeOut_45 : decode cX2_takeOut 45 = .ok (.iadd, 1) := by decide +kernel
theorem dX2_takeOut_46 : decode cX2_takeOut 46 = .ok (.aload_n 0, 1) := by decide +kernel
theorem dX2_takeOut_47 : decode cX2_takeOut 47 = .ok (.getfield 15, 3) := by decide +kernel
theorem dX2_takeOut_50 : decode cX2_takeOut 50 = .ok (.iload_n 2, 1) := by decide +kernel
theorem dX2_takeOut_51 : decode cX2_takeOut 51 = .ok (.aload_n 0, 1) := by decide +kernel
theorem dX2_takeOut_52 : decode cX2_takeOut 52 = .ok (.getfield 18, 3) := by decide +kernel
theorem dX2_takeOut_55 : decode cX2_takeOut 55 = .ok (.iload_n 2, 1) := by decide +kernel
theorem dX2_takeOut_56 : decode cX2_takeOut 56 = .ok (.isub, 1) := by decide +kernel
theorem dX2_takeOut_57 : decode cX2_takeOut 57 = .ok (.iconst 1, 1) := by decide +kernel
theorem dX2_takeOut_58 : decode cX2_takeOut 58 = .ok (.isub, 1) := by decide +kernel
theorem dX2_takeOut_59 : decode cX2_takeOut 59 = .ok (.invokestatic 37, 3) := by decide +kernel
theorem dX2_takeOut_62 : decode cX2_takeOut 62 = .ok (.aload_n 0, 1) := by decide +kernel
theorem dX2_takeOut_63 : decode cX2_takeOut 63 = .ok (.dup, 1) := by decide +kernel
theorem dX2_takeOut_64 : decode cX2_takeOut 64 = .ok (.getfield 18, 3) := by decide +kernel
theorem dX2_takeOut_67 : decode cX2_takeOut 67 = .ok (.iconst 1, 1) := by decide +kernel
theorem dX2_takeOut_68 : decode cX2_takeOut 68 = .ok (.isub, 1) := by decide +kernel
theorem dX2_takeOut_69 : decode cX2_takeOut 69 = .ok (.putfield 18, 3) := by decide +kernel
theorem dX2_takeOut_72 : decode cX2_takeOut 72 = .ok (.aload_n 0, 1) := by decide +kernel
theorem dX2_takeOut_73 : decode cX2_takeOut 73 = .ok (.dup, 1) := by decide +kernel
theorem dX2_takeOut_74 : decode cX2_takeOut 74 = .ok (.getfield 22, 3) := by decide +kernel
theorem dX2_takeOut_77 : decode cX2_takeOut 77 = .ok (.iconst 1, 1) := by decide +kernel
theorem dX2_takeOut_78 : decode cX2_takeOut 78 = .ok (.iadd, 1) := by decide +kernel
theorem dX2_takeOut_79 : decode cX2_takeOut 79 = .ok (.putfield 22, 3) := by decide +kernel
theorem dX2_takeOut_82 : decode cX2_takeOut 82 = .ok (.return_, 1) := by decide +kernel
theorem dX2_clear_0 : decode cX2_clear 0 = .ok (.aload_n 0, 1) := by decide +kernel
theorem dX2_clear_1 : decode cX2_clear 1 = .ok (.iconst 0, 1) := by decide +kernel
theorem dX2_clear_2 : decode cX2_clear 2 = .ok (.putfield 18, 3) := by decide +kernel
theorem dX2_clear_5 : decode cX2_clear 5 = .ok (.aload_n 0, 1) := by decide +kernel
theorem dX2_clear_6 : decode cX2_clear 6 = .ok (.dup, 1) := by decide +kernel
theorem dX2_clear_7 : decode cX2_clear 7 = .ok (.getfield 22, 3) := by decide +kernel
theorem dX2_clear_10 : decode cX2_clear 10 = .ok (.iconst 1, 1) := by decide +kernel
theorem dX2_clear_11 : decode cX2_clear 11 = .ok (.iadd, 1) := by decide +kernel
theorem dX2_clear_12 : decode cX2_clear 12 = .ok (.putfield 22, 3) := by decide +kernel
theorem dX2_clear_15 : decode cX2_clear 15 = .ok (.return_, 1) := by decide +kernel
theorem dX2_copyFrom_0 : decode cX2_copyFrom 0 = .ok (.aload_n 1, 1) := by decide +kernel
theorem dX2_copyFrom_1 : decode cX2_copyFrom 1 = .ok (.getfield 9, 3) := by decide +kernel
theorem dX2_copyFrom_4 : decode cX2_copyFrom 4 = .ok (.iconst 0, 1) := by decide +kernel
theorem dX2_copyFrom_5 : decode cX2_copyFrom 5 = .ok (.aload_n 0, 1) := by decide +kernel
theorem dX2_copyFrom_6 : decode cX2_copyFrom 6 = .ok (.getfield 9, 3) := by decide +kernel
theorem dX2_copyFrom_9 : decode cX2_copyFrom 9 = .ok (.iconst 0, 1) := by decide +kernel
theorem dX2_copyFrom_10 : decode cX2_copyFrom 10 = .ok (.aload_n 1, 1) := by decide +kernel
theorem dX2_copyFrom_11 : decode cX2_copyFrom 11 = .ok (.getfield 18, 3) := by decide +kernel
theorem dX2_copyFrom_14 : decode cX2_copyFrom 14 = .ok (.invokestatic 37, 3) := by decide +kernel
theorem dX2_copyFrom_17 : decode cX2_copyFrom 17 = .ok (.aload_n 1, 1) := by decide +kernel
theorem dX2_copyFrom_18 : decode cX2_copyFrom 18 = .ok (.getfield 15, 3) := by decide +kernel
theorem dX2_copyFrom_21 : decode cX2_copyFrom 21 = .ok (.iconst 0, 1) := by decide +kernel
theorem dX2_copyFrom_22 : decode cX2_copyFrom 22 = .ok (.aload_n 0, 1) := by decide +kernel
theorem dX2_copyFrom_23 : decode cX2_copyFrom 23 = .ok (.getfield 15, 3) := by decide +kernel
theorem dX2_copyFrom_26 : decode cX2_copyFrom 26 = .ok (.iconst 0, 1) := by decide +kernel
theorem dX2_copyFrom_27 : decode cX2_copyFrom 27 = .ok (.aload_n 1, 1) := by decide +kernel
theorem dX2_copyFrom_28 : decode cX2_copyFrom 28 = .ok (.getfield 18, 3) := by decide +kernel
theorem dX2_copyFrom_31 : decode cX2_copyFrom 31 = .ok (.invokestatic 37, 3) := by decide +kernel
theorem dX2_copyFrom_34 : decode cX2_copyFrom 34 = .ok (.aload_n 0, 1) := by decide +kernel
theorem dX2_copyFrom_35 : decode cX2_copyFrom 35 = .ok (.aload_n 1, 1) := by decide +kernel
theorem dX2_copyFrom_36 : decode cX2_copyFrom 36 = .ok (.getfield 18, 3) := by decide +kernel
theorem dX2_copyFrom_39 : decode cX2_copyFrom 39 = .ok (.putfield 18, 3) := by decide +kernel
theorem dX2_copyFrom_42 : decode cX2_copyFrom 42 = .ok (.aload_n 0, 1) := by decide +kernel
theorem dX2_copyFrom_43 : decode cX2_copyFrom 43 = .ok (.dup, 1) := by decide +kernel
theorem dX2_copyFrom_44 : decode cX2_copyFrom 44 = .ok (.getfield 22, 3) := by decide +kernel
theorem dX2_copyFrom_47 : decode cX2_copyFrom 47 = .ok (.iconst 1, 1) := by decide +kernel
theorem dX2_copyFrom_48 : decode cX2_copyFrom 48 = .ok (.iadd, 1) := by decide +kernel
theorem dX2_copyFrom_49 : decode cX2_copyFrom 49 = .ok (.putfield 22, 3) := by decide +kernel
theorem dX2_copyFrom_52 : decode cX2_copyFrom 52 = .ok (.return_, 1) := by decide +kernel
theorem dX2_placeOf_0 : decode cX2_placeOf 0 = .ok (.iconst 0, 1) := by decide +kernel
theorem dX2_placeOf_1 : decode cX2_placeOf 1 = .ok (.istore_n 2, 1) := by decide +kernel
theorem dX2_placeOf_2 : decode cX2_placeOf 2 = .ok (.sipush 512, 3) := by decide +kernel
theorem dX2_placeOf_5 : decode cX2_placeOf 5 = .ok (.istore_n 3, 1) := by decide +kernel
theorem dX2_placeOf_6 : decode cX2_placeOf 6 = .ok (.iload_n 3, 1) := by decide +kernel
theorem dX2_placeOf_7 : decode cX2_placeOf 7 = .ok (.ifCond .le 38, 3) := by decide +kernel
theorem dX2_placeOf_10 : decode cX2_placeOf 10 = .ok (.iload_n 2, 1) := by decide +kernel
theorem dX2_placeOf_11 : decode cX2_placeOf 11 = .ok (.iload_n 3, 1) := by decide +kernel
theorem dX2_placeOf_12 : decode cX2_placeOf 12 = .ok (.iadd, 1) := by decide +kernel
theorem dX2_placeOf_13 : decode cX2_placeOf 13 = .ok (.aload_n 0, 1) := by decide +kernel
theorem dX2_placeOf_14 : decode cX2_placeOf 14 = .ok (.getfield 18, 3) := by decide +kernel
theorem dX2_placeOf_17 : decode cX2_placeOf 17 = .ok (.if_icmp .gt 21, 3) := by decide +kernel
theorem dX2_placeOf_20 : decode cX2_placeOf 20 = .ok (.aload_n 0, 1) := by decide +kernel
theorem dX2_placeOf_21 : decode cX2_placeOf 21 = .ok (.getfield 9, 3) := by decide +kernel
theorem dX2_placeOf_24 : decode cX2_placeOf 24 = .ok (.iload_n 2, 1) := by decide +kernel
theorem dX2_placeOf_25 : decode cX2_placeOf 25 = .ok (.iload_n 3, 1) := by decide +kernel
theorem dX2_placeOf_26 : decode cX2_placeOf 26 = .ok (.iadd, 1) := by decide +kernel
theorem dX2_placeOf_27 : decode cX2_placeOf 27 = .ok (.iconst 1, 1) := by decide +kernel
theorem dX2_placeOf_28 : decode cX2_placeOf 28 = .ok (.isub, 1) := by decide +kernel
theorem dX2_placeOf_29 : decode cX2_placeOf 29 = .ok (.iaload, 1) := by decide +kernel
theorem dX2_placeOf_30 : decode cX2_placeOf 30 = .ok (.iload_n 1, 1) := by decide +kernel
theorem dX2_placeOf_31 : decode cX2_placeOf 31 = .ok (.if_icmp .ge 7, 3) := by decide +kernel
theorem dX2_placeOf_34 : decode cX2_placeOf 34 = .ok (.iload_n 2, 1) := by decide +kernel
theorem dX2_placeOf_35 : decode cX2_placeOf 35 = .ok (.iload_n 3, 1) := by decide +kernel
theorem dX2_placeOf_36 : decode cX2_placeOf 36 = .ok (.iadd, 1) := by decide +kernel
theorem dX2_placeOf_37 : decode cX2_placeOf 37 = .ok (.istore_n 2, 1) := by decide +kernel
theorem dX2_placeOf_38 : decode cX2_placeOf 38 = .ok (.iload_n 3, 1) := by decide +kernel
theorem dX2_placeOf_39 : decode cX2_placeOf 39 = .ok (.iconst 1, 1) := by decide +kernel
theorem dX2_placeOf_40 : decode cX2_placeOf 40 = .ok (.ishr, 1) := by decide +kernel
theorem dX2_placeOf_41 : decode cX2_placeOf 41 = .ok (.istore_n 3, 1) := by decide +kernel
theorem dX2_placeOf_42 : decode cX2_placeOf 42 = .ok (.goto (-36), 3) := by decide +kernel
theorem dX2_placeOf_45 : decode cX2_placeOf 45 = .ok (.iload_n 2, 1) := by decide +kernel
theorem dX2_placeOf_46 : decode cX2_placeOf 46 = .ok (.ireturn, 1) := by decide +kernel
theorem dX3_init_0 : decode cX3_init 0 = .ok (.aload_n 0, 1) := by decide +kernel
theorem dX3_init_1 : decode cX3_init 1 = .ok (.invokespecial 3, 3) := by decide +kernel
theorem dX3_init_4 : decode cX3_init 4 = .ok (.aload_n 0, 1) := by decide +kernel
theorem dX3_init_5 : decode cX3_init 5 = .ok (.sipush 150, 3) := by decide +kernel
theorem dX3_init_8 : decode cX3_init 8 = .ok (.newarray .int, 2) := by decide +kernel
theorem dX3_init_10 : decode cX3_init 10 = .ok (.putfield 9, 3) := by decide +kernel
theorem dX3_init_13 : decode cX3_init 13 = .ok (.aload_n 0, 1) := by decide +kernel
theorem dX3_init_14 : decode cX3_init 14 = .ok (.sipush 150, 3) := by decide +kernel
theorem dX3_init_17 : decode cX3_init 17 = .ok (.newarray .int, 2) := by decide +kernel
theorem dX3_init_19 : decode cX3_init 19 = .ok (.putfield 15, 3) := by decide +kernel
theorem dX3_init_22 : decode cX3_init 22 = .ok (.aload_n 0, 1) := by decide +kernel
theorem dX3_init_23 : decode cX3_init 23 = .ok (.sipush 150, 3) := by decide +kernel
theorem dX3_init_26 : decode cX3_init 26 = .ok (.newarray .long, 2) := by decide +kernel
theorem dX3_init_28 : decode cX3_init 28 = .ok (.putfield 18, 3) := by decide +kernel
theorem dX3_init_31 : decode cX3_init 31 = .ok (.aload_n 0, 1) := by decide +kernel
theorem dX3_init_32 : decode cX3_init 32 = .ok (.iconst 0, 1) := by decide +kernel
theorem dX3_init_33 : decode cX3_init 33 = .ok (.putfield 22, 3) := by decide +kernel
theorem dX3_init_36 : decode cX3_init 36 = .ok (.return_, 1) := by decide +kernel
theorem dX3_clear_0 : decode cX3_clear 0 = .ok (.aload_n 0, 1) := by decide +kernel
theorem dX3_clear_1 : decode cX3_clear 1 = .ok (.iconst 0, 1) := by decide +kernel
theorem dX3_clear_2 : decode cX3_clear 2 = .ok (.putfield 22, 3) := by decide +kernel
theorem dX3_clear_5 : decode cX3_clear 5 = .ok (.return_, 1) := by decide +kernel
theorem dX3_add_0 : decode cX3_add 0 = .ok (.aload_n 0, 1) := by decide +kernel
theorem dX3_add_1 : decode cX3_add 1 = .ok (.getfield 22, 3) := by decide +kernel
theorem dX3_add_4 : decode cX3_add 4 = .ok (.sipush 150, 3) := by decide +kernel
theorem dX3_add_7 : decode cX3_add 7 = .ok (.if_icmp .ge 33, 3) := by decide +kernel
theorem dX3_add_10 : decode cX3_add 10 = .ok (.aload_n 0, 1) := by decide +kernel
theorem dX3_add_11 : decode cX3_add 11 = .ok (.getfield 9, 3) := by decide +kernel
theorem dX3_add_14 : decode cX3_add 14 = .ok (.aload_n 0, 1) := by decide +kernel
theorem dX3_add_15 : decode cX3_add 15 = .ok (.getfield 22, 3) := by decide +kernel
theorem dX3_add_18 : decode cX3_add 18 = .ok (.iload_n 1, 1) := by decide +kernel
theorem dX3_add_19 : decode cX3_add 19 = .ok (.iastore, 1) := by decide +kernel
theorem dX3_add_20 : decode cX3_add 20 = .ok (.aload_n 0, 1) := by decide +kernel
theorem dX3_add_21 : decode cX3_add 21 = .ok (.getfield 15, 3) := by decide +kernel
theorem dX3_add_24 : decode cX3_add 24 = .ok (.aload_n 0, 1) := by decide +kernel
theorem dX3_add_25 : decode cX3_add 25 = .ok (.getfield 22, 3) := by decide +kernel
theorem dX3_add_28 : decode cX3_add 28 = .ok (.iload_n 2, 1) := by decide +kernel
theorem dX3_add_29 : decode cX3_add 29 = .ok (.iastore, 1) := by decide +kernel
theorem dX3_add_30 : decode cX3_add 30 = .ok (.aload_n 0, 1) := by decide +kernel
theorem dX3_add_31 : decode cX3_add 31 = .ok (.dup, 1) := by decide +kernel
theorem dX3_add_32 : decode cX3_add 32 = .ok (.getfield 22, 3) := by decide +kernel
theorem dX3_add_35 : decode cX3_add 35 = .ok (.iconst 1, 1) := by decide +kernel
theorem dX3_add_36 : decode cX3_add 36 = .ok (.iadd, 1) := by decide +kernel
theorem dX3_add_37 : decode cX3_add 37 = .ok (.putfield 22, 3) := by decide +kernel
theorem dX3_add_40 : decode cX3_add 40 = .ok (.return_, 1) := by decide +kernel
theorem dX3_addByDistance_0 : decode cX3_addByDistance 0 = .ok (.aload_n 0, 1) := by decide +kernel
theorem dX3_addByDistance_1 : decode cX3_addByDistance 1 = .ok (.getfield 22, 3) := by decide +kernel
theorem dX3_addByDistance_4 : decode cX3_addByDistance 4 = .ok (.istore 6, 2) := by decide +kernel
theorem dX3_addByDistance_6 : decode cX3_addByDistance 6 = .ok (.aload_n 0, 1) := by decide +kernel
theorem dX3_addByDistance_7 : decode cX3_addByDistance 7 = .ok (.getfield 22, 3) := by decide +kernel
theorem dX3_addByDistance_10 : decode cX3_addByDistance 10 = .ok (.iconst 1, 1) := by decide +kernel
theorem dX3_addByDistance_11 : decode cX3_addByDistance 11 = .ok (.isub, 1) := by decide +kernel
theorem dX3_addByDistance_12 : decode cX3_addByDistance 12 = .ok (.istore 7, 2) := by decide +kernel
theorem dX3_addByDistance_14 : decode cX3_addByDistance 14 = .ok (.iload 7, 2) := by decide +kernel
theorem dX3_addByDistance_16 : decode cX3_addByDistance 16 = .ok (.ifCond .lt 25, 3) := by decide +kernel
theorem dX3_addByDistance_19 : decode cX3_addByDistance 19 = .ok (.aload_n 0, 1) := by decide +kernel
theorem dX3_addByDistance_20 : decode cX3_addByDistance 20 = .ok (.getfield 18, 3) := by decide +kernel
theorem dX3_addByDistance_23 : decode cX3_addByDistance 23 = .ok (.iload 7, 2) := by decide +kernel
theorem dX3_addByDistance_25 : decode cX3_addByDistance 25 = .ok (.laload, 1) := by decide +kernel
theorem dX3_addByDistance_26 : decode cX3_addByDistance 26 = .ok (.lload_n 3, 1) := by decide +kernel
theorem dX3_addByDistance_27 : decode cX3_addByDistance 27 = .ok (.lcmp, 1) := by decide +kernel
theorem dX3_addByDistance_28 : decode cX3_addByDistance 28 = .ok (.ifCond .le 13, 3) := by decide +kernel
theorem dX3_addByDistance_31 : decode cX3_addByDistance 31 = .ok (.iload 7, 2) := by decide +kernel
theorem dX3_addByDistance_33 : decode cX3_addByDistance 33 = .ok (.istore 6, 2) := by decide +kernel
theorem dX3_addByDistance_35 : decode cX3_addByDistance 35 = .ok (.iinc 7 (-1), 3) := by decide +kernel
theorem dX3_addByDistance_38 : decode cX3_addByDistance 38 = .ok (.goto (-24), 3) := by decide +kernel
theorem dX3_addByDistance_41 : decode cX3_addByDistance 41 = .ok (.iload 6, 2) := by decide +kernel
theorem dX3_addByDistance_43 : decode cX3_addByDistance 43 = .ok (.iload 5, 2) := by decide +kernel
theorem dX3_addByDistance_45 : decode cX3_addByDistance 45 = .ok (.if_icmp .ge 11, 3) := by decide +kernel
theorem dX3_addByDistance_48 : decode cX3_addByDistance 48 = .ok (.iload 6, 2) := by decide +kernel
theorem dX3_addByDistance_50 : decode cX3_addByDistance 50 = .ok (.sipush 150, 3) := by decide +kernel
theorem dX3_addByDistance_53 : decode cX3_addByDistance 53 = .ok (.if_icmp .lt 4, 3) := by decide +kernel
theorem dX3_addByDistance_56 : decode cX3_addByDistance 56 = .ok (.return_, 1) := by decide +kernel
theorem dX3_addByDistance_57 : decode cX3_addByDistance 57 = .ok (.aload_n 0, 1) := by decide +kernel
theorem dX3_addByDistance_58 : decode cX3_addByDistance 58 = .ok (.getfield 22, 3) := by decide +kernel
theorem dX3_addByDistance_61 : decode cX3_addByDistance 61 = .ok (.iload 5, 2) := by decide +kernel
theorem dX3_addByDistance_63 : decode cX3_addByDistance 63 = .ok (.sipush 150, 3) := by decide +kernel
theorem dX3_addByDistance_66 : decode cX3_addByDistance 66 = .ok (.invokestatic 26, 3) := by decide +kernel
theorem dX3_addByDistance_69 : decode cX3_addByDistance 69 = .ok (.iconst 1, 1) := by decide +kernel
theorem dX3_addByDistance_70 : decode cX3_addByDistance 70 = .ok (.isub, 1) := by decide +kernel
theorem dX3_addByDistance_71 : decode cX3_addByDistance 71 = .ok (.invokestatic 26, 3) := by decide +kernel
theorem dX3_addByDistance_74 : decode cX3_addByDistance 74 = .ok (.istore 7, 2) := by decide +kernel
theorem dX3_addByDistance_76 : decode cX3_addByDistance 76 = .ok (.aload_n 0, 1) := by decide +kernel
theorem dX3_addByDistance_77 : decode cX3_addByDistance 77 = .ok (.getfield 9, 3) := by decide +kernel
theorem dX3_addByDistance_80 : decode cX3_addByDistance 80 = .ok (.iload 6, 2) := by decide +kernel
theorem dX3_addByDistance_82 : decode cX3_addByDistance 82 = .ok (.aload_n 0, 1) := by decide +kernel
theorem dX3_addByDistance_83 : decode cX3_addByDistance 83 = .ok (.getfield 9, 3) := by decide +kernel
theorem dX3_addByDistance_86 : decode cX3_addByDistance 86 = .ok (.iload 6, 2) := by decide +kernel
theorem dX3_addByDistance_88 : decode cX3_addByDistance 88 = .ok (.iconst 1, 1) := by decide +kernel
theorem dX3_addByDistance_89 : decode cX3_addByDistance 89 = .ok (.iadd, 1) := by decide +kernel
theorem dX3_addByDistance_90 : decode cX3_addByDistance 90 = .ok (.iload 7, 2) := by decide +kernel
theorem dX3_addByDistance_92 : decode cX3_addByDistance 92 = .ok (.iload 6, 2) := by decide +kernel
theorem dX3_addByDistance_94 : decode cX3_addByDistance 94 = .ok (.isub, 1) := by decide +kernel
theorem dX3_addByDistance_95 : decode cX3_addByDistance 95 = .ok (.invokestatic 32, 3) := by decide +kernel
theorem dX3_addByDistance_98 : decode cX3_addByDistance 98 = .ok (.aload_n 0, 1) := by decide +kernel
theorem dX3_addByDistance_99 : decode cX3_addByDistance 99 = .ok (.getfield 15, 3) := by decide +kernel
theorem dX3_addByDistance_102 : decode cX3_addByDistance 102 = .ok (.iload 6, 2) := by decide +kernel
theorem dX3_addByDistance_104 : decode cX3_addByDistance 104 = .ok (.aload_n 0, 1) := by decide +kernel
theorem dX3_addByDistance_105 : decode cX3_addByDistance 105 = .ok (.getfield 15, 3) := by decide +kernel
theorem dX3_addByDistance_108 : decode cX3_addByDistance 108 = .ok (.iload 6, 2) := by decide +kernel
theorem dX3_addByDistance_110 : decode cX3_addByDistance 110 = .ok (.iconst 1, 1) := by decide +kernel
theorem dX3_addByDistance_111 : decode cX3_addByDistance 111 = .ok (.iadd, 1) := by decide +kernel
theorem dX3_addByDistance_112 : decode cX3_addByDistance 112 = .ok (.iload 7, 2) := by decide +kernel
theorem dX3_addByDistance_114 : decode cX3_addByDistance 114 = .ok (.iload 6, 2) := by decide +kernel
theorem dX3_addByDistance_116 : decode cX3_addByDistance 116 = .ok (.isub, 1) := by decide +kernel
theorem dX3_addByDistance_117 : decode cX3_addByDistance 117 = .ok (.invokestatic 32, 3) := by decide +kernel
theorem dX3_addByDistance_120 : decode cX3_addByDistance 120 = .ok (.aload_n 0, 1) := by decide +kernel
theorem dX3_addByDistance_121 : decode cX3_addByDistance 121 = .ok (.getfield 18, 3) := by decide +kernel
theorem dX3_addByDistance_124 : decode cX3_addByDistance 124 = .ok (.iload 6, 2) := by decide +kernel
theorem dX3_addByDistance_126 : decode cX3_addByDistance 126 = .ok (.aload_n 0, 1) := by decide +kernel
theorem dX3_addByDistance_127 : decode cX3_addByDistance 127 = .ok (.getfield 18, 3) := by decide +kernel
theorem dX3_addByDistance_130 : decode cX3_addByDistance 130 = .ok (.iload 6, 2) := by decide +kernel
theorem dX3_addByDistance_132 : decode cX3_addByDistance 132 = .ok (.iconst 1, 1) := by decide +kernel
theorem dX3_addByDistance_133 : decode cX3_addByDistance 133 = .ok (.iadd, 1) := by decide +kernel
theorem dX3_addByDistance_134 : decode cX3_addByDistance 134 = .ok (.iload 7, 2) := by decide +kernel
theorem dX3_addByDistance_136 : decode cX3_addByDistance 136 = .ok (.iload 6, 2) := by decide +kernel
theorem dX3_addByDistance_138 : decode cX3_addByDistance 138 = .ok (.isub, 1) := by decide +kernel
theorem dX3_addByDistance_139 : decode cX3_addByDistance 139 = .ok (.invokestatic 32, 3) := by decide +kernel
theorem dX3_addByDistance_142 : decode cX3_addByDistance 142 = .ok (.aload_n 0, 1) := by decide +kernel
theorem dX3_addByDistance_143 : decode cX3_addByDistance 143 = .ok (.getfield 9, 3) := by decide +kernel
theorem dX3_addByDistance_146 : decode cX3_addByDistance 146 = .ok (.iload 6, 2) := by decide +kernel
theorem dX3_addByDistance_148 : decode cX3_addByDistance 148 = .ok (.iload_n 1, 1) := by decide +kernel
theorem dX3_addByDistance_149 : decode cX3_addByDistance 149 = .ok (.iastore, 1) := by decide +kernel
theorem dX3_addByDistance_150 : decode cX3_addByDistance 150 = .ok (.aload_n 0, 1) := by decide +kernel
theorem dX3_addByDistance_151 : decode cX3_addByDistance 151 = .ok (.getfield 15, 3) := by decide +kernel
theorem dX3_addByDistance_154 : decode cX3_addByDistance 154 = .ok (.iload 6, 2) := by decide +kernel
theorem dX3_addByDistance_156 : decode cX3_addByDistance 156 = .ok (.iload_n 2, 1) := by decide +kernel
theorem dX3_addByDistance_157 : decode cX3_addByDistance 157 = .ok (.iastore, 1) := by decide +kernel
theorem dX3_addByDistance_158 : decode cX3_addByDistance 158 = .ok (.aload_n 0, 1) := by decide +kernel
theorem dX3_addByDistance_159 : decode cX3_addByDistance 159 = .ok (.getfield 18, 3) := by decide +kernel
theorem dX3_addByDistance_162 : decode cX3_addByDistance 162 = .ok (.iload 6, 2) := by decide +kernel
theorem dX3_addByDistance_164 : decode cX3_addByDistance 164 = .ok (.lload_n 3, 1) := by decide +kernel
theorem dX3_addByDistance_165 : decode cX3_addByDistance 165 = .ok (.lastore, 1) := by decide +kernel
theorem dX3_addByDistance_166 : decode cX3_addByDistance 166 = .ok (.aload_n 0, 1) := by decide +kernel
theorem dX3_addByDistance_167 : decode cX3_addByDistance 167 = .ok (.iload 7, 2) := by decide +kernel
theorem dX3_addByDistance_169 : decode cX3_addByDistance 169 = .ok (.iconst 1, 1) := by decide +kernel
theorem dX3_addByDistance_170 : decode cX3_addByDistance 170 = .ok (.iadd, 1) := by decide +kernel
theorem dX3_addByDistance_171 : decode cX3_addByDistance 171 = .ok (.putfield 22, 3) := by decide +kernel
theorem dX3_addByDistance_174 : decode cX3_addByDistance 174 = .ok (.return_, 1) := by decide +kernel
theorem dX4_init_0 : decode cX4_init 0 = .ok (.aload_n 0, 1) := by decide +kernel
theorem dX4_init_1 : decode cX4_init 1 = .ok (.invokespecial 3, 3) := by decide +kernel
theorem dX4_init_4 : decode cX4_init 4 = .ok (.aload_n 0, 1) := by decide +kernel
theorem dX4_init_5 : decode cX4_init 5 = .ok (.sipush 512, 3) := by decide +kernel
theorem dX4_init_8 : decode cX4_init 8 = .ok (.newarray .int, 2) := by decide +kernel
theorem dX4_init_10 : decode cX4_init 10 = .ok (.putfield 9, 3) := by decide +kernel
theorem dX4_init_13 : decode cX4_init 13 = .ok (.aload_n 0, 1) := by decide +kernel
theorem dX4_init_14 : decode cX4_init 14 = .ok (.iconst 0, 1) := by decide +kernel
theorem dX4_init_15 : decode cX4_init 15 = .ok (.putfield 15, 3) := by decide +kernel
theorem dX4_init_18 : decode cX4_init 18 = .ok (.aload_n 0, 1) := by decide +kernel
theorem dX4_init_19 : decode cX4_init 19 = .ok (.iconst 0, 1) := by decide +kernel
theorem dX4_init_20 : decode cX4_init 20 = .ok (.putfield 19, 3) := by decide +kernel
theorem dX4_init_23 : decode cX4_init 23 = .ok (.aload_n 0, 1) := by decide +kernel
theorem dX4_init_24 : decode cX4_init 24 = .ok (.iconst (-1), 1) := by decide +kernel
theorem dX4_init_25 : decode cX4_init 25 = .ok (.putfield 22, 3) := by decide +kernel
theorem dX4_init_28 : decode cX4_init 28 = .ok (.aload_n 0, 1) := by decide +kernel
theorem dX4_init_29 : decode cX4_init 29 = .ok (.aload_n 1, 1) := by decide +kernel
theorem dX4_init_30 : decode cX4_init 30 = .ok (.putfield 25, 3) := by decide +kernel
theorem dX4_init_33 : decode cX4_init 33 = .ok (.aload_n 0, 1) := by decide +kernel
theorem dX4_init_34 : decode cX4_init 34 = .ok (.iload_n 3, 1) := by decide +kernel
theorem dX4_init_35 : decode cX4_init 35 = .ok (.putfield 29, 3) := by decide +kernel
theorem dX4_init_38 : decode cX4_init 38 = .ok (.aload_n 0, 1) := by decide +kernel
theorem dX4_init_39 : decode cX4_init 39 = .ok (.iload 4, 2) := by decide +kernel
theorem dX4_init_41 : decode cX4_init 41 = .ok (.putfield 32, 3) := by decide +kernel
theorem dX4_init_44 : decode cX4_init 44 = .ok (.aload_n 0, 1) := by decide +kernel
theorem dX4_init_45 : decode cX4_init 45 = .ok (.iload_n 2, 1) := by decide +kernel
theorem dX4_init_46 : decode cX4_init 46 = .ok (.iconst 1, 1) := by decide +kernel
theorem dX4_init_47 : decode cX4_init 47 = .ok (.iadd, 1) := by decide +kernel
theorem dX4_init_48 : decode cX4_init 48 = .ok (.putfield 35, 3) := by decide +kernel
theorem dX4_init_51 : decode cX4_init 51 = .ok (.aload_n 0, 1) := by decide +kernel
theorem dX4_init_52 : decode cX4_init 52 = .ok (.bipush 6, 2) := by decide +kernel
theorem dX4_init_54 : decode cX4_init 54 = .ok (.iload_n 2, 1) := by decide +kernel
theorem dX4_init_55 : decode cX4_init 55 = .ok (.iconst 1, 1) := by decide +kernel
theorem dX4_init_56 : decode cX4_init 56 = .ok (.iadd, 1) := by decide +kernel
theorem dX4_init_57 : decode cX4_init 57 = .ok (.imul, 1) := by decide +kernel
theorem dX4_init_58 : decode cX4_init 58 = .ok (.newarray .int, 2) := by decide +kernel
theorem dX4_init_60 : decode cX4_init 60 = .ok (.putfield 38, 3) := by decide +kernel
theorem dX4_init_63 : decode cX4_init 63 = .ok (.return_, 1) := by decide +kernel
set_option maxRecDepth 20000 in
theorem ggX4_upToDate_X4_grow : GoodIn wsX4_upToDate wsX4_grow := goodIn_r _ [11, 12, 6, 13, 7, 14, 15, 16, 17, 18, 19, 20, 21, 22, 10, 23, 2, 24, 5, 25, 26, 27, 28, 29, 30, 31, 32, 33, 8, 9, 34, 35, 36, 37, 38, 39, 40, 41, 42, 43, 44, 45, 46] (by decide +kernel) (by decide +kernel)
set_option maxRecDepth 20000 in
theorem gX4_upToDate_X4_grow : GoodIn wsX4_upToDate (va_wsS RX4 49 yX4_grow wsX4_grow) := goodIn_app (goodIn_of _ (by decide +kernel)) ggX4_upToDate_X4_grow
theorem dX4_upToDate_0 : decode cX4_upToDate 0 = .ok (.aload_n 0, 1) := by decide +kernel
theorem dX4_upToDate_1 : decode cX4_upToDate 1 = .ok (.getfield 22, 3) := by decide +kernel
theorem dX4_upToDate_4 : decode cX4_upToDate 4 = .ok (.aload_n 0, 1) := by decide +kernel
theorem dX4_upToDate_5 : decode cX4_upToDate 5 = .ok (.getfield 25, 3) := by decide +kernel
theorem dX4_upToDate_8 : decode cX4_upToDate 8 = .ok (.getfield 41, 3) := by decide +kernel
theorem dX4_upToDate_11 : decode cX4_upToDate 11 = .ok (.if_icmp .eq 65, 3) := by decide +kernel
theorem dX4_upToDate_14 : decode cX4_upToDate 14 = .ok (.iconst 0, 1) := by decide +kernel
theorem dX4_upToDate_15 : decode cX4_upToDate 15 = .ok (.istore_n 1, 1) := by decide +kernel
theorem dX4_upToDate_16 : decode cX4_upToDate 16 = .ok (.iload_n 1, 1) := by decide +kernel
theorem dX4_upToDate_17 : decode cX4_upToDate 17 = .ok (.aload_n 0, 1) := by decide +kernel
theorem dX4_upToDate_18 : decode cX4_upToDate 18 = .ok (.getfield 25, 3) := by decide +kernel
theorem dX4_upToDate_21 : decode cX4_upToDate 21 = .ok (.getfield 46, 3) := by decide +kernel
theorem dX4_upToDate_24 : decode cX4_upToDate 24 = .ok (.if_icmp .ge 16, 3) := by decide +kernel
theorem dX4_upToDate_27 : decode cX4_upToDate 27 = .ok (.aload_n 0, 1) := by decide +kernel
theorem dX4_upToDate_28 : decode cX4_upToDate 28 = .ok (.getfield 9, 3) := by decide +kernel
theorem dX4_upToDate_31 : decode cX4_upToDate 31 = .ok (.iload_n 1, 1) := by decide +kernel
theorem dX4_upToDate_32 : decode cX4_upToDate 32 = .ok (.iload_n 1, 1) := by decide +kernel
theorem dX4_upToDate_33 : decode cX4_upToDate 33 = .ok (.iastore, 1) := by decide +kernel
theorem dX4_upToDate_34 : decode cX4_upToDate 34 = .ok (.iinc 1 1, 3) := by decide +kernel
theorem dX4_upToDate_37 : decode cX4_upToDate 37 = .ok (.goto (-21), 3) := by decide +kernel
theorem dX4_upToDate_40 : decode cX4_upToDate 40 = .ok (.aload_n 0, 1) := by decide +kernel
theorem dX4_upToDate_41 : decode cX4_upToDate 41 = .ok (.iconst 0, 1) := by decide +kernel
theorem dX4_upToDate_42 : decode cX4_upToDate 42 = .ok (.putfield 15, 3) := by decide +kernel
theorem dX4_upToDate_45 : decode cX4_upToDate 45 = .ok (.aload_n 0, 1) := by decide +kernel
theorem dX4_upToDate_46 : decode cX4_upToDate 46 = .ok (.iconst 0, 1) := by decide +kernel
theorem dX4_upToDate_47 : decode cX4_upToDate 47 = .ok (.putfield 19, 3) := by decide +kernel
theorem dX4_upToDate_50 : decode cX4_upToDate 50 = .ok (.aload_n 0, 1) := by decide +kernel
theorem dX4_upToDate_51 : decode cX4_upToDate 51 = .ok (.iconst 0, 1) := by decide +kernel
theorem dX4_upToDate_52 : decode cX4_upToDate 52 = .ok (.aload_n 0, 1) := by decide +kernel
theorem dX4_upToDate_53 : decode cX4_upToDate 53 = .ok (.getfield 25, 3) := by decide +kernel
theorem dX4_upToDate_56 : decode cX4_upToDate 56 = .ok (.getfield 46, 3) := by decide +kernel
theorem dX4_upToDate_59 : decode cX4_upToDate 59 = .ok (.iconst 0, 1) := by decide +kernel
theorem dX4_upToDate_60 : decode cX4_upToDate 60 = .ok (.iconst 0, 1) := by decide +kernel
theorem dX4_upToDate_61 : decode cX4_upToDate 61 = .ok (.iconst 0, 1) := by decide +kernel
theorem dX4_upToDate_62 : decode cX4_upToDate 62 = .ok (.invokestatic 49, 3) := by decide +kernel
theorem dX4_upToDate_65 : decode cX4_upToDate 65 = .ok (.aload_n 0, 1) := by decide +kernel
theorem dX4_upToDate_66 : decode cX4_upToDate 66 = .ok (.aload_n 0, 1) := by decide +kernel
theorem dX4_upToDate_67 : decode cX4_upToDate 67 = .ok (.getfield 25, 3) := by decide +kernel
theorem dX4_upToDate_70 : decode cX4_upToDate 70 = .ok (.getfield 41, 3) := by decide +kernel
theorem dX4_upToDate_73 : decode cX4_upToDate 73 = .ok (.putfield 22, 3) := by decide +kernel
theorem dX4_upToDate_76 : decode cX4_upToDate 76 = .ok (.aload_n 0, 1) := by decide +kernel
theorem dX4_upToDate_77 : decode cX4_upToDate 77 = .ok (.areturn, 1) := by decide +kernel
theorem dX4_factOf_0 : decode cX4_factOf 0 = .ok (.iload_n 1, 1) := by decide +kernel
theorem dX4_factOf_1 : decode cX4_factOf 1 = .ok (.ifCond .lt 21, 3) := by decide +kernel
theorem dX4_factOf_4 : decode cX4_factOf 4 = .ok (.iload_n 1, 1) := by decide +kernel
theorem dX4_factOf_5 : decode cX4_factOf 5 = .ok (.aload_n 0, 1) := by decide +kernel
theorem dX4_factOf_6 : decode cX4_factOf 6 = .ok (.getfield 15, 3) := by decide +kernel
theorem dX4_factOf_9 : decode cX4_factOf 9 = .ok (.if_icmp .ge 13, 3) := by decide +kernel
theorem dX4_factOf_12 : decode cX4_factOf 12 = .ok (.iload_n 2, 1) := by decide +kernel
theorem dX4_factOf_13 : decode cX4_factOf 13 = .ok (.ifCond .lt 9, 3) := by decide +kernel
theorem dX4_factOf_16 : decode cX4_factOf 16 = .ok (.iload_n 2, 1) := by decide +kernel
theorem dX4_factOf_17 : decode cX4_factOf 17 = .ok (.bipush 6, 2) := by decide +kernel
theorem dX4_factOf_19 : decode cX4_factOf 19 = .ok (.if_icmp .lt 5, 3) := by decide +kernel
theorem dX4_factOf_22 : decode cX4_factOf 22 = .ok (.iconst (-1), 1) := by decide +kernel
theorem dX4_factOf_23 : decode cX4_factOf 23 = .ok (.ireturn, 1) := by decide +kernel
theorem dX4_factOf_24 : decode cX4_factOf 24 = .ok (.aload_n 0, 1) := by decide +kernel
theorem dX4_factOf_25 : decode cX4_factOf 25 = .ok (.getfield 38, 3) := by decide +kernel
theorem dX4_factOf_28 : decode cX4_factOf 28 = .ok (.iload_n 1, 1) := by decide +kernel
theorem dX4_factOf_29 : decode cX4_factOf 29 = .ok (.bipush 6, 2) := by decide +kernel
theorem dX4_factOf_31 : decode cX4_factOf 31 = .ok (.imul, 1) := by decide +kernel
theorem dX4_factOf_32 : decode cX4_factOf 32 = .ok (.iload_n 2, 1) := by decide +kernel
theorem dX4_factOf_33 : decode cX4_factOf 33 = .ok (.iadd, 1) := by decide +kernel
theorem dX4_factOf_34 : decode cX4_factOf 34 = .ok (.iaload, 1) := by decide +kernel
theorem dX4_factOf_35 : decode cX4_factOf 35 = .ok (.ireturn, 1) := by decide +kernel
set_option maxRecDepth 20000 in
theorem ggX4_grow_X4_lowBitsOf : GoodIn wsX4_grow wsX4_lowBitsOf := goodIn_r _ [15, 16, 17, 18, 19, 30, 31, 32, 33, 34, 35, 36, 37, 38, 39, 40, 41, 42] (by decide +kernel) (by decide +kernel)
set_option maxRecDepth 20000 in
theorem gX4_grow_X4_lowBitsOf : GoodIn wsX4_grow (wsV RX4 59 RX4 yX4_lowBitsOf wsX4_lowBitsOf) := goodIn_app (goodIn_of _ (by decide +kernel)) ggX4_grow_X4_lowBitsOf
set_option maxRecDepth 20000 in
theorem ggX4_grow_X5_keyOf : GoodIn wsX4_grow wsX5_keyOf := goodIn_r _ [22] (by decide +kernel) (by decide +kernel)
set_option maxRecDepth 20000 in
theorem gX4_grow_X5_keyOf_n62 : GoodIn wsX4_grow (wsX5_keyOf) := ggX4_grow_X5_keyOf
set_option maxRecDepth 20000 in
theorem ggX4_grow_X4_gather : GoodIn wsX4_grow wsX4_gather := goodIn_r _ [26, 18, 16, 27, 30, 31, 32, 33, 34, 35, 36, 37, 38, 39, 40, 41, 42] (by decide +kernel) (by decide +kernel)
set_option maxRecDepth 20000 in
theorem gX4_grow_X4_gather : GoodIn wsX4_grow (wsV RX4 65 RX4 yX4_gather wsX4_gather) := goodIn_app (goodIn_of _ (by decide +kernel)) ggX4_grow_X4_gather
set_option maxRecDepth 20000 in
theorem ggX4_grow_X4_grow : GoodIn wsX4_grow wsX4_grow := goodIn_r _ [0, 1, 2, 3, 4, 5, 6, 7, 8, 9, 10, 11, 12, 13, 14, 15, 16, 17, 18, 19, 20, 21, 22, 23, 24, 25, 26, 27, 28, 29, 30, 31, 32, 33, 34, 35, 36, 37, 38, 39, 40, 41, 42] (by decide +kernel) (by decide +kernel)
set_option maxRecDepth 20000 in
theorem gX4_grow_X4_grow : GoodIn wsX4_grow (va_wsS RX4 49 yX4_grow wsX4_grow) := goodIn_app (goodIn_of _ (by decide +kernel)) ggX4_grow_X4_grow
theorem dX4_grow_0 : decode cX4_grow 0 = .ok (.iload 5, 2) := by decide +kernel
theorem dX4_grow_2 : decode cX4_grow 2 = .ok (.aload_n 0, 1) := by decide +kernel
theorem dX4_grow_3 : decode cX4_grow 3 = .ok (.getfield 32, 3) := by decide +kernel
theorem dX4_grow_6 : decode cX4_grow 6 = .ok (.if_icmp .gt 14, 3) := by decide +kernel
theorem dX4_grow_9 : decode cX4_grow 9 = .ok (.aload_n 0, 1) := by decide +kernel
theorem dX4_grow_10 : decode cX4_grow 10 = .ok (.getfield 15, 3) := by decide +kernel
theorem dX4_grow_13 : decode cX4_grow 13 = .ok (.aload_n 0, 1) := by decide +kernel
theorem dX4_grow_14 : decode cX4_grow 14 = .ok (.getfield 35, 3) := by decide +kernel
theorem dX4_grow_17 : decode cX4_grow 17 = .ok (.if_icmp .lt 4, 3) := by decide +kernel
theorem dX4_grow_20 : decode cX4_grow 20 = .ok (.return_, 1) := by decide +kernel
theorem dX4_grow_21 : decode cX4_grow 21 = .ok (.iconst 1, 1) := by decide +kernel
theorem dX4_grow_22 : decode cX4_grow 22 = .ok (.aload_n 0, 1) := by decide +kernel
theorem dX4_grow_23 : decode cX4_grow 23 = .ok (.getfield 32, 3) := by decide +kernel
theorem dX4_grow_26 : decode cX4_grow 26 = .ok (.iload 5, 2) := by decide +kernel
theorem dX4_grow_28 : decode cX4_grow 28 = .ok (.isub, 1) := by decide +kernel
theorem dX4_grow_29 : decode cX4_grow 29 = .ok (.ishl, 1) := by decide +kernel
theorem dX4_grow_30 : decode cX4_grow 30 = .ok (.istore 6, 2) := by decide +kernel
theorem dX4_grow_32 : decode cX4_grow 32 = .ok (.aload_n 0, 1) := by decide +kernel
theorem dX4_grow_33 : decode cX4_grow 33 = .ok (.getfield 15, 3) := by decide +kernel
theorem dX4_grow_36 : decode cX4_grow 36 = .ok (.bipush 6, 2) := by decide +kernel
theorem dX4_grow_38 : decode cX4_grow 38 = .ok (.imul, 1) := by decide +kernel
theorem dX4_grow_39 : decode cX4_grow 39 = .ok (.istore 7, 2) := by decide +kernel
theorem dX4_grow_41 : decode cX4_grow 41 = .ok (.aload_n 0, 1) := by decide +kernel
theorem dX4_grow_42 : decode cX4_grow 42 = .ok (.dup, 1) := by decide +kernel
theorem dX4_grow_43 : decode cX4_grow 43 = .ok (.getfield 15, 3) := by decide +kernel
theorem dX4_grow_46 : decode cX4_grow 46 = .ok (.iconst 1, 1) := by decide +kernel
theorem dX4_grow_47 : decode cX4_grow 47 = .ok (.iadd, 1) := by decide +kernel
theorem dX4_grow_48 : decode cX4_grow 48 = .ok (.putfield 15, 3) := by decide +kernel
theorem dX4_grow_51 : decode cX4_grow 51 = .ok (.aload_n 0, 1) := by decide +kernel
theorem dX4_grow_52 : decode cX4_grow 52 = .ok (.aload_n 0, 1) := by decide +kernel
theorem dX4_grow_53 : decode cX4_grow 53 = .ok (.getfield 19, 3) := by decide +kernel
theorem dX4_grow_56 : decode cX4_grow 56 = .ok (.iload 5, 2) := by decide +kernel
theorem dX4_grow_58 : decode cX4_grow 58 = .ok (.invokestatic 53, 3) := by decide +kernel
theorem dX4_grow_61 : decode cX4_grow 61 = .ok (.putfield 19, 3) := by decide +kernel
theorem dX4_grow_64 : decode cX4_grow 64 = .ok (.aload_n 0, 1) := by decide +kernel
theorem dX4_grow_65 : decode cX4_grow 65 = .ok (.getfield 38, 3) := by decide +kernel
theorem dX4_grow_68 : decode cX4_grow 68 = .ok (.iload 7, 2) := by decide +kernel
theorem dX4_grow_70 : decode cX4_grow 70 = .ok (.iload 6, 2) := by decide +kernel
theorem dX4_grow_72 : decode cX4_grow 72 = .ok (.iastore, 1) := by decide +kernel
theorem dX4_grow_73 : decode cX4_grow 73 = .ok (.aload_n 0, 1) := by decide +kernel
theorem dX4_grow_74 : decode cX4_grow 74 = .ok (.getfield 38, 3) := by decide +kernel
theorem dX4_grow_77 : decode cX4_grow 77 = .ok (.iload 7, 2) := by decide +kernel
theorem dX4_grow_79 : decode cX4_grow 79 = .ok (.iconst 1, 1) := by decide +kernel
theorem dX4_grow_80 : decode cX4_grow 80 = .ok (.iadd, 1) := by decide +kernel
theorem dX4_grow_81 : decode cX4_grow 81 = .ok (.iload_n 3, 1) := by decide +kernel
theorem dX4_grow_82 : decode cX4_grow 82 = .ok (.iastore, 1) := by decide +kernel
theorem dX4_grow_83 : decode cX4_grow 83 = .ok (.aload_n 0, 1) := by decide +kernel
theorem dX4_grow_84 : decode cX4_grow 84 = .ok (.getfield 38, 3) := by decide +kernel
theorem dX4_grow_87 : decode cX4_grow 87 = .ok (.iload 7, 2) := by decide +kernel
theorem dX4_grow_89 : decode cX4_grow 89 = .ok (.iconst 2, 1) := by decide +kernel
theorem dX4_grow_90 : decode cX4_grow 90 = .ok (.iadd, 1) := by decide +kernel
theorem dX4_grow_91 : decode cX4_grow 91 = .ok (.iload 4, 2) := by decide +kernel
theorem dX4_grow_93 : decode cX4_grow 93 = .ok (.iastore, 1) := by decide +kernel
theorem dX4_grow_94 : decode cX4_grow 94 = .ok (.aload_n 0, 1) := by decide +kernel
theorem dX4_grow_95 : decode cX4_grow 95 = .ok (.getfield 38, 3) := by decide +kernel
theorem dX4_grow_98 : decode cX4_grow 98 = .ok (.iload 7, 2) := by decide +kernel
theorem dX4_grow_100 : decode cX4_grow 100 = .ok (.iconst 3, 1) := by decide +kernel
theorem dX4_grow_101 : decode cX4_grow 101 = .ok (.iadd, 1) := by decide +kernel
theorem dX4_grow_102 : decode cX4_grow 102 = .ok (.iload_n 2, 1) := by decide +kernel
theorem dX4_grow_103 : decode cX4_grow 103 = .ok (.iload_n 1, 1) := by decide +kernel
theorem dX4_grow_104 : decode cX4_grow 104 = .ok (.isub, 1) := by decide +kernel
theorem dX4_grow_105 : decode cX4_grow 105 = .ok (.iastore, 1) := by decide +kernel
theorem dX4_grow_106 : decode cX4_grow 106 = .ok (.aload_n 0, 1) := by decide +kernel
theorem dX4_grow_107 : decode cX4_grow 107 = .ok (.getfield 38, 3) := by decide +kernel
theorem dX4_grow_110 : decode cX4_grow 110 = .ok (.iload 7, 2) := by decide +kernel
theorem dX4_grow_112 : decode cX4_grow 112 = .ok (.iconst 4, 1) := by decide +kernel
theorem dX4_grow_113 : decode cX4_grow 113 = .ok (.iadd, 1) := by decide +kernel
theorem dX4_grow_114 : decode cX4_grow 114 = .ok (.iconst 0, 1) := by decide +kernel
theorem dX4_grow_115 : decode cX4_grow 115 = .ok (.iastore, 1) := by decide +kernel
theorem dX4_grow_116 : decode cX4_grow 116 = .ok (.aload_n 0, 1) := by decide +kernel
theorem dX4_grow_117 : decode cX4_grow 117 = .ok (.getfield 38, 3) := by decide +kernel
theorem dX4_grow_120 : decode cX4_grow 120 = .ok (.iload 7, 2) := by decide +kernel
theorem dX4_grow_122 : decode cX4_grow 122 = .ok (.iconst 5, 1) := by decide +kernel
theorem dX4_grow_123 : decode cX4_grow 123 = .ok (.iadd, 1) := by decide +kernel
theorem dX4_grow_124 : decode cX4_grow 124 = .ok (.aload_n 0, 1) := by decide +kernel
theorem dX4_grow_125 : decode cX4_grow 125 = .ok (.iload_n 1, 1) := by decide +kernel
theorem dX4_grow_126 : decode cX4_grow 126 = .ok (.iload_n 2, 1) := by decide +kernel
theorem dX4_grow_127 : decode cX4_grow 127 = .ok (.invokevirtual 59, 3) := by decide +kernel
theorem dX4_grow_130 : decode cX4_grow 130 = .ok (.iastore, 1) := by decide +kernel
theorem dX4_grow_131 : decode cX4_grow 131 = .ok (.iload_n 2, 1) := by decide +kernel
theorem dX4_grow_132 : decode cX4_grow 132 = .ok (.iload_n 1, 1) := by decide +kernel
theorem dX4_grow_133 : decode cX4_grow 133 = .ok (.isub, 1) := by decide +kernel
theorem dX4_grow_134 : decode cX4_grow 134 = .ok (.aload_n 0, 1) := by decide +kernel
theorem dX4_grow_135 : decode cX4_grow 135 = .ok (.getfield 29, 3) := by decide +kernel
theorem dX4_grow_138 : decode cX4_grow 138 = .ok (.if_icmp .gt 4, 3) := by decide +kernel
theorem dX4_grow_141 : decode cX4_grow 141 = .ok (.return_, 1) := by decide +kernel
theorem dX4_grow_142 : decode cX4_grow 142 = .ok (.iload 6, 2) := by decide +kernel
theorem dX4_grow_144 : decode cX4_grow 144 = .ok (.iconst 1, 1) := by decide +kernel
theorem dX4_grow_145 : decode cX4_grow 145 = .ok (.ishr, 1) := by decide +kernel
theorem dX4_grow_146 : decode cX4_grow 146 = .ok (.istore 8, 2) := by decide +kernel
theorem dX4_grow_148 : decode cX4_grow 148 = .ok (.iload_n 1, 1) := by decide +kernel
theorem dX4_grow_149 : decode cX4_grow 149 = .ok (.istore 9, 2) := by decide +kernel
theorem dX4_grow_151 : decode cX4_grow 151 = .ok (.iconst 0, 1) := by decide +kernel
theorem dX4_grow_152 : decode cX4_grow 152 = .ok (.istore 10, 2) := by decide +kernel
theorem dX4_grow_154 : decode cX4_grow 154 = .ok (.iload 10, 2) := by decide +kernel
theorem dX4_grow_156 : decode cX4_grow 156 = .ok (.iconst 4, 1) := by decide +kernel
theorem dX4_grow_157 : decode cX4_grow 157 = .ok (.if_icmp .ge 98, 3) := by decide +kernel
theorem dX4_grow_160 : decode cX4_grow 160 = .ok (.iload 10, 2) := by decide +kernel
theorem dX4_grow_162 : decode cX4_grow 162 = .ok (.iconst 1, 1) := by decide +kernel
theorem dX4_grow_163 : decode cX4_grow 163 = .ok (.iand, 1) := by decide +kernel
theorem dX4_grow_164 : decode cX4_grow 164 = .ok (.iload 8, 2) := by decide +kernel
theorem dX4_grow_166 : decode cX4_grow 166 = .ok (.imul, 1) := by decide +kernel
theorem dX4_grow_167 : decode cX4_grow 167 = .ok (.istore 11, 2) := by decide +kernel
theorem dX4_grow_169 : decode cX4_grow 169 = .ok (.iload 10, 2) := by decide +kernel
theorem dX4_grow_171 : decode cX4_grow 171 = .ok (.iconst 1, 1) := by decide +kernel
theorem dX4_grow_172 : decode cX4_grow 172 = .ok (.ishr, 1) := by decide +kernel
theorem dX4_grow_173 : decode cX4_grow 173 = .ok (.iload 8, 2) := by decide +kernel
theorem dX4_grow_175 : decode cX4_grow 175 = .ok (.imul, 1) := by decide +kernel
theorem dX4_grow_176 : decode cX4_grow 176 = .ok (.istore 12, 2) := by decide +kernel
theorem dX4_grow_178 : decode cX4_grow 178 = .ok (.aload_n 0, 1) := by decide +kernel
theorem dX4_grow_179 : decode cX4_grow 179 = .ok (.iload 9, 2) := by decide +kernel
theorem dX4_grow_181 : decode cX4_grow 181 = .ok (.iload_n 2, 1) := by decide +kernel
theorem dX4_grow_182 : decode cX4_grow 182 = .ok (.iload 8, 2) := by decide +kernel
theorem dX4_grow_184 : decode cX4_grow 184 = .ok (.iload 8, 2) := by decide +kernel
theorem dX4_grow_186 : decode cX4_grow 186 = .ok (.invokestatic 62, 3) := by decide +kernel
theorem dX4_grow_189 : decode cX4_grow 189 = .ok (.iload 11, 2) := by decide +kernel
theorem dX4_grow_191 : decode cX4_grow 191 = .ok (.iload 12, 2) := by decide +kernel
theorem dX4_grow_193 : decode cX4_grow 193 = .ok (.invokestatic 62, 3) := by decide +kernel
theorem dX4_grow_196 : decode cX4_grow 196 = .ok (.invokevirtual 65, 3) := by decide +kernel
theorem dX4_grow_199 : decode cX4_grow 199 = .ok (.istore 13, 2) := by decide +kernel
theorem dX4_grow_201 : decode cX4_grow 201 = .ok (.iload 13, 2) := by decide +kernel
theorem dX4_grow_203 : decode cX4_grow 203 = .ok (.iload 9, 2) := by decide +kernel
theorem dX4_grow_205 : decode cX4_grow 205 = .ok (.if_icmp .le 40, 3) := by decide +kernel
theorem dX4_grow_208 : decode cX4_grow 208 = .ok (.aload_n 0, 1) := by decide +kernel
theorem dX4_grow_209 : decode cX4_grow 209 = .ok (.getfield 38, 3) := by decide +kernel
theorem dX4_grow_212 : decode cX4_grow 212 = .ok (.iload 7, 2) := by decide +kernel
theorem dX4_grow_214 : decode cX4_grow 214 = .ok (.iconst 4, 1) := by decide +kernel
theorem dX4_grow_215 : decode cX4_grow 215 = .ok (.iadd, 1) := by decide +kernel
theorem dX4_grow_216 : decode cX4_grow 216 = .ok (.dup2, 1) := by decide +kernel
theorem dX4_grow_217 : decode cX4_grow 217 = .ok (.iaload, 1) := by decide +kernel
theorem dX4_grow_218 : decode cX4_grow 218 = .ok (.iconst 1, 1) := by decide +kernel
theorem dX4_grow_219 : decode cX4_grow 219 = .ok (.iload 10, 2) := by decide +kernel
theorem dX4_grow_221 : decode cX4_grow 221 = .ok (.ishl, 1) := by decide +kernel
theorem dX4_grow_222 : decode cX4_grow 222 = .ok (.ior, 1) := by decide +kernel
theorem dX4_grow_223 : decode cX4_grow 223 = .ok (.iastore, 1) := by decide +kernel
theorem dX4_grow_224 : decode cX4_grow 224 = .ok (.aload_n 0, 1) := by decide +kernel
theorem dX4_grow_225 : decode cX4_grow 225 = .ok (.iload 9, 2) := by decide +kernel
theorem dX4_grow_227 : decode cX4_grow 227 = .ok (.iload 13, 2) := by decide +kernel
theorem dX4_grow_229 : decode cX4_grow 229 = .ok (.iload_n 3, 1) := by decide +kernel
theorem dX4_grow_230 : decode cX4_grow 230 = .ok (.iload 11, 2) := by decide +kernel
theorem dX4_grow_232 : decode cX4_grow 232 = .ok (.iadd, 1) := by decide +kernel
theorem dX4_grow_233 : decode cX4_grow 233 = .ok (.iload 4, 2) := by decide +kernel
theorem dX4_grow_235 : decode cX4_grow 235 = .ok (.iload 12, 2) := by decide +kernel
theorem dX4_grow_237 : decode cX4_grow 237 = .ok (.iadd, 1) := by decide +kernel
theorem dX4_grow_238 : decode cX4_grow 238 = .ok (.iload 5, 2) := by decide +kernel
theorem dX4_grow_240 : decode cX4_grow 240 = .ok (.iconst 1, 1) := by decide +kernel
theorem dX4_grow_241 : decode cX4_grow 241 = .ok (.iadd, 1) := by decide +kernel
theorem dX4_grow_242 : decode cX4_grow 242 = .ok (.invokestatic 49, 3) := by decide +kernel
theorem dX4_grow_245 : decode cX4_grow 245 = .ok (.iload 13, 2) := by decide +kernel
theorem dX4_grow_247 : decode cX4_grow 247 = .ok (.istore 9, 2) := by decide +kernel
theorem dX4_grow_249 : decode cX4_grow 249 = .ok (.iinc 10 1, 3) := by decide +kernel
theorem dX4_grow_252 : decode cX4_grow 252 = .ok (.goto (-98), 3) := by decide +kernel
theorem dX4_grow_255 : decode cX4_grow 255 = .ok (.return_, 1) := by decide +kernel
theorem dX4_gather_0 : decode cX4_gather 0 = .ok (.iload_n 1, 1) := by decide +kernel
theorem dX4_gather_1 : decode cX4_gather 1 = .ok (.istore 5, 2) := by decide +kernel
theorem dX4_gather_3 : decode cX4_gather 3 = .ok (.iload_n 1, 1) := by decide +kernel
theorem dX4_gather_4 : decode cX4_gather 4 = .ok (.istore 6, 2) := by decide +kernel
theorem dX4_gather_6 : decode cX4_gather 6 = .ok (.iload 6, 2) := by decide +kernel
theorem dX4_gather_8 : decode cX4_gather 8 = .ok (.iload_n 2, 1) := by decide +kernel
theorem dX4_gather_9 : decode cX4_gather 9 = .ok (.if_icmp .ge 61, 3) := by decide +kernel
theorem dX4_gather_12 : decode cX4_gather 12 = .ok (.aload_n 0, 1) := by decide +kernel
theorem dX4_gather_13 : decode cX4_gather 13 = .ok (.getfield 9, 3) := by decide +kernel
theorem dX4_gather_16 : decode cX4_gather 16 = .ok (.iload 6, 2) := by decide +kernel
theorem dX4_gather_18 : decode cX4_gather 18 = .ok (.iaload, 1) := by decide +kernel
theorem dX4_gather_19 : decode cX4_gather 19 = .ok (.istore 7, 2) := by decide +kernel
theorem dX4_gather_21 : decode cX4_gather 21 = .ok (.aload_n 0, 1) := by decide +kernel
theorem dX4_gather_22 : decode cX4_gather 22 = .ok (.getfield 25, 3) := by decide +kernel
theorem dX4_gather_25 : decode cX4_gather 25 = .ok (.getfield 69, 3) := by decide +kernel
theorem dX4_gather_28 : decode cX4_gather 28 = .ok (.iload 7, 2) := by decide +kernel
theorem dX4_gather_30 : decode cX4_gather 30 = .ok (.iaload, 1) := by decide +kernel
theorem dX4_gather_31 : decode cX4_gather 31 = .ok (.iload_n 3, 1) := by decide +kernel
theorem dX4_gather_32 : decode cX4_gather 32 = .ok (.iand, 1) := by decide +kernel
theorem dX4_gather_33 : decode cX4_gather 33 = .ok (.iload 4, 2) := by decide +kernel
theorem dX4_gather_35 : decode cX4_gather 35 = .ok (.if_icmp .ne 29, 3) := by decide +kernel
theorem dX4_gather_38 : decode cX4_gather 38 = .ok (.aload_n 0, 1) := by decide +kernel
theorem dX4_gather_39 : decode cX4_gather 39 = .ok (.getfield 9, 3) := by decide +kernel
theorem dX4_gather_42 : decode cX4_gather 42 = .ok (.iload 6, 2) := by decide +kernel
theorem dX4_gather_44 : decode cX4_gather 44 = .ok (.aload_n 0, 1) := by decide +kernel
theorem dX4_gather_45 : decode cX4_gather 45 = .ok (.getfield 9, 3) := by decide +kernel
theorem dX4_gather_48 : decode cX4_gather 48 = .ok (.iload 5, 2) := by decide +kernel
theorem dX4_gather_50 : decode cX4_gather 50 = .ok (.iaload, 1) := by decide +kernel
theorem dX4_gather_51 : decode cX4_gather 51 = .ok (.iastore, 1) := by decide +kernel
theorem dX4_gather_52 : decode cX4_gather 52 = .ok (.aload_n 0, 1) := by decide +kernel
theorem dX4_gather_53 : decode cX4_gather 53 = .ok (.getfield 9, 3) := by decide +kernel
theorem dX4_gather_56 : decode cX4_gather 56 = .ok (.iload 5, 2) := by decide +kernel
theorem dX4_gather_58 : decode cX4_gather 58 = .ok (.iload 7, 2) := by decide +kernel
theorem dX4_gather_60 : decode cX4_gather 60 = .ok (.iastore, 1) := by decide +kernel
theorem dX4_gather_61 : decode cX4_gather 61 = .ok (.iinc 5 1, 3) := by decide +kernel
theorem dX4_gather_64 : decode cX4_gather 64 = .ok (.iinc 6 1, 3) := by decide +kernel
theorem dX4_gather_67 : decode cX4_gather 67 = .ok (.goto (-61), 3) := by decide +kernel
theorem dX4_gather_70 : decode cX4_gather 70 = .ok (.iload 5, 2) := by decide +kernel
theorem dX4_gather_72 : decode cX4_gather 72 = .ok (.ireturn, 1) := by decide +kernel
theorem dX4_lowBitsOf_0 : decode cX4_lowBitsOf 0 = .ok (.iconst 0, 1) := by decide +kernel
theorem dX4_lowBitsOf_1 : decode cX4_lowBitsOf 1 = .ok (.istore_n 3, 1) := by decide +kernel
theorem dX4_lowBitsOf_2 : decode cX4_lowBitsOf 2 = .ok (.iload_n 1, 1) := by decide +kernel
theorem dX4_lowBitsOf_3 : decode cX4_lowBitsOf 3 = .ok (.istore 4, 2) := by decide +kernel
theorem dX4_lowBitsOf_5 : decode cX4_lowBitsOf 5 = .ok (.iload 4, 2) := by decide +kernel
theorem dX4_lowBitsOf_7 : decode cX4_lowBitsOf 7 = .ok (.iload_n 2, 1) := by decide +kernel
theorem dX4_lowBitsOf_8 : decode cX4_lowBitsOf 8 = .ok (.if_icmp .ge 30, 3) := by decide +kernel
theorem dX4_lowBitsOf_11 : decode cX4_lowBitsOf 11 = .ok (.iload_n 3, 1) := by decide +kernel
theorem dX4_lowBitsOf_12 : decode cX4_lowBitsOf 12 = .ok (.aload_n 0, 1) := by decide +kernel
theorem dX4_lowBitsOf_13 : decode cX4_lowBitsOf 13 = .ok (.getfield 25, 3) := by decide +kernel
theorem dX4_lowBitsOf_16 : decode cX4_lowBitsOf 16 = .ok (.getfield 72, 3) := by decide +kernel
theorem dX4_lowBitsOf_19 : decode cX4_lowBitsOf 19 = .ok (.aload_n 0, 1) := by decide +kernel
theorem dX4_lowBitsOf_20 : decode cX4_lowBitsOf 20 = .ok (.getfield 9, 3) := by decide +kernel
theorem dX4_lowBitsOf_23 : decode cX4_lowBitsOf 23 = .ok (.iload 4, 2) := by decide +kernel
theorem dX4_lowBitsOf_25 : decode cX4_lowBitsOf 25 = .ok (.iaload, 1) := by decide +kernel
theorem dX4_lowBitsOf_26 : decode cX4_lowBitsOf 26 = .ok (.iaload, 1) := by decide +kernel
theorem dX4_lowBitsOf_27 : decode cX4_lowBitsOf 27 = .ok (.ldc 75, 2) := by decide +kernel
theorem dX4_lowBitsOf_29 : decode cX4_lowBitsOf 29 = .ok (.iand, 1) := by decide +kernel
theorem dX4_lowBitsOf_30 : decode cX4_lowBitsOf 30 = .ok (.iadd, 1) := by decide +kernel
theorem dX4_lowBitsOf_31 : decode cX4_lowBitsOf 31 = .ok (.istore_n 3, 1) := by decide +kernel
theorem dX4_lowBitsOf_32 : decode cX4_lowBitsOf 32 = .ok (.iinc 4 1, 3) := by decide +kernel
theorem dX4_lowBitsOf_35 : decode cX4_lowBitsOf 35 = .ok (.goto (-30), 3) := by decide +kernel
theorem dX4_lowBitsOf_38 : decode cX4_lowBitsOf 38 = .ok (.iload_n 3, 1) := by decide +kernel
theorem dX4_lowBitsOf_39 : decode cX4_lowBitsOf 39 = .ok (.ireturn, 1) := by decide +kernel
set_option maxRecDepth 20000 in
theorem ggX5_init_X5_fromOneTo : GoodIn wsX5_init wsX5_fromOneTo := goodIn_r _ [34] (by decide +kernel) (by decide +kernel)
set_option maxRecDepth 20000 in
theorem gX5_init_X5_fromOneTo : GoodIn wsX5_init (va_wsS RX5 9 yX5_fromOneTo wsX5_fromOneTo) := goodIn_app (goodIn_of _ (by decide +kernel)) ggX5_init_X5_fromOneTo
set_option maxRecDepth 20000 in
theorem ggX5_init_X2_init : GoodIn wsX5_init wsX2_init := goodIn_r _ [36, 37, 2, 3, 38, 39, 40, 41, 42, 78, 79, 80, 81] (by decide +kernel) (by decide +kernel)
set_option maxRecDepth 20000 in
theorem gX5_init_X2_init_n15 : GoodIn wsX5_init (wsX2_init) := ggX5_init_X2_init
set_option maxRecDepth 20000 in
theorem ggX5_init_X1_init : GoodIn wsX5_init wsX1_init := goodIn_r _ [45, 46, 2, 3, 38, 47, 48, 49, 50, 94, 95, 96, 97] (by decide +kernel) (by decide +kernel)
set_option maxRecDepth 20000 in
theorem gX5_init_X1_init : GoodIn wsX5_init (wsX1_init) := ggX5_init_X1_init
set_option maxRecDepth 20000 in
theorem ggX5_init_X4_init : GoodIn wsX5_init wsX4_init := goodIn_r _ [53, 54, 2, 3, 38, 55, 56, 57, 58, 59, 60, 61, 62, 63, 98, 99, 100, 101, 102, 103, 104, 105, 106] (by decide +kernel) (by decide +kernel)
set_option maxRecDepth 20000 in
theorem gX5_init_X4_init : GoodIn wsX5_init (wsX4_init) := ggX5_init_X4_init
set_option maxRecDepth 20000 in
theorem ggX5_init_X0_init : GoodIn wsX5_init wsX0_init := goodIn_r _ [65, 66, 2, 3, 38, 67, 68, 69, 107, 108, 109] (by decide +kernel) (by decide +kernel)
set_option maxRecDepth 20000 in
theorem gX5_init_X0_init_n53 : GoodIn wsX5_init (wsX0_init) := ggX5_init_X0_init
set_option maxRecDepth 20000 in
theorem ggX5_init_X3_init : GoodIn wsX5_init wsX3_init := goodIn_r _ [71, 72, 2, 3, 38, 73, 74, 75, 76, 77, 110, 111, 112, 113] (by decide +kernel) (by decide +kernel)
set_option maxRecDepth 20000 in
theorem gX5_init_X3_init_n60 : GoodIn wsX5_init (wsX3_init) := ggX5_init_X3_init
theorem dX5_init_0 : decode cX5_init 0 = .ok (.aload_n 0, 1) := by decide +kernel
theorem dX5_init_1 : decode cX5_init 1 = .ok (.invokespecial 3, 3) := by decide +kernel
theorem dX5_init_4 : decode cX5_init 4 = .ok (.sipush 400, 3) := by decide +kernel
theorem dX5_init_7 : decode cX5_init 7 = .ok (.iload_n 1, 1) := by decide +kernel
theorem dX5_init_8 : decode cX5_init 8 = .ok (.bipush 64, 2) := by decide +kernel
theorem dX5_init_10 : decode cX5_init 10 = .ok (.invokestatic 9, 3) := by decide +kernel
theorem dX5_init_13 : decode cX5_init 13 = .ok (.istore 4, 2) := by decide +kernel
theorem dX5_init_15 : decode cX5_init 15 = .ok (.bipush 8, 2) := by decide +kernel
theorem dX5_init_17 : decode cX5_init 17 = .ok (.iload_n 2, 1) := by decide +kernel
theorem dX5_init_18 : decode cX5_init 18 = .ok (.iconst 4, 1) := by decide +kernel
theorem dX5_init_19 : decode cX5_init 19 = .ok (.invokestatic 9, 3) := by decide +kernel
theorem dX5_init_22 : decode cX5_init 22 = .ok (.istore 5, 2) := by decide +kernel
theorem dX5_init_24 : decode cX5_init 24 = .ok (.bipush 15, 2) := by decide +kernel
theorem dX5_init_26 : decode cX5_init 26 = .ok (.iload_n 3, 1) := by decide +kernel
theorem dX5_init_27 : decode cX5_init 27 = .ok (.bipush 8, 2) := by decide +kernel
theorem dX5_init_29 : decode cX5_init 29 = .ok (.invokestatic 9, 3) := by decide +kernel
theorem dX5_init_32 : decode cX5_init 32 = .ok (.istore 6, 2) := by decide +kernel
theorem dX5_init_34 : decode cX5_init 34 = .ok (.new 13, 3) := by decide +kernel
theorem dX5_init_37 : decode cX5_init 37 = .ok (.dup, 1) := by decide +kernel
theorem dX5_init_38 : decode cX5_init 38 = .ok (.invokespecial 15, 3) := by decide +kernel
theorem dX5_init_41 : decode cX5_init 41 = .ok (.astore 7, 2) := by decide +kernel
theorem dX5_init_43 : decode cX5_init 43 = .ok (.new 13, 3) := by decide +kernel
theorem dX5_init_46 : decode cX5_init 46 = .ok (.dup, 1) := by decide +kernel
theorem dX5_init_47 : decode cX5_init 47 = .ok (.invokespecial 15, 3) := by decide +kernel
theorem dX5_init_50 : decode cX5_init 50 = .ok (.astore 8, 2) := by decide +kernel
theorem dX5_init_52 : decode cX5_init 52 = .ok (.aload_n 0, 1) := by decide +kernel
theorem dX5_init_53 : decode cX5_init 53 = .ok (.iload 4, 2) := by decide +kernel
theorem dX5_init_55 : decode cX5_init 55 = .ok (.putfield 16, 3) := by decide +kernel
theorem dX5_init_58 : decode cX5_init 58 = .ok (.aload_n 0, 1) := by decide +kernel
theorem dX5_init_59 : decode cX5_init 59 = .ok (.iload 5, 2) := by decide +kernel
theorem dX5_init_61 : decode cX5_init 61 = .ok (.putfield 20, 3) := by decide +kernel
theorem dX5_init_64 : decode cX5_init 64 = .ok (.aload_n 0, 1) := by decide +kernel
theorem dX5_init_65 : decode cX5_init 65 = .ok (.iconst 1, 1) := by decide +kernel
theorem dX5_init_66 : decode cX5_init 66 = .ok (.iload 6, 2) := by decide +kernel
theorem dX5_init_68 : decode cX5_init 68 = .ok (.ishl, 1) := by decide +kernel
theorem dX5_init_69 : decode cX5_init 69 = .ok (.putfield 23, 3) := by decide +kernel
theorem dX5_init_72 : decode cX5_init 72 = .ok (.aload_n 0, 1) := by decide +kernel
theorem dX5_init_73 : decode cX5_init 73 = .ok (.new 26, 3) := by decide +kernel
theorem dX5_init_76 : decode cX5_init 76 = .ok (.dup, 1) := by decide +kernel
theorem dX5_init_77 : decode cX5_init 77 = .ok (.aload 8, 2) := by decide +kernel
theorem dX5_init_79 : decode cX5_init 79 = .ok (.invokespecial 28, 3) := by decide +kernel
theorem dX5_init_82 : decode cX5_init 82 = .ok (.putfield 31, 3) := by decide +kernel
theorem dX5_init_85 : decode cX5_init 85 = .ok (.aload_n 0, 1) := by decide +kernel
theorem dX5_init_86 : decode cX5_init 86 = .ok (.aload 7, 2) := by decide +kernel
theorem dX5_init_88 : decode cX5_init 88 = .ok (.putfield 35, 3) := by decide +kernel
theorem dX5_init_91 : decode cX5_init 91 = .ok (.aload_n 0, 1) := by decide +kernel
theorem dX5_init_92 : decode cX5_init 92 = .ok (.new 39, 3) := by decide +kernel
theorem dX5_init_95 : decode cX5_init 95 = .ok (.dup, 1) := by decide +kernel
theorem dX5_init_96 : decode cX5_init 96 = .ok (.aload 7, 2) := by decide +kernel
theorem dX5_init_98 : decode cX5_init 98 = .ok (.iload 4, 2) := by decide +kernel
theorem dX5_init_100 : decode cX5_init 100 = .ok (.iload 5, 2) := by decide +kernel
theorem dX5_init_102 : decode cX5_init 102 = .ok (.iload 6, 2) := by decide +kernel
theorem dX5_init_104 : decode cX5_init 104 = .ok (.invokespecial 41, 3) := by decide +kernel
theorem dX5_init_107 : decode cX5_init 107 = .ok (.putfield 44, 3) := by decide +kernel
theorem dX5_init_110 : decode cX5_init 110 = .ok (.aload_n 0, 1) := by decide +kernel
theorem dX5_init_111 : decode cX5_init 111 = .ok (.new 39, 3) := by decide +kernel
theorem dX5_init_114 : decode cX5_init 114 = .ok (.dup, 1) := by decide +kernel
theorem dX5_init_115 : decode cX5_init 115 = .ok (.aload 8, 2) := by decide +kernel
theorem dX5_init_117 : decode cX5_init 117 = .ok (.iload 4, 2) := by decide +kernel
theorem dX5_init_119 : decode cX5_init 119 = .ok (.iload 5, 2) := by decide +kernel
theorem dX5_init_121 : decode cX5_init 121 = .ok (.iload 6, 2) := by decide +kernel
theorem dX5_init_123 : decode cX5_init 123 = .ok (.invokespecial 41, 3) := by decide +kernel
theorem dX5_init_126 : decode cX5_init 126 = .ok (.putfield 48, 3) := by decide +kernel
theorem dX5_init_129 : decode cX5_init 129 = .ok (.aload_n 0, 1) := by decide +kernel
theorem dX5_init_130 : decode cX5_init 130 = .ok (.new 51, 3) := by decide +kernel
theorem dX5_init_133 : decode cX5_init 133 = .ok (.dup, 1) := by decide +kernel
theorem dX5_init_134 : decode cX5_init 134 = .ok (.invokespecial 53, 3) := by decide +kernel
theorem dX5_init_137 : decode cX5_init 137 = .ok (.putfield 54, 3) := by decide +kernel
theorem dX5_init_140 : decode cX5_init 140 = .ok (.aload_n 0, 1) := by decide +kernel
theorem dX5_init_141 : decode cX5_init 141 = .ok (.new 58, 3) := by decide +kernel
theorem dX5_init_144 : decode cX5_init 144 = .ok (.dup, 1) := by decide +kernel
theorem dX5_init_145 : decode cX5_init 145 = .ok (.invokespecial 60, 3) := by decide +kernel
theorem dX5_init_148 : decode cX5_init 148 = .ok (.putfield 61, 3) := by decide +kernel
theorem dX5_init_151 : decode cX5_init 151 = .ok (.aload_n 0, 1) := by decide +kernel
theorem dX5_init_152 : decode cX5_init 152 = .ok (.iconst 1, 1) := by decide +kernel
theorem dX5_init_153 : decode cX5_init 153 = .ok (.putfield 65, 3) := by decide +kernel
theorem dX5_init_156 : decode cX5_init 156 = .ok (.aload_n 0, 1) := by decide +kernel
theorem dX5_init_157 : decode cX5_init 157 = .ok (.iconst (-1), 1) := by decide +kernel
theorem dX5_init_158 : decode cX5_init 158 = .ok (.putfield 69, 3) := by decide +kernel
theorem dX5_init_161 : decode cX5_init 161 = .ok (.aload_n 0, 1) := by decide +kernel
theorem dX5_init_162 : decode cX5_init 162 = .ok (.iconst 0, 1) := by decide +kernel
theorem dX5_init_163 : decode cX5_init 163 = .ok (.putfield 72, 3) := by decide +kernel
theorem dX5_init_166 : decode cX5_init 166 = .ok (.return_, 1) := by decide +kernel
set_option maxRecDepth 20000 in
theorem ggX5_insert_X5_isOnPlane : GoodIn wsX5_insert wsX5_isOnPlane := goodIn_r _ [8, 9, 102, 103, 104, 105, 106, 107, 108, 109, 110, 111, 112, 113] (by decide +kernel) (by decide +kernel)
set_option maxRecDepth 20000 in
theorem gX5_insert_X5_isOnPlane : GoodIn wsX5_insert (wsV RX5 75 RX5 yX5_isOnPlane wsX5_isOnPlane) := goodIn_app (goodIn_of _ (by decide +kernel)) ggX5_insert_X5_isOnPlane
set_option maxRecDepth 20000 in
theorem ggX5_insert_X0_isFull : GoodIn wsX5_insert wsX0_isFull := goodIn_r _ [14, 15, 114, 115, 116] (by decide +kernel) (by decide +kernel)
set_option maxRecDepth 20000 in
theorem gX5_insert_X0_isFull : GoodIn wsX5_insert (wsV RX5 79 RX0 yX0_isFull wsX0_isFull) := goodIn_app (goodIn_of _ (by decide +kernel)) ggX5_insert_X0_isFull
set_option maxRecDepth 20000 in
theorem ggX5_insert_X5_keyOf : GoodIn wsX5_insert wsX5_keyOf := goodIn_r _ [18] (by decide +kernel) (by decide +kernel)
set_option maxRecDepth 20000 in
theorem gX5_insert_X5_keyOf : GoodIn wsX5_insert (va_wsS RX5 83 yX5_keyOf wsX5_keyOf) := goodIn_app (goodIn_of _ (by decide +kernel)) ggX5_insert_X5_keyOf
set_option maxRecDepth 20000 in
theorem ggX5_insert_X2_valueOf : GoodIn wsX5_insert wsX2_valueOf := goodIn_r _ [23, 24, 25, 26, 27, 22, 28, 29, 30, 31, 32, 33, 34, 35, 117, 118, 119, 120] (by decide +kernel) (by decide +kernel)
set_option maxRecDepth 20000 in
theorem gX5_insert_X2_valueOf : GoodIn wsX5_insert (wsV RX5 87 RX2 yX2_valueOf wsX2_valueOf) := goodIn_app (goodIn_of _ (by decide +kernel)) ggX5_insert_X2_valueOf
set_option maxRecDepth 20000 in
theorem ggX5_insert_X2_put : GoodIn wsX5_insert wsX2_put := goodIn_r _ [39, 30, 29, 40, 41, 42, 43, 24, 44, 25, 26, 27, 22, 28, 31, 32, 33, 34, 35, 45, 46, 47, 48, 117, 118, 119, 120] (by decide +kernel) (by decide +kernel)
set_option maxRecDepth 20000 in
theorem gX5_insert_X2_put : GoodIn wsX5_insert (wsV RX5 91 RX2 yX2_put wsX2_put) := goodIn_app (goodIn_of _ (by decide +kernel)) ggX5_insert_X2_put
set_option maxRecDepth 20000 in
theorem ggX5_insert_X5_comesIn : GoodIn wsX5_insert wsX5_comesIn := goodIn_r _ [52, 3, 53, 54, 55, 56, 46, 47, 22, 48, 29, 36, 37, 38, 39, 30, 40, 41, 42, 43, 24, 44, 25, 26, 27, 28, 31, 32, 33, 34, 35, 45, 57, 58, 59, 60, 61, 62, 63, 64, 65, 66, 67, 68, 69, 70, 71, 72, 73, 74, 75, 76, 77, 78, 79, 80, 81, 82, 83, 84, 85, 17, 7, 18, 86, 87, 88, 89, 90, 91, 92, 93, 94, 102, 103, 104, 105, 106, 107, 108, 109, 110, 111, 112, 113, 121, 122, 123, 124, 125, 126, 127, 128, 129, 117, 118, 119, 120] (by decide +kernel) (by decide +kernel)
set_option maxRecDepth 20000 in
theorem gX5_insert_X5_comesIn : GoodIn wsX5_insert (wsV RX5 95 RX5 yX5_comesIn wsX5_comesIn) := goodIn_app (goodIn_of _ (by decide +kernel)) ggX5_insert_X5_comesIn
set_option maxRecDepth 20000 in
theorem ggX5_insert_X0_add : GoodIn wsX5_insert wsX0_add := goodIn_r _ [98, 99, 15, 100, 101, 11, 12, 13, 14, 114, 115, 116] (by decide +kernel) (by decide +kernel)
set_option maxRecDepth 20000 in
theorem gX5_insert_X0_add : GoodIn wsX5_insert (wsV RX5 98 RX0 yX0_add wsX0_add) := goodIn_app (goodIn_of _ (by decide +kernel)) ggX5_insert_X0_add
theorem dX5_insert_0 : decode cX5_insert 0 = .ok (.aload_n 0, 1) := by decide +kernel
theorem dX5_insert_1 : decode cX5_insert 1 = .ok (.getfield 65, 3) := by decide +kernel
theorem dX5_insert_4 : decode cX5_insert 4 = .ok (.ifCond .ne 6, 3) := by decide +kernel
theorem dX5_insert_7 : decode cX5_insert 7 = .ok (.bipush (-2), 2) := by decide +kernel
theorem dX5_insert_9 : decode cX5_insert 9 = .ok (.ireturn, 1) := by decide +kernel
theorem dX5_insert_10 : decode cX5_insert 10 = .ok (.aload_n 0, 1) := by decide +kernel
theorem dX5_insert_11 : decode cX5_insert 11 = .ok (.iload_n 1, 1) := by decide +kernel
theorem dX5_insert_12 : decode cX5_insert 12 = .ok (.iload_n 2, 1) := by decide +kernel
theorem dX5_insert_13 : decode cX5_insert 13 = .ok (.invokevirtual 75, 3) := by decide +kernel
theorem dX5_insert_16 : decode cX5_insert 16 = .ok (.ifCond .eq 7, 3) := by decide +kernel
theorem dX5_insert_19 : decode cX5_insert 19 = .ok (.iload_n 3, 1) := by decide +kernel
theorem dX5_insert_20 : decode cX5_insert 20 = .ok (.ifCond .ge 5, 3) := by decide +kernel
theorem dX5_insert_23 : decode cX5_insert 23 = .ok (.iconst 2, 1) := by decide +kernel
theorem dX5_insert_24 : decode cX5_insert 24 = .ok (.ireturn, 1) := by decide +kernel
theorem dX5_insert_25 : decode cX5_insert 25 = .ok (.aload_n 0, 1) := by decide +kernel
theorem dX5_insert_26 : decode cX5_insert 26 = .ok (.getfield 54, 3) := by decide +kernel
theorem dX5_insert_29 : decode cX5_insert 29 = .ok (.invokevirtual 79, 3) := by decide +kernel
theorem dX5_insert_32 : decode cX5_insert 32 = .ok (.ifCond .eq 5, 3) := by decide +kernel
theorem dX5_insert_35 : decode cX5_insert 35 = .ok (.iconst 3, 1) := by decide +kernel
theorem dX5_insert_36 : decode cX5_insert 36 = .ok (.ireturn, 1) := by decide +kernel
theorem dX5_insert_37 : decode cX5_insert 37 = .ok (.iload_n 1, 1) := by decide +kernel
theorem dX5_insert_38 : decode cX5_insert 38 = .ok (.iload_n 2, 1) := by decide +kernel
theorem dX5_insert_39 : decode cX5_insert 39 = .ok (.invokestatic 83, 3) := by decide +kernel
theorem dX5_insert_42 : decode cX5_insert 42 = .ok (.istore 4, 2) := by decide +kernel
theorem dX5_insert_44 : decode cX5_insert 44 = .ok (.aload_n 0, 1) := by decide +kernel
theorem dX5_insert_45 : decode cX5_insert 45 = .ok (.getfield 35, 3) := by decide +kernel
theorem dX5_insert_48 : decode cX5_insert 48 = .ok (.iload 4, 2) := by decide +kernel
theorem dX5_insert_50 : decode cX5_insert 50 = .ok (.invokevirtual 87, 3) := by decide +kernel
theorem dX5_insert_53 : decode cX5_insert 53 = .ok (.iconst (-1), 1) := by decide +kernel
theorem dX5_insert_54 : decode cX5_insert 54 = .ok (.if_icmp .eq 7, 3) := by decide +kernel
theorem dX5_insert_57 : decode cX5_insert 57 = .ok (.iconst 1, 1) := by decide +kernel
theorem dX5_insert_58 : decode cX5_insert 58 = .ok (.goto 4, 3) := by decide +kernel
theorem dX5_insert_61 : decode cX5_insert 61 = .ok (.iconst 0, 1) := by decide +kernel
theorem dX5_insert_62 : decode cX5_insert 62 = .ok (.istore 5, 2) := by decide +kernel
theorem dX5_insert_64 : decode cX5_insert 64 = .ok (.iload 5, 2) := by decide +kernel
theorem dX5_insert_66 : decode cX5_insert 66 = .ok (.ifCond .eq 16, 3) := by decide +kernel
theorem dX5_insert_69 : decode cX5_insert 69 = .ok (.aload_n 0, 1) := by decide +kernel
theorem dX5_insert_70 : decode cX5_insert 70 = .ok (.getfield 35, 3) := by decide +kernel
theorem dX5_insert_73 : decode cX5_insert 73 = .ok (.iload 4, 2) := by decide +kernel
theorem dX5_insert_75 : decode cX5_insert 75 = .ok (.iload_n 3, 1) := by decide +kernel
theorem dX5_insert_76 : decode cX5_insert 76 = .ok (.invokevirtual 91, 3) := by decide +kernel
theorem dX5_insert_79 : decode cX5_insert 79 = .ok (.goto 15, 3) := by decide +kernel
theorem dX5_insert_82 : decode cX5_insert 82 = .ok (.aload_n 0, 1) := by decide +kernel
theorem dX5_insert_83 : decode cX5_insert 83 = .ok (.iload 4, 2) := by decide +kernel
theorem dX5_insert_85 : decode cX5_insert 85 = .ok (.iload_n 3, 1) := by decide +kernel
theorem dX5_insert_86 : decode cX5_insert 86 = .ok (.invokevirtual 95, 3) := by decide +kernel
theorem dX5_insert_89 : decode cX5_insert 89 = .ok (.ifCond .ne 5, 3) := by decide +kernel
theorem dX5_insert_92 : decode cX5_insert 92 = .ok (.iconst 4, 1) := by decide +kernel
theorem dX5_insert_93 : decode cX5_insert 93 = .ok (.ireturn, 1) := by decide +kernel
theorem dX5_insert_94 : decode cX5_insert 94 = .ok (.aload_n 0, 1) := by decide +kernel
theorem dX5_insert_95 : decode cX5_insert 95 = .ok (.getfield 54, 3) := by decide +kernel
theorem dX5_insert_98 : decode cX5_insert 98 = .ok (.iload 4, 2) := by decide +kernel
theorem dX5_insert_100 : decode cX5_insert 100 = .ok (.iload_n 3, 1) := by decide +kernel
theorem dX5_insert_101 : decode cX5_insert 101 = .ok (.invokevirtual 98, 3) := by decide +kernel
theorem dX5_insert_104 : decode cX5_insert 104 = .ok (.iload 5, 2) := by decide +kernel
theorem dX5_insert_106 : decode cX5_insert 106 = .ok (.ifCond .eq 7, 3) := by decide +kernel
theorem dX5_insert_109 : decode cX5_insert 109 = .ok (.iconst 1, 1) := by decide +kernel
theorem dX5_insert_110 : decode cX5_insert 110 = .ok (.goto 4, 3) := by decide +kernel
theorem dX5_insert_113 : decode cX5_insert 113 = .ok (.iconst 0, 1) := by decide +kernel
theorem dX5_insert_114 : decode cX5_insert 114 = .ok (.ireturn, 1) := by decide +kernel
set_option maxRecDepth 20000 in
theorem ggX5_delete_X5_isOnPlane : GoodIn wsX5_delete wsX5_isOnPlane := goodIn_r _ [8, 9, 52, 53, 54, 55, 56, 57, 58, 59, 60, 61, 62, 63] (by decide +kernel) (by decide +kernel)
set_option maxRecDepth 20000 in
theorem gX5_delete_X5_isOnPlane : GoodIn wsX5_delete (wsV RX5 75 RX5 yX5_isOnPlane wsX5_isOnPlane) := goodIn_app (goodIn_of _ (by decide +kernel)) ggX5_delete_X5_isOnPlane
set_option maxRecDepth 20000 in
theorem ggX5_delete_X5_keyOf : GoodIn wsX5_delete wsX5_keyOf := goodIn_r _ [12] (by decide +kernel) (by decide +kernel)
set_option maxRecDepth 20000 in
theorem gX5_delete_X5_keyOf : GoodIn wsX5_delete (va_wsS RX5 83 yX5_keyOf wsX5_keyOf) := goodIn_app (goodIn_of _ (by decide +kernel)) ggX5_delete_X5_keyOf
set_option maxRecDepth 20000 in
theorem ggX5_delete_X2_valueOf : GoodIn wsX5_delete wsX2_valueOf := goodIn_r _ [17, 18, 19, 20, 21, 16, 22, 23, 24, 25, 26, 27, 28, 29, 64, 65, 66, 67] (by decide +kernel) (by decide +kernel)
set_option maxRecDepth 20000 in
theorem gX5_delete_X2_valueOf : GoodIn wsX5_delete (wsV RX5 87 RX2 yX2_valueOf wsX2_valueOf) := goodIn_app (goodIn_of _ (by decide +kernel)) ggX5_delete_X2_valueOf
set_option maxRecDepth 20000 in
theorem ggX5_delete_X0_isFull : GoodIn wsX5_delete wsX0_isFull := goodIn_r _ [34, 35, 68, 69, 70] (by decide +kernel) (by decide +kernel)
set_option maxRecDepth 20000 in
theorem gX5_delete_X0_isFull : GoodIn wsX5_delete (wsV RX5 79 RX0 yX0_isFull wsX0_isFull) := goodIn_app (goodIn_of _ (by decide +kernel)) ggX5_delete_X0_isFull
set_option maxRecDepth 20000 in
theorem ggX5_delete_X2_takeOut : GoodIn wsX5_delete wsX2_takeOut := goodIn_r _ [39, 24, 23, 40, 41, 42, 43, 18, 44, 19, 20, 21, 16, 22, 25, 26, 27, 28, 29, 64, 65, 66, 67] (by decide +kernel) (by decide +kernel)
set_option maxRecDepth 20000 in
theorem gX5_delete_X2_takeOut : GoodIn wsX5_delete (wsV RX5 101 RX2 yX2_takeOut wsX2_takeOut) := goodIn_app (goodIn_of _ (by decide +kernel)) ggX5_delete_X2_takeOut
set_option maxRecDepth 20000 in
theorem ggX5_delete_X0_add : GoodIn wsX5_delete wsX0_add := goodIn_r _ [48, 49, 35, 50, 51, 31, 32, 33, 34, 68, 69, 70] (by decide +kernel) (by decide +kernel)
set_option maxRecDepth 20000 in
theorem gX5_delete_X0_add : GoodIn wsX5_delete (wsV RX5 98 RX0 yX0_add wsX0_add) := goodIn_app (goodIn_of _ (by decide +kernel)) ggX5_delete_X0_add
theorem dX5_delete_0 : decode cX5_delete 0 = .ok (.aload_n 0, 1) := by decide +kernel
theorem dX5_delete_1 : decode cX5_delete 1 = .ok (.getfield 65, 3) := by decide +kernel
theorem dX5_delete_4 : decode cX5_delete 4 = .ok (.ifCond .ne 6, 3) := by decide +kernel
theorem dX5_delete_7 : decode cX5_delete 7 = .ok (.bipush (-2), 2) := by decide +kernel
theorem dX5_delete_9 : decode cX5_delete 9 = .ok (.ireturn, 1) := by decide +kernel
theorem dX5_delete_10 : decode cX5_delete 10 = .ok (.aload_n 0, 1) := by decide +kernel
theorem dX5_delete_11 : decode cX5_delete 11 = .ok (.iload_n 1, 1) := by decide +kernel
theorem dX5_delete_12 : decode cX5_delete 12 = .ok (.iload_n 2, 1) := by decide +kernel
theorem dX5_delete_13 : decode cX5_delete 13 = .ok (.invokevirtual 75, 3) := by decide +kernel
theorem dX5_delete_16 : decode cX5_delete 16 = .ok (.ifCond .ne 5, 3) := by decide +kernel
theorem dX5_delete_19 : decode cX5_delete 19 = .ok (.iconst 2, 1) := by decide +kernel
theorem dX5_delete_20 : decode cX5_delete 20 = .ok (.ireturn, 1) := by decide +kernel
theorem dX5_delete_21 : decode cX5_delete 21 = .ok (.iload_n 1, 1) := by decide +kernel
theorem dX5_delete_22 : decode cX5_delete 22 = .ok (.iload_n 2, 1) := by decide +kernel
theorem dX5_delete_23 : decode cX5_delete 23 = .ok (.invokestatic 83, 3) := by decide +kernel
theorem dX5_delete_26 : decode cX5_delete 26 = .ok (.istore_n 3, 1) := by decide +kernel
theorem dX5_delete_27 : decode cX5_delete 27 = .ok (.aload_n 0, 1) := by decide +kernel
theorem dX5_delete_28 : decode cX5_delete 28 = .ok (.getfield 35, 3) := by decide +kernel
theorem dX5_delete_31 : decode cX5_delete 31 = .ok (.iload_n 3, 1) := by decide +kernel
theorem dX5_delete_32 : decode cX5_delete 32 = .ok (.invokevirtual 87, 3) := by decide +kernel
theorem dX5_delete_35 : decode cX5_delete 35 = .ok (.iconst (-1), 1) := by decide +kernel
theorem dX5_delete_36 : decode cX5_delete 36 = .ok (.if_icmp .ne 5, 3) := by decide +kernel
theorem dX5_delete_39 : decode cX5_delete 39 = .ok (.iconst 5, 1) := by decide +kernel
theorem dX5_delete_40 : decode cX5_delete 40 = .ok (.ireturn, 1) := by decide +kernel
theorem dX5_delete_41 : decode cX5_delete 41 = .ok (.aload_n 0, 1) := by decide +kernel
theorem dX5_delete_42 : decode cX5_delete 42 = .ok (.getfield 54, 3) := by decide +kernel
theorem dX5_delete_45 : decode cX5_delete 45 = .ok (.invokevirtual 79, 3) := by decide +kernel
theorem dX5_delete_48 : decode cX5_delete 48 = .ok (.ifCond .eq 5, 3) := by decide +kernel
theorem dX5_delete_51 : decode cX5_delete 51 = .ok (.iconst 3, 1) := by decide +kernel
theorem dX5_delete_52 : decode cX5_delete 52 = .ok (.ireturn, 1) := by decide +kernel
theorem dX5_delete_53 : decode cX5_delete 53 = .ok (.aload_n 0, 1) := by decide +kernel
theorem dX5_delete_54 : decode cX5_delete 54 = .ok (.getfield 35, 3) := by decide +kernel
theorem dX5_delete_57 : decode cX5_delete 57 = .ok (.iload_n 3, 1) := by decide +kernel
theorem dX5_delete_58 : decode cX5_delete 58 = .ok (.invokevirtual 101, 3) := by decide +kernel
theorem dX5_delete_61 : decode cX5_delete 61 = .ok (.aload_n 0, 1) := by decide +kernel
theorem dX5_delete_62 : decode cX5_delete 62 = .ok (.getfield 54, 3) := by decide +kernel
theorem dX5_delete_65 : decode cX5_delete 65 = .ok (.iload_n 3, 1) := by decide +kernel
theorem dX5_delete_66 : decode cX5_delete 66 = .ok (.iconst (-1), 1) := by decide +kernel
theorem dX5_delete_67 : decode cX5_delete 67 = .ok (.invokevirtual 98, 3) := by decide +kernel
theorem dX5_delete_70 : decode cX5_delete 70 = .ok (.iconst 0, 1) := by decide +kernel
theorem dX5_delete_71 : decode cX5_delete 71 = .ok (.ireturn, 1) := by decide +kernel
set_option maxRecDepth 20000 in
theorem ggX5_get_X5_pointsOf : GoodIn wsX5_get wsX5_pointsOf := goodIn_r _ [6, 7, 8, 9, 35, 36, 37, 38, 39, 40, 41, 42, 43, 44, 45, 46, 47, 48, 49, 50] (by decide +kernel) (by decide +kernel)
set_option maxRecDepth 20000 in
theorem gX5_get_X5_pointsOf : GoodIn wsX5_get (wsV RX5 105 RX5 yX5_pointsOf wsX5_pointsOf) := goodIn_app (goodIn_of _ (by decide +kernel)) ggX5_get_X5_pointsOf
set_option maxRecDepth 20000 in
theorem ggX5_get_X5_isOnPlane : GoodIn wsX5_get wsX5_isOnPlane := goodIn_r _ [13, 14, 35, 36, 37, 38, 39, 40, 41, 42, 43, 44, 45, 46] (by decide +kernel) (by decide +kernel)
set_option maxRecDepth 20000 in
theorem gX5_get_X5_isOnPlane : GoodIn wsX5_get (wsV RX5 75 RX5 yX5_isOnPlane wsX5_isOnPlane) := goodIn_app (goodIn_of _ (by decide +kernel)) ggX5_get_X5_isOnPlane
set_option maxRecDepth 20000 in
theorem ggX5_get_X5_keyOf : GoodIn wsX5_get wsX5_keyOf := goodIn_r _ [17] (by decide +kernel) (by decide +kernel)
set_option maxRecDepth 20000 in
theorem gX5_get_X5_keyOf : GoodIn wsX5_get (va_wsS RX5 83 yX5_keyOf wsX5_keyOf) := goodIn_app (goodIn_of _ (by decide +kernel)) ggX5_get_X5_keyOf
set_option maxRecDepth 20000 in
theorem ggX5_get_X2_valueOf : GoodIn wsX5_get wsX2_valueOf := goodIn_r _ [22, 23, 24, 25, 26, 21, 27, 28, 29, 30, 31, 32, 33, 34, 51, 52, 53, 54] (by decide +kernel) (by decide +kernel)
set_option maxRecDepth 20000 in
theorem gX5_get_X2_valueOf : GoodIn wsX5_get (wsV RX5 87 RX2 yX2_valueOf wsX2_valueOf) := goodIn_app (goodIn_of _ (by decide +kernel)) ggX5_get_X2_valueOf
theorem dX5_get_0 : decode cX5_get 0 = .ok (.aload_n 0, 1) := by decide +kernel
theorem dX5_get_1 : decode cX5_get 1 = .ok (.getfield 65, 3) := by decide +kernel
theorem dX5_get_4 : decode cX5_get 4 = .ok (.ifCond .ne 6, 3) := by decide +kernel
theorem dX5_get_7 : decode cX5_get 7 = .ok (.bipush (-2), 2) := by decide +kernel
theorem dX5_get_9 : decode cX5_get 9 = .ok (.ireturn, 1) := by decide +kernel
theorem dX5_get_10 : decode cX5_get 10 = .ok (.aload_n 0, 1) := by decide +kernel
theorem dX5_get_11 : decode cX5_get 11 = .ok (.iload_n 1, 1) := by decide +kernel
theorem dX5_get_12 : decode cX5_get 12 = .ok (.invokevirtual 105, 3) := by decide +kernel
theorem dX5_get_15 : decode cX5_get 15 = .ok (.astore 4, 2) := by decide +kernel
theorem dX5_get_17 : decode cX5_get 17 = .ok (.aload 4, 2) := by decide +kernel
theorem dX5_get_19 : decode cX5_get 19 = .ok (.ifnull 12, 3) := by decide +kernel
theorem dX5_get_22 : decode cX5_get 22 = .ok (.aload_n 0, 1) := by decide +kernel
theorem dX5_get_23 : decode cX5_get 23 = .ok (.iload_n 2, 1) := by decide +kernel
theorem dX5_get_24 : decode cX5_get 24 = .ok (.iload_n 3, 1) := by decide +kernel
theorem dX5_get_25 : decode cX5_get 25 = .ok (.invokevirtual 75, 3) := by decide +kernel
theorem dX5_get_28 : decode cX5_get 28 = .ok (.ifCond .ne 5, 3) := by decide +kernel
theorem dX5_get_31 : decode cX5_get 31 = .ok (.iconst (-1), 1) := by decide +kernel
theorem dX5_get_32 : decode cX5_get 32 = .ok (.ireturn, 1) := by decide +kernel
theorem dX5_get_33 : decode cX5_get 33 = .ok (.aload 4, 2) := by decide +kernel
theorem dX5_get_35 : decode cX5_get 35 = .ok (.iload_n 2, 1) := by decide +kernel
theorem dX5_get_36 : decode cX5_get 36 = .ok (.iload_n 3, 1) := by decide +kernel
theorem dX5_get_37 : decode cX5_get 37 = .ok (.invokestatic 83, 3) := by decide +kernel
theorem dX5_get_40 : decode cX5_get 40 = .ok (.invokevirtual 87, 3) := by decide +kernel
theorem dX5_get_43 : decode cX5_get 43 = .ok (.ireturn, 1) := by decide +kernel
set_option maxRecDepth 20000 in
theorem ggX5_window_X5_pointsOf : GoodIn wsX5_window wsX5_pointsOf := goodIn_r _ [10, 11, 12, 13, 35, 36, 37, 38, 39, 40, 41, 42, 43, 44, 45, 46, 51, 52, 53, 54] (by decide +kernel) (by decide +kernel)
set_option maxRecDepth 20000 in
theorem gX5_window_X5_pointsOf : GoodIn wsX5_window (wsV RX5 105 RX5 yX5_pointsOf wsX5_pointsOf) := goodIn_app (goodIn_of _ (by decide +kernel)) ggX5_window_X5_pointsOf
set_option maxRecDepth 20000 in
theorem ggX5_window_X3_clear : GoodIn wsX5_window wsX3_clear := goodIn_r _ [18, 19, 55, 56, 57, 58] (by decide +kernel) (by decide +kernel)
set_option maxRecDepth 20000 in
theorem gX5_window_X3_clear : GoodIn wsX5_window (wsV RX5 109 RX3 yX3_clear wsX3_clear) := goodIn_app (goodIn_of _ (by decide +kernel)) ggX5_window_X3_clear
set_option maxRecDepth 20000 in
theorem ggX5_window_X5_isWithin : GoodIn wsX5_window wsX5_isWithin := goodIn_r _ [22, 23, 24, 9, 25, 26, 27, 28] (by decide +kernel) (by decide +kernel)
set_option maxRecDepth 20000 in
theorem gX5_window_X5_isWithin : GoodIn wsX5_window (va_wsS RX5 119 yX5_isWithin wsX5_isWithin) := goodIn_app (goodIn_of _ (by decide +kernel)) ggX5_window_X5_isWithin
set_option maxRecDepth 20000 in
theorem ggX5_window_X3_add : GoodIn wsX5_window wsX3_add := goodIn_r _ [32, 19, 33, 34, 55, 56, 57, 58] (by decide +kernel) (by decide +kernel)
set_option maxRecDepth 20000 in
theorem gX5_window_X3_add : GoodIn wsX5_window (wsV RX5 126 RX3 yX3_add wsX3_add) := goodIn_app (goodIn_of _ (by decide +kernel)) ggX5_window_X3_add
theorem dX5_window_0 : decode cX5_window 0 = .ok (.aload_n 0, 1) := by decide +kernel
theorem dX5_window_1 : decode cX5_window 1 = .ok (.getfield 65, 3) := by decide +kernel
theorem dX5_window_4 : decode cX5_window 4 = .ok (.ifCond .ne 6, 3) := by decide +kernel
theorem dX5_window_7 : decode cX5_window 7 = .ok (.bipush (-2), 2) := by decide +kernel
theorem dX5_window_9 : decode cX5_window 9 = .ok (.ireturn, 1) := by decide +kernel
theorem dX5_window_10 : decode cX5_window 10 = .ok (.aload_n 0, 1) := by decide +kernel
theorem dX5_window_11 : decode cX5_window 11 = .ok (.iload_n 1, 1) := by decide +kernel
theorem dX5_window_12 : decode cX5_window 12 = .ok (.invokevirtual 105, 3) := by decide +kernel
theorem dX5_window_15 : decode cX5_window 15 = .ok (.astore 6, 2) := by decide +kernel
theorem dX5_window_17 : decode cX5_window 17 = .ok (.aload 6, 2) := by decide +kernel
theorem dX5_window_19 : decode cX5_window 19 = .ok (.ifnonnull 5, 3) := by decide +kernel
theorem dX5_window_22 : decode cX5_window 22 = .ok (.iconst (-1), 1) := by decide +kernel
theorem dX5_window_23 : decode cX5_window 23 = .ok (.ireturn, 1) := by decide +kernel
theorem dX5_window_24 : decode cX5_window 24 = .ok (.aload_n 0, 1) := by decide +kernel
theorem dX5_window_25 : decode cX5_window 25 = .ok (.getfield 61, 3) := by decide +kernel
theorem dX5_window_28 : decode cX5_window 28 = .ok (.invokevirtual 109, 3) := by decide +kernel
theorem dX5_window_31 : decode cX5_window 31 = .ok (.iconst 0, 1) := by decide +kernel
theorem dX5_window_32 : decode cX5_window 32 = .ok (.istore 7, 2) := by decide +kernel
theorem dX5_window_34 : decode cX5_window 34 = .ok (.iconst 0, 1) := by decide +kernel
theorem dX5_window_35 : decode cX5_window 35 = .ok (.istore 8, 2) := by decide +kernel
theorem dX5_window_37 : decode cX5_window 37 = .ok (.iload 8, 2) := by decide +kernel
theorem dX5_window_39 : decode cX5_window 39 = .ok (.aload 6, 2) := by decide +kernel
theorem dX5_window_41 : decode cX5_window 41 = .ok (.getfield 112, 3) := by decide +kernel
theorem dX5_window_44 : decode cX5_window 44 = .ok (.if_icmp .ge 55, 3) := by decide +kernel
theorem dX5_window_47 : decode cX5_window 47 = .ok (.aload 6, 2) := by decide +kernel
theorem dX5_window_49 : decode cX5_window 49 = .ok (.getfield 115, 3) := by decide +kernel
theorem dX5_window_52 : decode cX5_window 52 = .ok (.iload 8, 2) := by decide +kernel
theorem dX5_window_54 : decode cX5_window 54 = .ok (.iaload, 1) := by decide +kernel
theorem dX5_window_55 : decode cX5_window 55 = .ok (.iload_n 2, 1) := by decide +kernel
theorem dX5_window_56 : decode cX5_window 56 = .ok (.iload_n 3, 1) := by decide +kernel
theorem dX5_window_57 : decode cX5_window 57 = .ok (.iload 4, 2) := by decide +kernel
theorem dX5_window_59 : decode cX5_window 59 = .ok (.iload 5, 2) := by decide +kernel
theorem dX5_window_61 : decode cX5_window 61 = .ok (.invokestatic 119, 3) := by decide +kernel
theorem dX5_window_64 : decode cX5_window 64 = .ok (.ifCond .eq 29, 3) := by decide +kernel
theorem dX5_window_67 : decode cX5_window 67 = .ok (.aload_n 0, 1) := by decide +kernel
theorem dX5_window_68 : decode cX5_window 68 = .ok (.getfield 61, 3) := by decide +kernel
theorem dX5_window_71 : decode cX5_window 71 = .ok (.aload 6, 2) := by decide +kernel
theorem dX5_window_73 : decode cX5_window 73 = .ok (.getfield 115, 3) := by decide +kernel
theorem dX5_window_76 : decode cX5_window 76 = .ok (.iload 8, 2) := by decide +kernel
theorem dX5_window_78 : decode cX5_window 78 = .ok (.iaload, 1) := by decide +kernel
theorem dX5_window_79 : decode cX5_window 79 = .ok (.aload 6, 2) := by decide +kernel
theorem dX5_window_81 : decode cX5_window 81 = .ok (.getfield 123, 3) := by decide +kernel
theorem dX5_window_84 : decode cX5_window 84 = .ok (.iload 8, 2) := by decide +kernel
theorem dX5_window_86 : decode cX5_window 86 = .ok (.iaload, 1) := by decide +kernel
theorem dX5_window_87 : decode cX5_window 87 = .ok (.invokevirtual 126, 3) := by decide +kernel
theorem dX5_window_90 : decode cX5_window 90 = .ok (.iinc 7 1, 3) := by decide +kernel
theorem dX5_window_93 : decode cX5_window 93 = .ok (.iinc 8 1, 3) := by decide +kernel
theorem dX5_window_96 : decode cX5_window 96 = .ok (.goto (-59), 3) := by decide +kernel
theorem dX5_window_99 : decode cX5_window 99 = .ok (.iload 7, 2) := by decide +kernel
theorem dX5_window_101 : decode cX5_window 101 = .ok (.ireturn, 1) := by decide +kernel
set_option maxRecDepth 20000 in
theorem ggX5_nearest_X5_pointsOf : GoodIn wsX5_nearest wsX5_pointsOf := goodIn_r _ [11, 12, 13, 14, 49, 50, 51, 52, 53, 54, 55, 56, 57, 58, 59, 60, 69, 70, 71, 72] (by decide +kernel) (by decide +kernel)
set_option maxRecDepth 20000 in
theorem gX5_nearest_X5_pointsOf : GoodIn wsX5_nearest (wsV RX5 105 RX5 yX5_pointsOf wsX5_pointsOf) := goodIn_app (goodIn_of _ (by decide +kernel)) ggX5_nearest_X5_pointsOf
set_option maxRecDepth 20000 in
theorem ggX5_nearest_X5_isPlace : GoodIn wsX5_nearest wsX5_isPlace := goodIn_r _ [17, 18] (by decide +kernel) (by decide +kernel)
set_option maxRecDepth 20000 in
theorem gX5_nearest_X5_isPlace : GoodIn wsX5_nearest (va_wsS RX5 127 yX5_isPlace wsX5_isPlace) := goodIn_app (goodIn_of _ (by decide +kernel)) ggX5_nearest_X5_isPlace
set_option maxRecDepth 20000 in
theorem ggX5_nearest_X3_clear : GoodIn wsX5_nearest wsX3_clear := goodIn_r _ [23, 24, 65, 66, 67, 68] (by decide +kernel) (by decide +kernel)
set_option maxRecDepth 20000 in
theorem gX5_nearest_X3_clear : GoodIn wsX5_nearest (wsV RX5 109 RX3 yX3_clear wsX3_clear) := goodIn_app (goodIn_of _ (by decide +kernel)) ggX5_nearest_X3_clear
set_option maxRecDepth 20000 in
theorem ggX5_nearest_X5_distance : GoodIn wsX5_nearest wsX5_distance := goodIn_r _ [27, 28, 29, 10, 30, 31, 32, 33] (by decide +kernel) (by decide +kernel)
set_option maxRecDepth 20000 in
theorem gX5_nearest_X5_distance : GoodIn wsX5_nearest (va_wsS RX5 131 yX5_distance wsX5_distance) := goodIn_app (goodIn_of _ (by decide +kernel)) ggX5_nearest_X5_distance
set_option maxRecDepth 20000 in
theorem ggX5_nearest_X3_addByDistance : GoodIn wsX5_nearest wsX3_addByDistance := goodIn_r _ [37, 24, 38, 39, 40, 41, 42, 43, 44, 45, 46, 47, 48, 65, 66, 67, 68] (by decide +kernel) (by decide +kernel)
set_option maxRecDepth 20000 in
theorem gX5_nearest_X3_addByDistance : GoodIn wsX5_nearest (wsV RX5 135 RX3 yX3_addByDistance wsX3_addByDistance) := goodIn_app (goodIn_of _ (by decide +kernel)) ggX5_nearest_X3_addByDistance
theorem dX5_nearest_0 : decode cX5_nearest 0 = .ok (.aload_n 0, 1) := by decide +kernel
theorem dX5_nearest_1 : decode cX5_nearest 1 = .ok (.getfield 65, 3) := by decide +kernel
theorem dX5_nearest_4 : decode cX5_nearest 4 = .ok (.ifCond .ne 6, 3) := by decide +kernel
theorem dX5_nearest_7 : decode cX5_nearest 7 = .ok (.bipush (-2), 2) := by decide +kernel
theorem dX5_nearest_9 : decode cX5_nearest 9 = .ok (.ireturn, 1) := by decide +kernel
theorem dX5_nearest_10 : decode cX5_nearest 10 = .ok (.aload_n 0, 1) := by decide +kernel
theorem dX5_nearest_11 : decode cX5_nearest 11 = .ok (.iload_n 1, 1) := by decide +kernel
theorem dX5_nearest_12 : decode cX5_nearest 12 = .ok (.invokevirtual 105, 3) := by decide +kernel
theorem dX5_nearest_15 : decode cX5_nearest 15 = .ok (.astore 5, 2) := by decide +kernel
theorem dX5_nearest_17 : decode cX5_nearest 17 = .ok (.aload 5, 2) := by decide +kernel
theorem dX5_nearest_19 : decode cX5_nearest 19 = .ok (.ifnull 31, 3) := by decide +kernel
theorem dX5_nearest_22 : decode cX5_nearest 22 = .ok (.iload_n 2, 1) := by decide +kernel
theorem dX5_nearest_23 : decode cX5_nearest 23 = .ok (.invokestatic 127, 3) := by decide +kernel
theorem dX5_nearest_26 : decode cX5_nearest 26 = .ok (.ifCond .eq 24, 3) := by decide +kernel
theorem dX5_nearest_29 : decode cX5_nearest 29 = .ok (.iload_n 3, 1) := by decide +kernel
theorem dX5_nearest_30 : decode cX5_nearest 30 = .ok (.invokestatic 127, 3) := by decide +kernel
theorem dX5_nearest_33 : decode cX5_nearest 33 = .ok (.ifCond .eq 17, 3) := by decide +kernel
theorem dX5_nearest_36 : decode cX5_nearest 36 = .ok (.iload 4, 2) := by decide +kernel
theorem dX5_nearest_38 : decode cX5_nearest 38 = .ok (.iconst 1, 1) := by decide +kernel
theorem dX5_nearest_39 : decode cX5_nearest 39 = .ok (.if_icmp .lt 11, 3) := by decide +kernel
theorem dX5_nearest_42 : decode cX5_nearest 42 = .ok (.iload 4, 2) := by decide +kernel
theorem dX5_nearest_44 : decode cX5_nearest 44 = .ok (.sipush 150, 3) := by decide +kernel
theorem dX5_nearest_47 : decode cX5_nearest 47 = .ok (.if_icmp .le 5, 3) := by decide +kernel
theorem dX5_nearest_50 : decode cX5_nearest 50 = .ok (.iconst (-1), 1) := by decide +kernel
theorem dX5_nearest_51 : decode cX5_nearest 51 = .ok (.ireturn, 1) := by decide +kernel
theorem dX5_nearest_52 : decode cX5_nearest 52 = .ok (.aload_n 0, 1) := by decide +kernel
theorem dX5_nearest_53 : decode cX5_nearest 53 = .ok (.getfield 61, 3) := by decide +kernel
theorem dX5_nearest_56 : decode cX5_nearest 56 = .ok (.invokevirtual 109, 3) := by decide +kernel
theorem dX5_nearest_59 : decode cX5_nearest 59 = .ok (.iconst 0, 1) := by decide +kernel
theorem dX5_nearest_60 : decode cX5_nearest 60 = .ok (.istore 6, 2) := by decide +kernel
theorem dX5_nearest_62 : decode cX5_nearest 62 = .ok (.iload 6, 2) := by decide +kernel
theorem dX5_nearest_64 : decode cX5_nearest 64 = .ok (.aload 5, 2) := by decide +kernel
theorem dX5_nearest_66 : decode cX5_nearest 66 = .ok (.getfield 112, 3) := by decide +kernel
theorem dX5_nearest_69 : decode cX5_nearest 69 = .ok (.if_icmp .ge 45, 3) := by decide +kernel
theorem dX5_nearest_72 : decode cX5_nearest 72 = .ok (.aload 5, 2) := by decide +kernel
theorem dX5_nearest_74 : decode cX5_nearest 74 = .ok (.getfield 115, 3) := by decide +kernel
theorem dX5_nearest_77 : decode cX5_nearest 77 = .ok (.iload 6, 2) := by decide +kernel
theorem dX5_nearest_79 : decode cX5_nearest 79 = .ok (.iaload, 1) := by decide +kernel
theorem dX5_nearest_80 : decode cX5_nearest 80 = .ok (.istore 7, 2) := by decide +kernel
theorem dX5_nearest_82 : decode cX5_nearest 82 = .ok (.aload_n 0, 1) := by decide +kernel
theorem dX5_nearest_83 : decode cX5_nearest 83 = .ok (.getfield 61, 3) := by decide +kernel
theorem dX5_nearest_86 : decode cX5_nearest 86 = .ok (.iload 7, 2) := by decide +kernel
theorem dX5_nearest_88 : decode cX5_nearest 88 = .ok (.aload 5, 2) := by decide +kernel
theorem dX5_nearest_90 : decode cX5_nearest 90 = .ok (.getfield 123, 3) := by decide +kernel
theorem dX5_nearest_93 : decode cX5_nearest 93 = .ok (.iload 6, 2) := by decide +kernel
theorem dX5_nearest_95 : decode cX5_nearest 95 = .ok (.iaload, 1) := by decide +kernel
theorem dX5_nearest_96 : decode cX5_nearest 96 = .ok (.iload 7, 2) := by decide +kernel
theorem dX5_nearest_98 : decode cX5_nearest 98 = .ok (.iload_n 2, 1) := by decide +kernel
theorem dX5_nearest_99 : decode cX5_nearest 99 = .ok (.iload_n 3, 1) := by decide +kernel
theorem dX5_nearest_100 : decode cX5_nearest 100 = .ok (.invokestatic 131, 3) := by decide +kernel
theorem dX5_nearest_103 : decode cX5_nearest 103 = .ok (.iload 4, 2) := by decide +kernel
theorem dX5_nearest_105 : decode cX5_nearest 105 = .ok (.invokevirtual 135, 3) := by decide +kernel
theorem dX5_nearest_108 : decode cX5_nearest 108 = .ok (.iinc 6 1, 3) := by decide +kernel
theorem dX5_nearest_111 : decode cX5_nearest 111 = .ok (.goto (-49), 3) := by decide +kernel
theorem dX5_nearest_114 : decode cX5_nearest 114 = .ok (.aload_n 0, 1) := by decide +kernel
theorem dX5_nearest_115 : decode cX5_nearest 115 = .ok (.getfield 61, 3) := by decide +kernel
theorem dX5_nearest_118 : decode cX5_nearest 118 = .ok (.getfield 139, 3) := by decide +kernel
theorem dX5_nearest_121 : decode cX5_nearest 121 = .ok (.ireturn, 1) := by decide +kernel
set_option maxRecDepth 20000 in
theorem ggX5_differs_X3_clear : GoodIn wsX5_differs wsX3_clear := goodIn_r _ [17, 18, 53, 54, 55, 56] (by decide +kernel) (by decide +kernel)
set_option maxRecDepth 20000 in
theorem gX5_differs_X3_clear : GoodIn wsX5_differs (wsV RX5 109 RX3 yX3_clear wsX3_clear) := goodIn_app (goodIn_of _ (by decide +kernel)) ggX5_differs_X3_clear
set_option maxRecDepth 20000 in
theorem ggX5_differs_X2_keyAt : GoodIn wsX5_differs wsX2_keyAt := goodIn_r _ [23, 24, 25, 26, 49, 50, 51, 52] (by decide +kernel) (by decide +kernel)
set_option maxRecDepth 20000 in
theorem gX5_differs_X2_keyAt : GoodIn wsX5_differs (wsV RX5 143 RX2 yX2_keyAt wsX2_keyAt) := goodIn_app (goodIn_of _ (by decide +kernel)) ggX5_differs_X2_keyAt
set_option maxRecDepth 20000 in
theorem ggX5_differs_X3_add : GoodIn wsX5_differs wsX3_add := goodIn_r _ [30, 18, 31, 32, 53, 54, 55, 56] (by decide +kernel) (by decide +kernel)
set_option maxRecDepth 20000 in
theorem gX5_differs_X3_add : GoodIn wsX5_differs (wsV RX5 126 RX3 yX3_add wsX3_add) := goodIn_app (goodIn_of _ (by decide +kernel)) ggX5_differs_X3_add
theorem dX5_differs_0 : decode cX5_differs 0 = .ok (.aload_n 0, 1) := by decide +kernel
theorem dX5_differs_1 : decode cX5_differs 1 = .ok (.getfield 65, 3) := by decide +kernel
theorem dX5_differs_4 : decode cX5_differs 4 = .ok (.ifCond .ne 6, 3) := by decide +kernel
theorem dX5_differs_7 : decode cX5_differs 7 = .ok (.bipush (-2), 2) := by decide +kernel
theorem dX5_differs_9 : decode cX5_differs 9 = .ok (.ireturn, 1) := by decide +kernel
theorem dX5_differs_10 : decode cX5_differs 10 = .ok (.aload_n 0, 1) := by decide +kernel
theorem dX5_differs_11 : decode cX5_differs 11 = .ok (.getfield 31, 3) := by decide +kernel
theorem dX5_differs_14 : decode cX5_differs 14 = .ok (.getfield 140, 3) := by decide +kernel
theorem dX5_differs_17 : decode cX5_differs 17 = .ok (.astore_n 1, 1) := by decide +kernel
theorem dX5_differs_18 : decode cX5_differs 18 = .ok (.aload_n 0, 1) := by decide +kernel
theorem dX5_differs_19 : decode cX5_differs 19 = .ok (.getfield 61, 3) := by decide +kernel
theorem dX5_differs_22 : decode cX5_differs 22 = .ok (.invokevirtual 109, 3) := by decide +kernel
theorem dX5_differs_25 : decode cX5_differs 25 = .ok (.iconst 0, 1) := by decide +kernel
theorem dX5_differs_26 : decode cX5_differs 26 = .ok (.istore_n 2, 1) := by decide +kernel
theorem dX5_differs_27 : decode cX5_differs 27 = .ok (.iconst 0, 1) := by decide +kernel
theorem dX5_differs_28 : decode cX5_differs 28 = .ok (.istore_n 3, 1) := by decide +kernel
theorem dX5_differs_29 : decode cX5_differs 29 = .ok (.iconst 0, 1) := by decide +kernel
theorem dX5_differs_30 : decode cX5_differs 30 = .ok (.istore 4, 2) := by decide +kernel
theorem dX5_differs_32 : decode cX5_differs 32 = .ok (.aload_n 0, 1) := by decide +kernel
theorem dX5_differs_33 : decode cX5_differs 33 = .ok (.getfield 35, 3) := by decide +kernel
theorem dX5_differs_36 : decode cX5_differs 36 = .ok (.getfield 112, 3) := by decide +kernel
theorem dX5_differs_39 : decode cX5_differs 39 = .ok (.aload_n 1, 1) := by decide +kernel
theorem dX5_differs_40 : decode cX5_differs 40 = .ok (.getfield 112, 3) := by decide +kernel
theorem dX5_differs_43 : decode cX5_differs 43 = .ok (.iadd, 1) := by decide +kernel
theorem dX5_differs_44 : decode cX5_differs 44 = .ok (.istore 5, 2) := by decide +kernel
theorem dX5_differs_46 : decode cX5_differs 46 = .ok (.iconst 0, 1) := by decide +kernel
theorem dX5_differs_47 : decode cX5_differs 47 = .ok (.istore 6, 2) := by decide +kernel
theorem dX5_differs_49 : decode cX5_differs 49 = .ok (.iload 6, 2) := by decide +kernel
theorem dX5_differs_51 : decode cX5_differs 51 = .ok (.iload 5, 2) := by decide +kernel
theorem dX5_differs_53 : decode cX5_differs 53 = .ok (.if_icmp .ge 115, 3) := by decide +kernel
theorem dX5_differs_56 : decode cX5_differs 56 = .ok (.aload_n 0, 1) := by decide +kernel
theorem dX5_differs_57 : decode cX5_differs 57 = .ok (.getfield 35, 3) := by decide +kernel
theorem dX5_differs_60 : decode cX5_differs 60 = .ok (.iload_n 3, 1) := by decide +kernel
theorem dX5_differs_61 : decode cX5_differs 61 = .ok (.invokevirtual 143, 3) := by decide +kernel
theorem dX5_differs_64 : decode cX5_differs 64 = .ok (.aload_n 1, 1) := by decide +kernel
theorem dX5_differs_65 : decode cX5_differs 65 = .ok (.iload 4, 2) := by decide +kernel
theorem dX5_differs_67 : decode cX5_differs 67 = .ok (.invokevirtual 143, 3) := by decide +kernel
theorem dX5_differs_70 : decode cX5_differs 70 = .ok (.invokestatic 146, 3) := by decide +kernel
theorem dX5_differs_73 : decode cX5_differs 73 = .ok (.istore 7, 2) := by decide +kernel
theorem dX5_differs_75 : decode cX5_differs 75 = .ok (.iload 7, 2) := by decide +kernel
theorem dX5_differs_77 : decode cX5_differs 77 = .ok (.ldc 151, 2) := by decide +kernel
theorem dX5_differs_79 : decode cX5_differs 79 = .ok (.if_icmp .ne 6, 3) := by decide +kernel
theorem dX5_differs_82 : decode cX5_differs 82 = .ok (.goto 86, 3) := by decide +kernel
theorem dX5_differs_85 : decode cX5_differs 85 = .ok (.iconst (-1), 1) := by decide +kernel
theorem dX5_differs_86 : decode cX5_differs 86 = .ok (.istore 8, 2) := by decide +kernel
theorem dX5_differs_88 : decode cX5_differs 88 = .ok (.iconst (-1), 1) := by decide +kernel
theorem dX5_differs_89 : decode cX5_differs 89 = .ok (.istore 9, 2) := by decide +kernel
theorem dX5_differs_91 : decode cX5_differs 91 = .ok (.aload_n 0, 1) := by decide +kernel
theorem dX5_differs_92 : decode cX5_differs 92 = .ok (.getfield 35, 3) := by decide +kernel
theorem dX5_differs_95 : decode cX5_differs 95 = .ok (.iload_n 3, 1) := by decide +kernel
theorem dX5_differs_96 : decode cX5_differs 96 = .ok (.invokevirtual 143, 3) := by decide +kernel
theorem dX5_differs_99 : decode cX5_differs 99 = .ok (.iload 7, 2) := by decide +kernel
theorem dX5_differs_101 : decode cX5_differs 101 = .ok (.if_icmp .ne 17, 3) := by decide +kernel
theorem dX5_differs_104 : decode cX5_differs 104 = .ok (.aload_n 0, 1) := by decide +kernel
theorem dX5_differs_105 : decode cX5_differs 105 = .ok (.getfield 35, 3) := by decide +kernel
theorem dX5_differs_108 : decode cX5_differs 108 = .ok (.getfield 123, 3) := by decide +kernel
theorem dX5_differs_111 : decode cX5_differs 111 = .ok (.iload_n 3, 1) := by decide +kernel
theorem dX5_differs_112 : decode cX5_differs 112 = .ok (.iaload, 1) := by decide +kernel
theorem dX5_differs_113 : decode cX5_differs 113 = .ok (.istore 8, 2) := by decide +kernel
theorem dX5_differs_115 : decode cX5_differs 115 = .ok (.iinc 3 1, 3) := by decide +kernel
theorem dX5_differs_118 : decode cX5_differs 118 = .ok (.aload_n 1, 1) := by decide +kernel
theorem dX5_differs_119 : decode cX5_differs 119 = .ok (.iload 4, 2) := by decide +kernel
theorem dX5_differs_121 : decode cX5_differs 121 = .ok (.invokevirtual 143, 3) := by decide +kernel
theorem dX5_differs_124 : decode cX5_differs 124 = .ok (.iload 7, 2) := by decide +kernel
theorem dX5_differs_126 : decode cX5_differs 126 = .ok (.if_icmp .ne 15, 3) := by decide +kernel
theorem dX5_differs_129 : decode cX5_differs 129 = .ok (.aload_n 1, 1) := by decide +kernel
theorem dX5_differs_130 : decode cX5_differs 130 = .ok (.getfield 123, 3) := by decide +kernel
theorem dX5_differs_133 : decode cX5_differs 133 = .ok (.iload 4, 2) := by decide +kernel
theorem dX5_differs_135 : decode cX5_differs 135 = .ok (.iaload, 1) := by decide +kernel
theorem dX5_differs_136 : decode cX5_differs 136 = .ok (.istore 9, 2) := by decide +kernel
theorem dX5_differs_138 : decode cX5_differs 138 = .ok (.iinc 4 1, 3) := by decide +kernel
theorem dX5_differs_141 : decode cX5_differs 141 = .ok (.iload 8, 2) := by decide +kernel
theorem dX5_differs_143 : decode cX5_differs 143 = .ok (.iload 9, 2) := by decide +kernel
theorem dX5_differs_145 : decode cX5_differs 145 = .ok (.if_icmp .eq 17, 3) := by decide +kernel
theorem dX5_differs_148 : decode cX5_differs 148 = .ok (.aload_n 0, 1) := by decide +kernel
theorem dX5_differs_149 : decode cX5_differs 149 = .ok (.getfield 61, 3) := by decide +kernel
theorem dX5_differs_152 : decode cX5_differs 152 = .ok (.iload 7, 2) := by decide +kernel
theorem dX5_differs_154 : decode cX5_differs 154 = .ok (.iload 8, 2) := by decide +kernel
theorem dX5_differs_156 : decode cX5_differs 156 = .ok (.invokevirtual 126, 3) := by decide +kernel
theorem dX5_differs_159 : decode cX5_differs 159 = .ok (.iinc 2 1, 3) := by decide +kernel
theorem dX5_differs_162 : decode cX5_differs 162 = .ok (.iinc 6 1, 3) := by decide +kernel
theorem dX5_differs_165 : decode cX5_differs 165 = .ok (.goto (-116), 3) := by decide +kernel
theorem dX5_differs_168 : decode cX5_differs 168 = .ok (.iload_n 2, 1) := by decide +kernel
theorem dX5_differs_169 : decode cX5_differs 169 = .ok (.ireturn, 1) := by decide +kernel
set_option maxRecDepth 20000 in
theorem ggX5_result_X5_xOf : GoodIn wsX5_result wsX5_xOf := goodIn_r _ [8] (by decide +kernel) (by decide +kernel)
set_option maxRecDepth 20000 in
theorem gX5_result_X5_xOf : GoodIn wsX5_result (va_wsS RX5 153 yX5_xOf wsX5_xOf) := goodIn_app (goodIn_of _ (by decide +kernel)) ggX5_result_X5_xOf
set_option maxRecDepth 20000 in
theorem ggX5_result_X5_yOf : GoodIn wsX5_result wsX5_yOf := goodIn_r _ [11] (by decide +kernel) (by decide +kernel)
set_option maxRecDepth 20000 in
theorem gX5_result_X5_yOf : GoodIn wsX5_result (va_wsS RX5 156 yX5_yOf wsX5_yOf) := goodIn_app (goodIn_of _ (by decide +kernel)) ggX5_result_X5_yOf
theorem dX5_result_0 : decode cX5_result 0 = .ok (.iload_n 1, 1) := by decide +kernel
theorem dX5_result_1 : decode cX5_result 1 = .ok (.ifCond .lt 14, 3) := by decide +kernel
theorem dX5_result_4 : decode cX5_result 4 = .ok (.iload_n 1, 1) := by decide +kernel
theorem dX5_result_5 : decode cX5_result 5 = .ok (.aload_n 0, 1) := by decide +kernel
theorem dX5_result_6 : decode cX5_result 6 = .ok (.getfield 61, 3) := by decide +kernel
theorem dX5_result_9 : decode cX5_result 9 = .ok (.getfield 139, 3) := by decide +kernel
theorem dX5_result_12 : decode cX5_result 12 = .ok (.if_icmp .lt 5, 3) := by decide +kernel
theorem dX5_result_15 : decode cX5_result 15 = .ok (.iconst (-1), 1) := by decide +kernel
theorem dX5_result_16 : decode cX5_result 16 = .ok (.ireturn, 1) := by decide +kernel
theorem dX5_result_17 : decode cX5_result 17 = .ok (.iload_n 2, 1) := by decide +kernel
theorem dX5_result_18 : decode cX5_result 18 = .ok (.tableswitch 62 0 2 #[26, 39, 52], 26) := by decide +kernel
theorem dX5_result_44 : decode cX5_result 44 = .ok (.aload_n 0, 1) := by decide +kernel
theorem dX5_result_45 : decode cX5_result 45 = .ok (.getfield 61, 3) := by decide +kernel
theorem dX5_result_48 : decode cX5_result 48 = .ok (.getfield 152, 3) := by decide +kernel
theorem dX5_result_51 : decode cX5_result 51 = .ok (.iload_n 1, 1) := by decide +kernel
theorem dX5_result_52 : decode cX5_result 52 = .ok (.iaload, 1) := by decide +kernel
theorem dX5_result_53 : decode cX5_result 53 = .ok (.invokestatic 153, 3) := by decide +kernel
theorem dX5_result_56 : decode cX5_result 56 = .ok (.ireturn, 1) := by decide +kernel
theorem dX5_result_57 : decode cX5_result 57 = .ok (.aload_n 0, 1) := by decide +kernel
theorem dX5_result_58 : decode cX5_result 58 = .ok (.getfield 61, 3) := by decide +kernel
theorem dX5_result_61 : decode cX5_result 61 = .ok (.getfield 152, 3) := by decide +kernel
theorem dX5_result_64 : decode cX5_result 64 = .ok (.iload_n 1, 1) := by decide +kernel
theorem dX5_result_65 : decode cX5_result 65 = .ok (.iaload, 1) := by decide +kernel
theorem dX5_result_66 : decode cX5_result 66 = .ok (.invokestatic 156, 3) := by decide +kernel
theorem dX5_result_69 : decode cX5_result 69 = .ok (.ireturn, 1) := by decide +kernel
theorem dX5_result_70 : decode cX5_result 70 = .ok (.aload_n 0, 1) := by decide +kernel
theorem dX5_result_71 : decode cX5_result 71 = .ok (.getfield 61, 3) := by decide +kernel
theorem dX5_result_74 : decode cX5_result 74 = .ok (.getfield 159, 3) := by decide +kernel
theorem dX5_result_77 : decode cX5_result 77 = .ok (.iload_n 1, 1) := by decide +kernel
theorem dX5_result_78 : decode cX5_result 78 = .ok (.iaload, 1) := by decide +kernel
theorem dX5_result_79 : decode cX5_result 79 = .ok (.ireturn, 1) := by decide +kernel
theorem dX5_result_80 : decode cX5_result 80 = .ok (.iconst (-1), 1) := by decide +kernel
theorem dX5_result_81 : decode cX5_result 81 = .ok (.ireturn, 1) := by decide +kernel
theorem dX5_size_0 : decode cX5_size 0 = .ok (.aload_n 0, 1) := by decide +kernel
theorem dX5_size_1 : decode cX5_size 1 = .ok (.getfield 61, 3) := by decide +kernel
theorem dX5_size_4 : decode cX5_size 4 = .ok (.getfield 139, 3) := by decide +kernel
theorem dX5_size_7 : decode cX5_size 7 = .ok (.ireturn, 1) := by decide +kernel
set_option maxRecDepth 20000 in
theorem ggX5_sum_X5_pointsOf : GoodIn wsX5_sum wsX5_pointsOf := goodIn_r _ [10, 11, 12, 13, 23, 24, 25, 26, 27, 28, 29, 30, 31, 32, 33, 34, 39, 40, 41, 42] (by decide +kernel) (by decide +kernel)
set_option maxRecDepth 20000 in
theorem gX5_sum_X5_pointsOf : GoodIn wsX5_sum (wsV RX5 105 RX5 yX5_pointsOf wsX5_pointsOf) := goodIn_app (goodIn_of _ (by decide +kernel)) ggX5_sum_X5_pointsOf
set_option maxRecDepth 20000 in
theorem ggX5_sum_X5_isWithin : GoodIn wsX5_sum wsX5_isWithin := goodIn_r _ [16, 17, 18, 9, 19, 20, 21, 22] (by decide +kernel) (by decide +kernel)
set_option maxRecDepth 20000 in
theorem gX5_sum_X5_isWithin : GoodIn wsX5_sum (va_wsS RX5 119 yX5_isWithin wsX5_isWithin) := goodIn_app (goodIn_of _ (by decide +kernel)) ggX5_sum_X5_isWithin
theorem dX5_sum_0 : decode cX5_sum 0 = .ok (.aload_n 0, 1) := by decide +kernel
theorem dX5_sum_1 : decode cX5_sum 1 = .ok (.getfield 65, 3) := by decide +kernel
theorem dX5_sum_4 : decode cX5_sum 4 = .ok (.ifCond .ne 7, 3) := by decide +kernel
theorem dX5_sum_7 : decode cX5_sum 7 = .ok (.ldc2_w 160, 3) := by decide +kernel
theorem dX5_sum_10 : decode cX5_sum 10 = .ok (.lreturn, 1) := by decide +kernel
theorem dX5_sum_11 : decode cX5_sum 11 = .ok (.aload_n 0, 1) := by decide +kernel
theorem dX5_sum_12 : decode cX5_sum 12 = .ok (.iload_n 1, 1) := by decide +kernel
theorem dX5_sum_13 : decode cX5_sum 13 = .ok (.invokevirtual 105, 3) := by decide +kernel
theorem dX5_sum_16 : decode cX5_sum 16 = .ok (.astore 6, 2) := by decide +kernel
theorem dX5_sum_18 : decode cX5_sum 18 = .ok (.aload 6, 2) := by decide +kernel
theorem dX5_sum_20 : decode cX5_sum 20 = .ok (.ifnonnull 5, 3) := by decide +kernel
theorem dX5_sum_23 : decode cX5_sum 23 = .ok (.lconst 0, 1) := by decide +kernel
theorem dX5_sum_24 : decode cX5_sum 24 = .ok (.lreturn, 1) := by decide +kernel
theorem dX5_sum_25 : decode cX5_sum 25 = .ok (.lconst 0, 1) := by decide +kernel
theorem dX5_sum_26 : decode cX5_sum 26 = .ok (.lstore 7, 2) := by decide +kernel
theorem dX5_sum_28 : decode cX5_sum 28 = .ok (.iconst 0, 1) := by decide +kernel
theorem dX5_sum_29 : decode cX5_sum 29 = .ok (.istore 9, 2) := by decide +kernel
theorem dX5_sum_31 : decode cX5_sum 31 = .ok (.iload 9, 2) := by decide +kernel
theorem dX5_sum_33 : decode cX5_sum 33 = .ok (.aload 6, 2) := by decide +kernel
theorem dX5_sum_35 : decode cX5_sum 35 = .ok (.getfield 112, 3) := by decide +kernel
theorem dX5_sum_38 : decode cX5_sum 38 = .ok (.if_icmp .ge 43, 3) := by decide +kernel
theorem dX5_sum_41 : decode cX5_sum 41 = .ok (.aload 6, 2) := by decide +kernel
theorem dX5_sum_43 : decode cX5_sum 43 = .ok (.getfield 115, 3) := by decide +kernel
theorem dX5_sum_46 : decode cX5_sum 46 = .ok (.iload 9, 2) := by decide +kernel
theorem dX5_sum_48 : decode cX5_sum 48 = .ok (.iaload, 1) := by decide +kernel
theorem dX5_sum_49 : decode cX5_sum 49 = .ok (.iload_n 2, 1) := by decide +kernel
theorem dX5_sum_50 : decode cX5_sum 50 = .ok (.iload_n 3, 1) := by decide +kernel
theorem dX5_sum_51 : decode cX5_sum 51 = .ok (.iload 4, 2) := by decide +kernel
theorem dX5_sum_53 : decode cX5_sum 53 = .ok (.iload 5, 2) := by decide +kernel
theorem dX5_sum_55 : decode cX5_sum 55 = .ok (.invokestatic 119, 3) := by decide +kernel
theorem dX5_sum_58 : decode cX5_sum 58 = .ok (.ifCond .eq 17, 3) := by decide +kernel
theorem dX5_sum_61 : decode cX5_sum 61 = .ok (.lload 7, 2) := by decide +kernel
theorem dX5_sum_63 : decode cX5_sum 63 = .ok (.aload 6, 2) := by decide +kernel
theorem dX5_sum_65 : decode cX5_sum 65 = .ok (.getfield 123, 3) := by decide +kernel
theorem dX5_sum_68 : decode cX5_sum 68 = .ok (.iload 9, 2) := by decide +kernel
theorem dX5_sum_70 : decode cX5_sum 70 = .ok (.iaload, 1) := by decide +kernel
theorem dX5_sum_71 : decode cX5_sum 71 = .ok (.i2l, 1) := by decide +kernel
theorem dX5_sum_72 : decode cX5_sum 72 = .ok (.ladd, 1) := by decide +kernel
theorem dX5_sum_73 : decode cX5_sum 73 = .ok (.lstore 7, 2) := by decide +kernel
theorem dX5_sum_75 : decode cX5_sum 75 = .ok (.iinc 9 1, 3) := by decide +kernel
theorem dX5_sum_78 : decode cX5_sum 78 = .ok (.goto (-47), 3) := by decide +kernel
theorem dX5_sum_81 : decode cX5_sum 81 = .ok (.lload 7, 2) := by decide +kernel
theorem dX5_sum_83 : decode cX5_sum 83 = .ok (.lreturn, 1) := by decide +kernel
set_option maxRecDepth 20000 in
theorem ggX5_commit_X5_writeChanges : GoodIn wsX5_commit wsX5_writeChanges := goodIn_r _ [8, 9, 10, 2, 11, 3, 12, 13, 14, 15, 16, 17, 18, 19, 20, 21, 22, 23, 24, 25, 26, 27, 28, 7, 29, 1, 30, 31, 32, 33, 34, 35, 36, 37, 38, 39, 40, 41, 42, 43, 44, 45, 46, 47, 48, 49, 50, 51, 52, 53, 54, 55, 56, 57, 58, 59, 60, 61, 62, 63, 64, 65, 66, 67, 68, 69, 70, 71, 72, 73, 74, 75, 76, 77, 78, 79, 80, 81, 82, 83, 84, 85, 86, 87, 88, 89, 90, 91, 92, 93, 94, 95, 96, 97, 98, 99, 100, 101, 102, 103, 104, 105, 106, 107, 108, 109, 110, 111, 112, 113, 114, 115, 116, 117, 118, 119, 120] (by decide +kernel) (by decide +kernel)
set_option maxRecDepth 20000 in
theorem gX5_commit_X5_writeChanges : GoodIn wsX5_commit (wsV RX5 163 RX5 yX5_writeChanges wsX5_writeChanges) := goodIn_app (goodIn_of _ (by decide +kernel)) ggX5_commit_X5_writeChanges
set_option maxRecDepth 20000 in
theorem ggX5_commit_X0_clear : GoodIn wsX5_commit wsX0_clear := goodIn_r _ [43, 44, 106, 107, 108] (by decide +kernel) (by decide +kernel)
set_option maxRecDepth 20000 in
theorem gX5_commit_X0_clear : GoodIn wsX5_commit (wsV RX5 166 RX0 yX0_clear wsX0_clear) := goodIn_app (goodIn_of _ (by decide +kernel)) ggX5_commit_X0_clear
theorem dX5_commit_0 : decode cX5_commit 0 = .ok (.aload_n 0, 1) := by decide +kernel
theorem dX5_commit_1 : decode cX5_commit 1 = .ok (.getfield 65, 3) := by decide +kernel
theorem dX5_commit_4 : decode cX5_commit 4 = .ok (.ifCond .ne 6, 3) := by decide +kernel
theorem dX5_commit_7 : decode cX5_commit 7 = .ok (.bipush (-2), 2) := by decide +kernel
theorem dX5_commit_9 : decode cX5_commit 9 = .ok (.ireturn, 1) := by decide +kernel
theorem dX5_commit_10 : decode cX5_commit 10 = .ok (.aload_n 0, 1) := by decide +kernel
theorem dX5_commit_11 : decode cX5_commit 11 = .ok (.getfield 54, 3) := by decide +kernel
theorem dX5_commit_14 : decode cX5_commit 14 = .ok (.getfield 162, 3) := by decide +kernel
theorem dX5_commit_17 : decode cX5_commit 17 = .ok (.istore_n 1, 1) := by decide +kernel
theorem dX5_commit_18 : decode cX5_commit 18 = .ok (.iload_n 1, 1) := by decide +kernel
theorem dX5_commit_19 : decode cX5_commit 19 = .ok (.ifCond .le 13, 3) := by decide +kernel
theorem dX5_commit_22 : decode cX5_commit 22 = .ok (.aload_n 0, 1) := by decide +kernel
theorem dX5_commit_23 : decode cX5_commit 23 = .ok (.invokevirtual 163, 3) := by decide +kernel
theorem dX5_commit_26 : decode cX5_commit 26 = .ok (.ifCond .ne 6, 3) := by decide +kernel
theorem dX5_commit_29 : decode cX5_commit 29 = .ok (.bipush (-2), 2) := by decide +kernel
theorem dX5_commit_31 : decode cX5_commit 31 = .ok (.ireturn, 1) := by decide +kernel
theorem dX5_commit_32 : decode cX5_commit 32 = .ok (.aload_n 0, 1) := by decide +kernel
theorem dX5_commit_33 : decode cX5_commit 33 = .ok (.getfield 54, 3) := by decide +kernel
theorem dX5_commit_36 : decode cX5_commit 36 = .ok (.invokevirtual 166, 3) := by decide +kernel
theorem dX5_commit_39 : decode cX5_commit 39 = .ok (.iload_n 1, 1) := by decide +kernel
theorem dX5_commit_40 : decode cX5_commit 40 = .ok (.ireturn, 1) := by decide +kernel
set_option maxRecDepth 20000 in
theorem ggX5_abort_X2_copyFrom : GoodIn wsX5_abort wsX2_copyFrom := goodIn_r _ [11, 12, 13, 14, 15, 16, 17, 18, 19, 45, 46, 47, 48] (by decide +kernel) (by decide +kernel)
set_option maxRecDepth 20000 in
theorem gX5_abort_X2_copyFrom : GoodIn wsX5_abort (wsV RX5 167 RX2 yX2_copyFrom wsX2_copyFrom) := goodIn_app (goodIn_of _ (by decide +kernel)) ggX5_abort_X2_copyFrom
set_option maxRecDepth 20000 in
theorem ggX5_abort_X0_clear : GoodIn wsX5_abort wsX0_clear := goodIn_r _ [24, 25, 38, 39, 40] (by decide +kernel) (by decide +kernel)
set_option maxRecDepth 20000 in
theorem gX5_abort_X0_clear : GoodIn wsX5_abort (wsV RX5 166 RX0 yX0_clear wsX0_clear) := goodIn_app (goodIn_of _ (by decide +kernel)) ggX5_abort_X0_clear
theorem dX5_abort_0 : decode cX5_abort 0 = .ok (.aload_n 0, 1) := by decide +kernel
theorem dX5_abort_1 : decode cX5_abort 1 = .ok (.getfield 65, 3) := by decide +kernel
theorem dX5_abort_4 : decode cX5_abort 4 = .ok (.ifCond .ne 6, 3) := by decide +kernel
theorem dX5_abort_7 : decode cX5_abort 7 = .ok (.bipush (-2), 2) := by decide +kernel
theorem dX5_abort_9 : decode cX5_abort 9 = .ok (.ireturn, 1) := by decide +kernel
theorem dX5_abort_10 : decode cX5_abort 10 = .ok (.aload_n 0, 1) := by decide +kernel
theorem dX5_abort_11 : decode cX5_abort 11 = .ok (.getfield 54, 3) := by decide +kernel
theorem dX5_abort_14 : decode cX5_abort 14 = .ok (.getfield 162, 3) := by decide +kernel
theorem dX5_abort_17 : decode cX5_abort 17 = .ok (.istore_n 1, 1) := by decide +kernel
theorem dX5_abort_18 : decode cX5_abort 18 = .ok (.aload_n 0, 1) := by decide +kernel
theorem dX5_abort_19 : decode cX5_abort 19 = .ok (.getfield 35, 3) := by decide +kernel
theorem dX5_abort_22 : decode cX5_abort 22 = .ok (.aload_n 0, 1) := by decide +kernel
theorem dX5_abort_23 : decode cX5_abort 23 = .ok (.getfield 31, 3) := by decide +kernel
theorem dX5_abort_26 : decode cX5_abort 26 = .ok (.getfield 140, 3) := by decide +kernel
theorem dX5_abort_29 : decode cX5_abort 29 = .ok (.invokevirtual 167, 3) := by decide +kernel
theorem dX5_abort_32 : decode cX5_abort 32 = .ok (.aload_n 0, 1) := by decide +kernel
theorem dX5_abort_33 : decode cX5_abort 33 = .ok (.getfield 54, 3) := by decide +kernel
theorem dX5_abort_36 : decode cX5_abort 36 = .ok (.invokevirtual 166, 3) := by decide +kernel
theorem dX5_abort_39 : decode cX5_abort 39 = .ok (.iload_n 1, 1) := by decide +kernel
theorem dX5_abort_40 : decode cX5_abort 40 = .ok (.ireturn, 1) := by decide +kernel
set_option maxRecDepth 20000 in
theorem ggX5_format_X0_clear : GoodIn wsX5_format wsX0_clear := goodIn_r _ [8, 9, 116, 117, 118] (by decide +kernel) (by decide +kernel)
set_option maxRecDepth 20000 in
theorem gX5_format_X0_clear : GoodIn wsX5_format (wsV RX5 166 RX0 yX0_clear wsX0_clear) := goodIn_app (goodIn_of _ (by decide +kernel)) ggX5_format_X0_clear
set_option maxRecDepth 20000 in
theorem ggX5_format_X0_add : GoodIn wsX5_format wsX0_add := goodIn_r _ [13, 14, 9, 15, 16, 17, 18, 7, 19, 116, 117, 118] (by decide +kernel) (by decide +kernel)
set_option maxRecDepth 20000 in
theorem gX5_format_X0_add : GoodIn wsX5_format (wsV RX5 98 RX0 yX0_add wsX0_add) := goodIn_app (goodIn_of _ (by decide +kernel)) ggX5_format_X0_add
set_option maxRecDepth 20000 in
theorem ggX5_format_X5_writeChanges : GoodIn wsX5_format wsX5_writeChanges := goodIn_r _ [24, 25, 26, 2, 27, 28, 29, 30, 31, 32, 33, 34, 35, 36, 37, 38, 39, 40, 41, 42, 43, 44, 45, 23, 46, 1, 3, 47, 48, 49, 50, 51, 52, 53, 54, 4, 5, 6, 7, 8, 9, 55, 56, 57, 58, 59, 60, 61, 62, 63, 64, 65, 66, 67, 68, 69, 70, 71, 72, 73, 74, 75, 76, 77, 78, 79, 80, 81, 82, 83, 84, 85, 86, 87, 88, 89, 90, 91, 92, 93, 94, 95, 96, 97, 98, 99, 100, 101, 102, 103, 104, 105, 106, 107, 108, 109, 110, 111, 112, 113, 114, 115, 116, 117, 118, 119, 120, 121, 122, 123, 124, 125, 126, 127, 128, 129, 130] (by decide +kernel) (by decide +kernel)
set_option maxRecDepth 20000 in
theorem gX5_format_X5_writeChanges : GoodIn wsX5_format (wsV RX5 163 RX5 yX5_writeChanges wsX5_writeChanges) := goodIn_app (goodIn_of _ (by decide +kernel)) ggX5_format_X5_writeChanges
set_option maxRecDepth 20000 in
theorem ggX5_format_X2_clear : GoodIn wsX5_format wsX2_clear := goodIn_r _ [52, 53, 54, 123, 124, 125, 126] (by decide +kernel) (by decide +kernel)
set_option maxRecDepth 20000 in
theorem gX5_format_X2_clear : GoodIn wsX5_format (wsV RX5 170 RX2 yX2_clear wsX2_clear) := goodIn_app (goodIn_of _ (by decide +kernel)) ggX5_format_X2_clear
theorem dX5_format_0 : decode cX5_format 0 = .ok (.aload_n 0, 1) := by decide +kernel
theorem dX5_format_1 : decode cX5_format 1 = .ok (.getfield 65, 3) := by decide +kernel
theorem dX5_format_4 : decode cX5_format 4 = .ok (.ifCond .ne 6, 3) := by decide +kernel
theorem dX5_format_7 : decode cX5_format 7 = .ok (.bipush (-2), 2) := by decide +kernel
theorem dX5_format_9 : decode cX5_format 9 = .ok (.ireturn, 1) := by decide +kernel
theorem dX5_format_10 : decode cX5_format 10 = .ok (.aload_n 0, 1) := by decide +kernel
theorem dX5_format_11 : decode cX5_format 11 = .ok (.getfield 54, 3) := by decide +kernel
theorem dX5_format_14 : decode cX5_format 14 = .ok (.invokevirtual 166, 3) := by decide +kernel
theorem dX5_format_17 : decode cX5_format 17 = .ok (.aload_n 0, 1) := by decide +kernel
theorem dX5_format_18 : decode cX5_format 18 = .ok (.getfield 54, 3) := by decide +kernel
theorem dX5_format_21 : decode cX5_format 21 = .ok (.iconst (-1), 1) := by decide +kernel
theorem dX5_format_22 : decode cX5_format 22 = .ok (.iconst (-1), 1) := by decide +kernel
theorem dX5_format_23 : decode cX5_format 23 = .ok (.invokevirtual 98, 3) := by decide +kernel
theorem dX5_format_26 : decode cX5_format 26 = .ok (.aload_n 0, 1) := by decide +kernel
theorem dX5_format_27 : decode cX5_format 27 = .ok (.invokevirtual 163, 3) := by decide +kernel
theorem dX5_format_30 : decode cX5_format 30 = .ok (.ifCond .ne 6, 3) := by decide +kernel
theorem dX5_format_33 : decode cX5_format 33 = .ok (.bipush (-2), 2) := by decide +kernel
theorem dX5_format_35 : decode cX5_format 35 = .ok (.ireturn, 1) := by decide +kernel
theorem dX5_format_36 : decode cX5_format 36 = .ok (.aload_n 0, 1) := by decide +kernel
theorem dX5_format_37 : decode cX5_format 37 = .ok (.getfield 54, 3) := by decide +kernel
theorem dX5_format_40 : decode cX5_format 40 = .ok (.invokevirtual 166, 3) := by decide +kernel
theorem dX5_format_43 : decode cX5_format 43 = .ok (.aload_n 0, 1) := by decide +kernel
theorem dX5_format_44 : decode cX5_format 44 = .ok (.getfield 35, 3) := by decide +kernel
theorem dX5_format_47 : decode cX5_format 47 = .ok (.invokevirtual 170, 3) := by decide +kernel
theorem dX5_format_50 : decode cX5_format 50 = .ok (.iconst 0, 1) := by decide +kernel
theorem dX5_format_51 : decode cX5_format 51 = .ok (.ireturn, 1) := by decide +kernel
theorem dX5_arm_0 : decode cX5_arm 0 = .ok (.iload_n 1, 1) := by decide +kernel
theorem dX5_arm_1 : decode cX5_arm 1 = .ok (.iconst 3, 1) := by decide +kernel
theorem dX5_arm_2 : decode cX5_arm 2 = .ok (.if_icmp .ne 10, 3) := by decide +kernel
theorem dX5_arm_5 : decode cX5_arm 5 = .ok (.aload_n 0, 1) := by decide +kernel
theorem dX5_arm_6 : decode cX5_arm 6 = .ok (.iconst (-1), 1) := by decide +kernel
theorem dX5_arm_7 : decode cX5_arm 7 = .ok (.putfield 69, 3) := by decide +kernel
theorem dX5_arm_10 : decode cX5_arm 10 = .ok (.iconst 1, 1) := by decide +kernel
theorem dX5_arm_11 : decode cX5_arm 11 = .ok (.ireturn, 1) := by decide +kernel
theorem dX5_arm_12 : decode cX5_arm 12 = .ok (.iload_n 1, 1) := by decide +kernel
theorem dX5_arm_13 : decode cX5_arm 13 = .ok (.ifCond .lt 19, 3) := by decide +kernel
theorem dX5_arm_16 : decode cX5_arm 16 = .ok (.iload_n 1, 1) := by decide +kernel
theorem dX5_arm_17 : decode cX5_arm 17 = .ok (.iconst 2, 1) := by decide +kernel
theorem dX5_arm_18 : decode cX5_arm 18 = .ok (.if_icmp .gt 14, 3) := by decide +kernel
theorem dX5_arm_21 : decode cX5_arm 21 = .ok (.iload_n 2, 1) := by decide +kernel
theorem dX5_arm_22 : decode cX5_arm 22 = .ok (.ifCond .lt 10, 3) := by decide +kernel
theorem dX5_arm_25 : decode cX5_arm 25 = .ok (.iload_n 2, 1) := by decide +kernel
theorem dX5_arm_26 : decode cX5_arm 26 = .ok (.sipush 256, 3) := by decide +kernel
theorem dX5_arm_29 : decode cX5_arm 29 = .ok (.if_icmp .le 5, 3) := by decide +kernel
theorem dX5_arm_32 : decode cX5_arm 32 = .ok (.iconst 0, 1) := by decide +kernel
theorem dX5_arm_33 : decode cX5_arm 33 = .ok (.ireturn, 1) := by decide +kernel
theorem dX5_arm_34 : decode cX5_arm 34 = .ok (.aload_n 0, 1) := by decide +kernel
theorem dX5_arm_35 : decode cX5_arm 35 = .ok (.iload_n 1, 1) := by decide +kernel
theorem dX5_arm_36 : decode cX5_arm 36 = .ok (.putfield 69, 3) := by decide +kernel
theorem dX5_arm_39 : decode cX5_arm 39 = .ok (.aload_n 0, 1) := by decide +kernel
theorem dX5_arm_40 : decode cX5_arm 40 = .ok (.iload_n 2, 1) := by decide +kernel
theorem dX5_arm_41 : decode cX5_arm 41 = .ok (.putfield 72, 3) := by decide +kernel
theorem dX5_arm_44 : decode cX5_arm 44 = .ok (.iconst 1, 1) := by decide +kernel
theorem dX5_arm_45 : decode cX5_arm 45 = .ok (.ireturn, 1) := by decide +kernel
set_option maxRecDepth 20000 in
theorem ggX5_recover_X1_writeHome : GoodIn wsX5_recover wsX1_writeHome := goodIn_r _ [13, 14, 15, 16, 17, 18, 19, 12, 20, 21, 22, 23, 24, 25, 26, 27, 28, 29, 30, 31, 32, 33, 34, 35, 36, 37, 38, 39, 40, 41, 42, 43, 44, 45, 46, 47, 48, 49, 50, 51, 52, 53, 54, 55, 94, 95, 96, 97, 98, 99, 100, 101] (by decide +kernel) (by decide +kernel)
set_option maxRecDepth 20000 in
theorem gX5_recover_X1_writeHome : GoodIn wsX5_recover (wsV RX5 171 RX1 yX1_writeHome wsX1_writeHome) := goodIn_app (goodIn_of _ (by decide +kernel)) ggX5_recover_X1_writeHome
set_option maxRecDepth 20000 in
theorem ggX5_recover_X5_losePower : GoodIn wsX5_recover wsX5_losePower := goodIn_r _ [60, 8, 1, 4, 6, 7, 61, 23, 24, 25, 26, 27, 28, 62, 63, 64, 65, 66, 67, 68, 69, 70, 71, 72, 73, 82, 83, 84, 85, 86, 87, 88, 89, 90, 91, 92, 93, 98, 99, 100, 101, 102, 103, 104, 105, 106, 107, 108] (by decide +kernel) (by decide +kernel)
set_option maxRecDepth 20000 in
theorem gX5_recover_X5_losePower : GoodIn wsX5_recover (wsV RX5 174 RX5 yX5_losePower wsX5_losePower) := goodIn_app (goodIn_of _ (by decide +kernel)) ggX5_recover_X5_losePower
set_option maxRecDepth 20000 in
theorem ggX5_recover_X1_end : GoodIn wsX5_recover wsX1_end := goodIn_r _ [77, 14, 94, 95, 96, 97] (by decide +kernel) (by decide +kernel)
set_option maxRecDepth 20000 in
theorem gX5_recover_X1_end : GoodIn wsX5_recover (wsV RX5 177 RX1 yX1_end wsX1_end) := goodIn_app (goodIn_of _ (by decide +kernel)) ggX5_recover_X1_end
set_option maxRecDepth 20000 in
theorem ggX5_recover_X2_copyFrom : GoodIn wsX5_recover wsX2_copyFrom := goodIn_r _ [81, 33, 27, 34, 35, 36, 37, 38, 28, 98, 99, 100, 101] (by decide +kernel) (by decide +kernel)
set_option maxRecDepth 20000 in
theorem gX5_recover_X2_copyFrom : GoodIn wsX5_recover (wsV RX5 167 RX2 yX2_copyFrom wsX2_copyFrom) := goodIn_app (goodIn_of _ (by decide +kernel)) ggX5_recover_X2_copyFrom
set_option maxRecDepth 20000 in
theorem ggX5_recover_X0_clear : GoodIn wsX5_recover wsX0_clear := goodIn_r _ [66, 67, 102, 103, 104] (by decide +kernel) (by decide +kernel)
set_option maxRecDepth 20000 in
theorem gX5_recover_X0_clear : GoodIn wsX5_recover (wsV RX5 166 RX0 yX0_clear wsX0_clear) := goodIn_app (goodIn_of _ (by decide +kernel)) ggX5_recover_X0_clear
set_option maxRecDepth 20000 in
theorem ggX5_recover_X3_clear : GoodIn wsX5_recover wsX3_clear := goodIn_r _ [72, 73, 105, 106, 107, 108] (by decide +kernel) (by decide +kernel)
set_option maxRecDepth 20000 in
theorem gX5_recover_X3_clear : GoodIn wsX5_recover (wsV RX5 109 RX3 yX3_clear wsX3_clear) := goodIn_app (goodIn_of _ (by decide +kernel)) ggX5_recover_X3_clear
theorem dX5_recover_0 : decode cX5_recover 0 = .ok (.aload_n 0, 1) := by decide +kernel
theorem dX5_recover_1 : decode cX5_recover 1 = .ok (.getfield 69, 3) := by decide +kernel
theorem dX5_recover_4 : decode cX5_recover 4 = .ok (.iconst 2, 1) := by decide +kernel
theorem dX5_recover_5 : decode cX5_recover 5 = .ok (.if_icmp .ne 21, 3) := by decide +kernel
theorem dX5_recover_8 : decode cX5_recover 8 = .ok (.aload_n 0, 1) := by decide +kernel
theorem dX5_recover_9 : decode cX5_recover 9 = .ok (.getfield 31, 3) := by decide +kernel
theorem dX5_recover_12 : decode cX5_recover 12 = .ok (.aload_n 0, 1) := by decide +kernel
theorem dX5_recover_13 : decode cX5_recover 13 = .ok (.getfield 72, 3) := by decide +kernel
theorem dX5_recover_16 : decode cX5_recover 16 = .ok (.invokevirtual 171, 3) := by decide +kernel
theorem dX5_recover_19 : decode cX5_recover 19 = .ok (.aload_n 0, 1) := by decide +kernel
theorem dX5_recover_20 : decode cX5_recover 20 = .ok (.invokevirtual 174, 3) := by decide +kernel
theorem dX5_recover_23 : decode cX5_recover 23 = .ok (.bipush (-2), 2) := by decide +kernel
theorem dX5_recover_25 : decode cX5_recover 25 = .ok (.ireturn, 1) := by decide +kernel
theorem dX5_recover_26 : decode cX5_recover 26 = .ok (.aload_n 0, 1) := by decide +kernel
theorem dX5_recover_27 : decode cX5_recover 27 = .ok (.getfield 31, 3) := by decide +kernel
theorem dX5_recover_30 : decode cX5_recover 30 = .ok (.sipush 256, 3) := by decide +kernel
theorem dX5_recover_33 : decode cX5_recover 33 = .ok (.invokevirtual 171, 3) := by decide +kernel
theorem dX5_recover_36 : decode cX5_recover 36 = .ok (.aload_n 0, 1) := by decide +kernel
theorem dX5_recover_37 : decode cX5_recover 37 = .ok (.getfield 31, 3) := by decide +kernel
theorem dX5_recover_40 : decode cX5_recover 40 = .ok (.invokevirtual 177, 3) := by decide +kernel
theorem dX5_recover_43 : decode cX5_recover 43 = .ok (.aload_n 0, 1) := by decide +kernel
theorem dX5_recover_44 : decode cX5_recover 44 = .ok (.getfield 35, 3) := by decide +kernel
theorem dX5_recover_47 : decode cX5_recover 47 = .ok (.aload_n 0, 1) := by decide +kernel
theorem dX5_recover_48 : decode cX5_recover 48 = .ok (.getfield 31, 3) := by decide +kernel
theorem dX5_recover_51 : decode cX5_recover 51 = .ok (.getfield 140, 3) := by decide +kernel
theorem dX5_recover_54 : decode cX5_recover 54 = .ok (.invokevirtual 167, 3) := by decide +kernel
theorem dX5_recover_57 : decode cX5_recover 57 = .ok (.aload_n 0, 1) := by decide +kernel
theorem dX5_recover_58 : decode cX5_recover 58 = .ok (.getfield 54, 3) := by decide +kernel
theorem dX5_recover_61 : decode cX5_recover 61 = .ok (.invokevirtual 166, 3) := by decide +kernel
theorem dX5_recover_64 : decode cX5_recover 64 = .ok (.aload_n 0, 1) := by decide +kernel
theorem dX5_recover_65 : decode cX5_recover 65 = .ok (.getfield 61, 3) := by decide +kernel
theorem dX5_recover_68 : decode cX5_recover 68 = .ok (.invokevirtual 109, 3) := by decide +kernel
theorem dX5_recover_71 : decode cX5_recover 71 = .ok (.aload_n 0, 1) := by decide +kernel
theorem dX5_recover_72 : decode cX5_recover 72 = .ok (.iconst 1, 1) := by decide +kernel
theorem dX5_recover_73 : decode cX5_recover 73 = .ok (.putfield 65, 3) := by decide +kernel
theorem dX5_recover_76 : decode cX5_recover 76 = .ok (.iconst 0, 1) := by decide +kernel
theorem dX5_recover_77 : decode cX5_recover 77 = .ok (.ireturn, 1) := by decide +kernel
set_option maxRecDepth 20000 in
theorem ggX5_node_X5_treeOf : GoodIn wsX5_node wsX5_treeOf := goodIn_r _ [6, 7, 8, 49, 50, 51, 52, 53, 54, 55, 56, 57, 58, 59, 60] (by decide +kernel) (by decide +kernel)
set_option maxRecDepth 20000 in
theorem gX5_node_X5_treeOf : GoodIn wsX5_node (wsV RX5 180 RX5 yX5_treeOf wsX5_treeOf) := goodIn_app (goodIn_of _ (by decide +kernel)) ggX5_node_X5_treeOf
set_option maxRecDepth 20000 in
theorem ggX5_node_X4_upToDate : GoodIn wsX5_node wsX4_upToDate := goodIn_r _ [13, 14, 15, 16, 17, 18, 19, 20, 21, 22, 12, 23, 24, 25, 26, 27, 28, 29, 30, 31, 32, 33, 34, 35, 36, 37, 38, 5, 39, 40, 41, 42, 43, 44, 61, 62, 63, 64, 65, 66, 67, 68, 69, 70, 71, 72, 73] (by decide +kernel) (by decide +kernel)
set_option maxRecDepth 20000 in
theorem gX5_node_X4_upToDate : GoodIn wsX5_node (wsV RX5 184 RX4 yX4_upToDate wsX4_upToDate) := goodIn_app (goodIn_of _ (by decide +kernel)) ggX5_node_X4_upToDate
set_option maxRecDepth 20000 in
theorem ggX5_node_X4_factOf : GoodIn wsX5_node wsX4_factOf := goodIn_r _ [48, 19, 30, 61, 62, 63, 64, 65, 66, 67, 68, 69] (by decide +kernel) (by decide +kernel)
set_option maxRecDepth 20000 in
theorem gX5_node_X4_factOf : GoodIn wsX5_node (wsV RX5 188 RX4 yX4_factOf wsX4_factOf) := goodIn_app (goodIn_of _ (by decide +kernel)) ggX5_node_X4_factOf
theorem dX5_node_0 : decode cX5_node 0 = .ok (.aload_n 0, 1) := by decide +kernel
theorem dX5_node_1 : decode cX5_node 1 = .ok (.getfield 65, 3) := by decide +kernel
theorem dX5_node_4 : decode cX5_node 4 = .ok (.ifCond .ne 6, 3) := by decide +kernel
theorem dX5_node_7 : decode cX5_node 7 = .ok (.bipush (-2), 2) := by decide +kernel
theorem dX5_node_9 : decode cX5_node 9 = .ok (.ireturn, 1) := by decide +kernel
theorem dX5_node_10 : decode cX5_node 10 = .ok (.aload_n 0, 1) := by decide +kernel
theorem dX5_node_11 : decode cX5_node 11 = .ok (.iload_n 1, 1) := by decide +kernel
theorem dX5_node_12 : decode cX5_node 12 = .ok (.invokevirtual 180, 3) := by decide +kernel
theorem dX5_node_15 : decode cX5_node 15 = .ok (.astore 4, 2) := by decide +kernel
theorem dX5_node_17 : decode cX5_node 17 = .ok (.aload 4, 2) := by decide +kernel
theorem dX5_node_19 : decode cX5_node 19 = .ok (.ifnonnull 5, 3) := by decide +kernel
theorem dX5_node_22 : decode cX5_node 22 = .ok (.iconst (-1), 1) := by decide +kernel
theorem dX5_node_23 : decode cX5_node 23 = .ok (.ireturn, 1) := by decide +kernel
theorem dX5_node_24 : decode cX5_node 24 = .ok (.aload 4, 2) := by decide +kernel
theorem dX5_node_26 : decode cX5_node 26 = .ok (.invokevirtual 184, 3) := by decide +kernel
theorem dX5_node_29 : decode cX5_node 29 = .ok (.iload_n 2, 1) := by decide +kernel
theorem dX5_node_30 : decode cX5_node 30 = .ok (.iload_n 3, 1) := by decide +kernel
theorem dX5_node_31 : decode cX5_node 31 = .ok (.invokevirtual 188, 3) := by decide +kernel
theorem dX5_node_34 : decode cX5_node 34 = .ok (.ireturn, 1) := by decide +kernel
set_option maxRecDepth 20000 in
theorem ggX5_count_X4_upToDate : GoodIn wsX5_count wsX4_upToDate := goodIn_r _ [20, 21, 22, 23, 24, 25, 26, 27, 28, 29, 19, 30, 31, 32, 33, 34, 35, 36, 37, 38, 39, 40, 41, 42, 43, 44, 45, 46, 47, 48, 49, 50, 51, 52, 73, 74, 75, 76, 77, 78, 79, 80, 81, 65, 66, 67, 68] (by decide +kernel) (by decide +kernel)
set_option maxRecDepth 20000 in
theorem gX5_count_X4_upToDate : GoodIn wsX5_count (wsV RX5 184 RX4 yX4_upToDate wsX4_upToDate) := goodIn_app (goodIn_of _ (by decide +kernel)) ggX5_count_X4_upToDate
theorem dX5_count_0 : decode cX5_count 0 = .ok (.aload_n 0, 1) := by decide +kernel
theorem dX5_count_1 : decode cX5_count 1 = .ok (.getfield 65, 3) := by decide +kernel
theorem dX5_count_4 : decode cX5_count 4 = .ok (.ifCond .ne 6, 3) := by decide +kernel
theorem dX5_count_7 : decode cX5_count 7 = .ok (.bipush (-2), 2) := by decide +kernel
theorem dX5_count_9 : decode cX5_count 9 = .ok (.ireturn, 1) := by decide +kernel
theorem dX5_count_10 : decode cX5_count 10 = .ok (.iload_n 1, 1) := by decide +kernel
theorem dX5_count_11 : decode cX5_count 11 = .ok (.tableswitch 153 0 10 #[57, 65, 76, 87, 98, 114, 122, 133, 138, 143, 148], 57) := by decide +kernel
theorem dX5_count_68 : decode cX5_count 68 = .ok (.aload_n 0, 1) := by decide +kernel
theorem dX5_count_69 : decode cX5_count 69 = .ok (.getfield 35, 3) := by decide +kernel
theorem dX5_count_72 : decode cX5_count 72 = .ok (.getfield 112, 3) := by decide +kernel
theorem dX5_count_75 : decode cX5_count 75 = .ok (.ireturn, 1) := by decide +kernel
theorem dX5_count_76 : decode cX5_count 76 = .ok (.aload_n 0, 1) := by decide +kernel
theorem dX5_count_77 : decode cX5_count 77 = .ok (.getfield 31, 3) := by decide +kernel
theorem dX5_count_80 : decode cX5_count 80 = .ok (.getfield 140, 3) := by decide +kernel
theorem dX5_count_83 : decode cX5_count 83 = .ok (.getfield 112, 3) := by decide +kernel
theorem dX5_count_86 : decode cX5_count 86 = .ok (.ireturn, 1) := by decide +kernel
theorem dX5_count_87 : decode cX5_count 87 = .ok (.aload_n 0, 1) := by decide +kernel
theorem dX5_count_88 : decode cX5_count 88 = .ok (.getfield 44, 3) := by decide +kernel
theorem dX5_count_91 : decode cX5_count 91 = .ok (.invokevirtual 184, 3) := by decide +kernel
theorem dX5_count_94 : decode cX5_count 94 = .ok (.getfield 191, 3) := by decide +kernel
theorem dX5_count_97 : decode cX5_count 97 = .ok (.ireturn, 1) := by decide +kernel
theorem dX5_count_98 : decode cX5_count 98 = .ok (.aload_n 0, 1) := by decide +kernel
theorem dX5_count_99 : decode cX5_count 99 = .ok (.getfield 48, 3) := by decide +kernel
theorem dX5_count_102 : decode cX5_count 102 = .ok (.invokevirtual 184, 3) := by decide +kernel
theorem dX5_count_105 : decode cX5_count 105 = .ok (.getfield 191, 3) := by decide +kernel
theorem dX5_count_108 : decode cX5_count 108 = .ok (.ireturn, 1) := by decide +kernel
theorem dX5_count_109 : decode cX5_count 109 = .ok (.aload_n 0, 1) := by decide +kernel
theorem dX5_count_110 : decode cX5_count 110 = .ok (.getfield 16, 3) := by decide +kernel
theorem dX5_count_113 : decode cX5_count 113 = .ok (.aload_n 0, 1) := by decide +kernel
theorem dX5_count_114 : decode cX5_count 114 = .ok (.getfield 44, 3) := by decide +kernel
theorem dX5_count_117 : decode cX5_count 117 = .ok (.invokevirtual 184, 3) := by decide +kernel
theorem dX5_count_120 : decode cX5_count 120 = .ok (.getfield 191, 3) := by decide +kernel
theorem dX5_count_123 : decode cX5_count 123 = .ok (.isub, 1) := by decide +kernel
theorem dX5_count_124 : decode cX5_count 124 = .ok (.ireturn, 1) := by decide +kernel
theorem dX5_count_125 : decode cX5_count 125 = .ok (.aload_n 0, 1) := by decide +kernel
theorem dX5_count_126 : decode cX5_count 126 = .ok (.getfield 54, 3) := by decide +kernel
theorem dX5_count_129 : decode cX5_count 129 = .ok (.getfield 162, 3) := by decide +kernel
theorem dX5_count_132 : decode cX5_count 132 = .ok (.ireturn, 1) := by decide +kernel
theorem dX5_count_133 : decode cX5_count 133 = .ok (.aload_n 0, 1) := by decide +kernel
theorem dX5_count_134 : decode cX5_count 134 = .ok (.getfield 44, 3) := by decide +kernel
theorem dX5_count_137 : decode cX5_count 137 = .ok (.invokevirtual 184, 3) := by decide +kernel
theorem dX5_count_140 : decode cX5_count 140 = .ok (.getfield 194, 3) := by decide +kernel
theorem dX5_count_143 : decode cX5_count 143 = .ok (.ireturn, 1) := by decide +kernel
theorem dX5_count_144 : decode cX5_count 144 = .ok (.aload_n 0, 1) := by decide +kernel
theorem dX5_count_145 : decode cX5_count 145 = .ok (.getfield 69, 3) := by decide +kernel
theorem dX5_count_148 : decode cX5_count 148 = .ok (.ireturn, 1) := by decide +kernel
theorem dX5_count_149 : decode cX5_count 149 = .ok (.aload_n 0, 1) := by decide +kernel
theorem dX5_count_150 : decode cX5_count 150 = .ok (.getfield 16, 3) := by decide +kernel
theorem dX5_count_153 : decode cX5_count 153 = .ok (.ireturn, 1) := by decide +kernel
theorem dX5_count_154 : decode cX5_count 154 = .ok (.aload_n 0, 1) := by decide +kernel
theorem dX5_count_155 : decode cX5_count 155 = .ok (.getfield 20, 3) := by decide +kernel
theorem dX5_count_158 : decode cX5_count 158 = .ok (.ireturn, 1) := by decide +kernel
theorem dX5_count_159 : decode cX5_count 159 = .ok (.aload_n 0, 1) := by decide +kernel
theorem dX5_count_160 : decode cX5_count 160 = .ok (.getfield 23, 3) := by decide +kernel
theorem dX5_count_163 : decode cX5_count 163 = .ok (.ireturn, 1) := by decide +kernel
theorem dX5_count_164 : decode cX5_count 164 = .ok (.iconst (-1), 1) := by decide +kernel
theorem dX5_count_165 : decode cX5_count 165 = .ok (.ireturn, 1) := by decide +kernel
set_option maxRecDepth 20000 in
theorem ggX5_comesIn_X2_isFull : GoodIn wsX5_comesIn wsX2_isFull := goodIn_r _ [9, 10, 94, 95, 96, 97] (by decide +kernel) (by decide +kernel)
set_option maxRecDepth 20000 in
theorem gX5_comesIn_X2_isFull : GoodIn wsX5_comesIn (wsV RX5 197 RX2 yX2_isFull wsX2_isFull) := goodIn_app (goodIn_of _ (by decide +kernel)) ggX5_comesIn_X2_isFull
set_option maxRecDepth 20000 in
theorem ggX5_comesIn_X2_put : GoodIn wsX5_comesIn wsX2_put := goodIn_r _ [14, 15, 10, 16, 17, 18, 19, 20, 21, 22, 23, 24, 8, 25, 26, 27, 28, 29, 30, 31, 6, 7, 9, 94, 95, 96, 97] (by decide +kernel) (by decide +kernel)
set_option maxRecDepth 20000 in
theorem gX5_comesIn_X2_put : GoodIn wsX5_comesIn (wsV RX5 91 RX2 yX2_put wsX2_put) := goodIn_app (goodIn_of _ (by decide +kernel)) ggX5_comesIn_X2_put
set_option maxRecDepth 20000 in
theorem ggX5_comesIn_X4_upToDate : GoodIn wsX5_comesIn wsX4_upToDate := goodIn_r _ [36, 37, 38, 39, 40, 41, 42, 43, 44, 45, 35, 46, 47, 48, 49, 50, 51, 52, 53, 54, 55, 56, 57, 58, 59, 60, 61, 62, 63, 64, 65, 66, 67, 68, 85, 86, 87, 88, 89, 90, 91, 92, 93, 94, 95, 96, 97] (by decide +kernel) (by decide +kernel)
set_option maxRecDepth 20000 in
theorem gX5_comesIn_X4_upToDate : GoodIn wsX5_comesIn (wsV RX5 184 RX4 yX4_upToDate wsX4_upToDate) := goodIn_app (goodIn_of _ (by decide +kernel)) ggX5_comesIn_X4_upToDate
set_option maxRecDepth 20000 in
theorem ggX5_comesIn_X2_takeOut : GoodIn wsX5_comesIn wsX2_takeOut := goodIn_r _ [72, 15, 10, 16, 17, 18, 19, 20, 21, 22, 23, 24, 8, 25, 26, 27, 28, 29, 30, 94, 95, 96, 97] (by decide +kernel) (by decide +kernel)
set_option maxRecDepth 20000 in
theorem gX5_comesIn_X2_takeOut : GoodIn wsX5_comesIn (wsV RX5 101 RX2 yX2_takeOut wsX2_takeOut) := goodIn_app (goodIn_of _ (by decide +kernel)) ggX5_comesIn_X2_takeOut
theorem dX5_comesIn_0 : decode cX5_comesIn 0 = .ok (.aload_n 0, 1) := by decide +kernel
theorem dX5_comesIn_1 : decode cX5_comesIn 1 = .ok (.getfield 35, 3) := by decide +kernel
theorem dX5_comesIn_4 : decode cX5_comesIn 4 = .ok (.invokevirtual 197, 3) := by decide +kernel
theorem dX5_comesIn_7 : decode cX5_comesIn 7 = .ok (.ifCond .eq 5, 3) := by decide +kernel
theorem dX5_comesIn_10 : decode cX5_comesIn 10 = .ok (.iconst 0, 1) := by decide +kernel
theorem dX5_comesIn_11 : decode cX5_comesIn 11 = .ok (.ireturn, 1) := by decide +kernel
theorem dX5_comesIn_12 : decode cX5_comesIn 12 = .ok (.aload_n 0, 1) := by decide +kernel
theorem dX5_comesIn_13 : decode cX5_comesIn 13 = .ok (.getfield 35, 3) := by decide +kernel
theorem dX5_comesIn_16 : decode cX5_comesIn 16 = .ok (.iload_n 1, 1) := by decide +kernel
theorem dX5_comesIn_17 : decode cX5_comesIn 17 = .ok (.iload_n 2, 1) := by decide +kernel
theorem dX5_comesIn_18 : decode cX5_comesIn 18 = .ok (.invokevirtual 91, 3) := by decide +kernel
theorem dX5_comesIn_21 : decode cX5_comesIn 21 = .ok (.aload_n 0, 1) := by decide +kernel
theorem dX5_comesIn_22 : decode cX5_comesIn 22 = .ok (.getfield 44, 3) := by decide +kernel
theorem dX5_comesIn_25 : decode cX5_comesIn 25 = .ok (.invokevirtual 184, 3) := by decide +kernel
theorem dX5_comesIn_28 : decode cX5_comesIn 28 = .ok (.getfield 191, 3) := by decide +kernel
theorem dX5_comesIn_31 : decode cX5_comesIn 31 = .ok (.aload_n 0, 1) := by decide +kernel
theorem dX5_comesIn_32 : decode cX5_comesIn 32 = .ok (.getfield 16, 3) := by decide +kernel
theorem dX5_comesIn_35 : decode cX5_comesIn 35 = .ok (.if_icmp .le 13, 3) := by decide +kernel
theorem dX5_comesIn_38 : decode cX5_comesIn 38 = .ok (.aload_n 0, 1) := by decide +kernel
theorem dX5_comesIn_39 : decode cX5_comesIn 39 = .ok (.getfield 35, 3) := by decide +kernel
theorem dX5_comesIn_42 : decode cX5_comesIn 42 = .ok (.iload_n 1, 1) := by decide +kernel
theorem dX5_comesIn_43 : decode cX5_comesIn 43 = .ok (.invokevirtual 101, 3) := by decide +kernel
theorem dX5_comesIn_46 : decode cX5_comesIn 46 = .ok (.iconst 0, 1) := by decide +kernel
theorem dX5_comesIn_47 : decode cX5_comesIn 47 = .ok (.ireturn, 1) := by decide +kernel
theorem dX5_comesIn_48 : decode cX5_comesIn 48 = .ok (.iconst 1, 1) := by decide +kernel
theorem dX5_comesIn_49 : decode cX5_comesIn 49 = .ok (.ireturn, 1) := by decide +kernel
set_option maxRecDepth 20000 in
theorem ggX5_writeChanges_X1_writeLog : GoodIn wsX5_writeChanges wsX1_writeLog := goodIn_r _ [10, 11, 12, 13, 14, 15, 16, 17, 18, 19, 102, 103, 104, 105, 106, 107, 108] (by decide +kernel) (by decide +kernel)
set_option maxRecDepth 20000 in
theorem gX5_writeChanges_X1_writeLog : GoodIn wsX5_writeChanges (wsV RX5 198 RX1 yX1_writeLog wsX1_writeLog) := goodIn_app (goodIn_of _ (by decide +kernel)) ggX5_writeChanges_X1_writeLog
set_option maxRecDepth 20000 in
theorem ggX5_writeChanges_X5_losePower : GoodIn wsX5_writeChanges wsX5_losePower := goodIn_r _ [24, 25, 1, 26, 3, 27, 28, 29, 30, 31, 32, 33, 34, 35, 36, 37, 38, 39, 40, 41, 42, 43, 44, 45, 46, 90, 91, 92, 93, 94, 95, 96, 97, 98, 99, 100, 101, 109, 110, 111, 112, 102, 103, 104, 113, 114, 115, 116] (by decide +kernel) (by decide +kernel)
set_option maxRecDepth 20000 in
theorem gX5_writeChanges_X5_losePower : GoodIn wsX5_writeChanges (wsV RX5 174 RX5 yX5_losePower wsX5_losePower) := goodIn_app (goodIn_of _ (by decide +kernel)) ggX5_writeChanges_X5_losePower
set_option maxRecDepth 20000 in
theorem ggX5_writeChanges_X1_seal : GoodIn wsX5_writeChanges wsX1_seal := goodIn_r _ [50, 51, 105, 106, 107, 108] (by decide +kernel) (by decide +kernel)
set_option maxRecDepth 20000 in
theorem gX5_writeChanges_X1_seal : GoodIn wsX5_writeChanges (wsV RX5 202 RX1 yX1_seal wsX1_seal) := goodIn_app (goodIn_of _ (by decide +kernel)) ggX5_writeChanges_X1_seal
set_option maxRecDepth 20000 in
theorem ggX5_writeChanges_X1_writeHome : GoodIn wsX5_writeChanges wsX1_writeHome := goodIn_r _ [55, 51, 13, 19, 56, 57, 58, 9, 59, 60, 61, 29, 30, 31, 32, 33, 34, 62, 63, 64, 65, 66, 67, 15, 16, 17, 68, 69, 70, 71, 72, 73, 74, 75, 76, 77, 78, 79, 80, 81, 82, 83, 84, 85, 105, 106, 107, 108, 109, 110, 111, 112] (by decide +kernel) (by decide +kernel)
set_option maxRecDepth 20000 in
theorem gX5_writeChanges_X1_writeHome : GoodIn wsX5_writeChanges (wsV RX5 171 RX1 yX1_writeHome wsX1_writeHome) := goodIn_app (goodIn_of _ (by decide +kernel)) ggX5_writeChanges_X1_writeHome
set_option maxRecDepth 20000 in
theorem ggX5_writeChanges_X1_end : GoodIn wsX5_writeChanges wsX1_end := goodIn_r _ [89, 51, 105, 106, 107, 108] (by decide +kernel) (by decide +kernel)
set_option maxRecDepth 20000 in
theorem gX5_writeChanges_X1_end : GoodIn wsX5_writeChanges (wsV RX5 177 RX1 yX1_end wsX1_end) := goodIn_app (goodIn_of _ (by decide +kernel)) ggX5_writeChanges_X1_end
theorem dX5_writeChanges_0 : decode cX5_writeChanges 0 = .ok (.aload_n 0, 1) := by decide +kernel
theorem dX5_writeChanges_1 : decode cX5_writeChanges 1 = .ok (.getfield 69, 3) := by decide +kernel
theorem dX5_writeChanges_4 : decode cX5_writeChanges 4 = .ok (.ifCond .ne 24, 3) := by decide +kernel
theorem dX5_writeChanges_7 : decode cX5_writeChanges 7 = .ok (.aload_n 0, 1) := by decide +kernel
theorem dX5_writeChanges_8 : decode cX5_writeChanges 8 = .ok (.getfield 31, 3) := by decide +kernel
theorem dX5_writeChanges_11 : decode cX5_writeChanges 11 = .ok (.aload_n 0, 1) := by decide +kernel
theorem dX5_writeChanges_12 : decode cX5_writeChanges 12 = .ok (.getfield 54, 3) := by decide +kernel
theorem dX5_writeChanges_15 : decode cX5_writeChanges 15 = .ok (.aload_n 0, 1) := by decide +kernel
theorem dX5_writeChanges_16 : decode cX5_writeChanges 16 = .ok (.getfield 72, 3) := by decide +kernel
theorem dX5_writeChanges_19 : decode cX5_writeChanges 19 = .ok (.invokevirtual 198, 3) := by decide +kernel
theorem dX5_writeChanges_22 : decode cX5_writeChanges 22 = .ok (.aload_n 0, 1) := by decide +kernel
theorem dX5_writeChanges_23 : decode cX5_writeChanges 23 = .ok (.invokevirtual 174, 3) := by decide +kernel
theorem dX5_writeChanges_26 : decode cX5_writeChanges 26 = .ok (.iconst 0, 1) := by decide +kernel
theorem dX5_writeChanges_27 : decode cX5_writeChanges 27 = .ok (.ireturn, 1) := by decide +kernel
theorem dX5_writeChanges_28 : decode cX5_writeChanges 28 = .ok (.aload_n 0, 1) := by decide +kernel
theorem dX5_writeChanges_29 : decode cX5_writeChanges 29 = .ok (.getfield 31, 3) := by decide +kernel
theorem dX5_writeChanges_32 : decode cX5_writeChanges 32 = .ok (.aload_n 0, 1) := by decide +kernel
theorem dX5_writeChanges_33 : decode cX5_writeChanges 33 = .ok (.getfield 54, 3) := by decide +kernel
theorem dX5_writeChanges_36 : decode cX5_writeChanges 36 = .ok (.sipush 256, 3) := by decide +kernel
theorem dX5_writeChanges_39 : decode cX5_writeChanges 39 = .ok (.invokevirtual 198, 3) := by decide +kernel
theorem dX5_writeChanges_42 : decode cX5_writeChanges 42 = .ok (.aload_n 0, 1) := by decide +kernel
theorem dX5_writeChanges_43 : decode cX5_writeChanges 43 = .ok (.getfield 31, 3) := by decide +kernel
theorem dX5_writeChanges_46 : decode cX5_writeChanges 46 = .ok (.aload_n 0, 1) := by decide +kernel
theorem dX5_writeChanges_47 : decode cX5_writeChanges 47 = .ok (.getfield 54, 3) := by decide +kernel
theorem dX5_writeChanges_50 : decode cX5_writeChanges 50 = .ok (.getfield 162, 3) := by decide +kernel
theorem dX5_writeChanges_53 : decode cX5_writeChanges 53 = .ok (.invokevirtual 202, 3) := by decide +kernel
theorem dX5_writeChanges_56 : decode cX5_writeChanges 56 = .ok (.aload_n 0, 1) := by decide +kernel
theorem dX5_writeChanges_57 : decode cX5_writeChanges 57 = .ok (.getfield 69, 3) := by decide +kernel
theorem dX5_writeChanges_60 : decode cX5_writeChanges 60 = .ok (.iconst 1, 1) := by decide +kernel
theorem dX5_writeChanges_61 : decode cX5_writeChanges 61 = .ok (.if_icmp .ne 20, 3) := by decide +kernel
theorem dX5_writeChanges_64 : decode cX5_writeChanges 64 = .ok (.aload_n 0, 1) := by decide +kernel
theorem dX5_writeChanges_65 : decode cX5_writeChanges 65 = .ok (.getfield 31, 3) := by decide +kernel
theorem dX5_writeChanges_68 : decode cX5_writeChanges 68 = .ok (.aload_n 0, 1) := by decide +kernel
theorem dX5_writeChanges_69 : decode cX5_writeChanges 69 = .ok (.getfield 72, 3) := by decide +kernel
theorem dX5_writeChanges_72 : decode cX5_writeChanges 72 = .ok (.invokevirtual 171, 3) := by decide +kernel
theorem dX5_writeChanges_75 : decode cX5_writeChanges 75 = .ok (.aload_n 0, 1) := by decide +kernel
theorem dX5_writeChanges_76 : decode cX5_writeChanges 76 = .ok (.invokevirtual 174, 3) := by decide +kernel
theorem dX5_writeChanges_79 : decode cX5_writeChanges 79 = .ok (.iconst 0, 1) := by decide +kernel
theorem dX5_writeChanges_80 : decode cX5_writeChanges 80 = .ok (.ireturn, 1) := by decide +kernel
theorem dX5_writeChanges_81 : decode cX5_writeChanges 81 = .ok (.aload_n 0, 1) := by decide +kernel
theorem dX5_writeChanges_82 : decode cX5_writeChanges 82 = .ok (.getfield 31, 3) := by decide +kernel
theorem dX5_writeChanges_85 : decode cX5_writeChanges 85 = .ok (.sipush 256, 3) := by decide +kernel
theorem dX5_writeChanges_88 : decode cX5_writeChanges 88 = .ok (.invokevirtual 171, 3) := by decide +kernel
theorem dX5_writeChanges_91 : decode cX5_writeChanges 91 = .ok (.aload_n 0, 1) := by decide +kernel
theorem dX5_writeChanges_92 : decode cX5_writeChanges 92 = .ok (.getfield 31, 3) := by decide +kernel
theorem dX5_writeChanges_95 : decode cX5_writeChanges 95 = .ok (.invokevirtual 177, 3) := by decide +kernel
theorem dX5_writeChanges_98 : decode cX5_writeChanges 98 = .ok (.iconst 1, 1) := by decide +kernel
theorem dX5_writeChanges_99 : decode cX5_writeChanges 99 = .ok (.ireturn, 1) := by decide +kernel
set_option maxRecDepth 20000 in
theorem ggX5_losePower_X2_clear : GoodIn wsX5_losePower wsX2_clear := goodIn_r _ [10, 11, 12, 37, 38, 39, 40] (by decide +kernel) (by decide +kernel)
set_option maxRecDepth 20000 in
theorem gX5_losePower_X2_clear : GoodIn wsX5_losePower (wsV RX5 170 RX2 yX2_clear wsX2_clear) := goodIn_app (goodIn_of _ (by decide +kernel)) ggX5_losePower_X2_clear
set_option maxRecDepth 20000 in
theorem ggX5_losePower_X0_clear : GoodIn wsX5_losePower wsX0_clear := goodIn_r _ [17, 18, 41, 42, 43] (by decide +kernel) (by decide +kernel)
set_option maxRecDepth 20000 in
theorem gX5_losePower_X0_clear : GoodIn wsX5_losePower (wsV RX5 166 RX0 yX0_clear wsX0_clear) := goodIn_app (goodIn_of _ (by decide +kernel)) ggX5_losePower_X0_clear
set_option maxRecDepth 20000 in
theorem ggX5_losePower_X3_clear : GoodIn wsX5_losePower wsX3_clear := goodIn_r _ [23, 24, 44, 45, 46, 47] (by decide +kernel) (by decide +kernel)
set_option maxRecDepth 20000 in
theorem gX5_losePower_X3_clear : GoodIn wsX5_losePower (wsV RX5 109 RX3 yX3_clear wsX3_clear) := goodIn_app (goodIn_of _ (by decide +kernel)) ggX5_losePower_X3_clear
theorem dX5_losePower_0 : decode cX5_losePower 0 = .ok (.aload_n 0, 1) := by decide +kernel
theorem dX5_losePower_1 : decode cX5_losePower 1 = .ok (.iconst 0, 1) := by decide +kernel
theorem dX5_losePower_2 : decode cX5_losePower 2 = .ok (.putfield 65, 3) := by decide +kernel
theorem dX5_losePower_5 : decode cX5_losePower 5 = .ok (.aload_n 0, 1) := by decide +kernel
theorem dX5_losePower_6 : decode cX5_losePower 6 = .ok (.iconst (-1), 1) := by decide +kernel
theorem dX5_losePower_7 : decode cX5_losePower 7 = .ok (.putfield 69, 3) := by decide +kernel
theorem dX5_losePower_10 : decode cX5_losePower 10 = .ok (.aload_n 0, 1) := by decide +kernel
theorem dX5_losePower_11 : decode cX5_losePower 11 = .ok (.getfield 35, 3) := by decide +kernel
theorem dX5_losePower_14 : decode cX5_losePower 14 = .ok (.invokevirtual 170, 3) := by decide +kernel
theorem dX5_losePower_17 : decode cX5_losePower 17 = .ok (.aload_n 0, 1) := by decide +kernel
theorem dX5_losePower_18 : decode cX5_losePower 18 = .ok (.getfield 54, 3) := by decide +kernel
theorem dX5_losePower_21 : decode cX5_losePower 21 = .ok (.invokevirtual 166, 3) := by decide +kernel
theorem dX5_losePower_24 : decode cX5_losePower 24 = .ok (.aload_n 0, 1) := by decide +kernel
theorem dX5_losePower_25 : decode cX5_losePower 25 = .ok (.getfield 61, 3) := by decide +kernel
theorem dX5_losePower_28 : decode cX5_losePower 28 = .ok (.invokevirtual 109, 3) := by decide +kernel
theorem dX5_losePower_31 : decode cX5_losePower 31 = .ok (.return_, 1) := by decide +kernel
theorem dX5_pointsOf_0 : decode cX5_pointsOf 0 = .ok (.iload_n 1, 1) := by decide +kernel
theorem dX5_pointsOf_1 : decode cX5_pointsOf 1 = .ok (.ifCond .ne 8, 3) := by decide +kernel
theorem dX5_pointsOf_4 : decode cX5_pointsOf 4 = .ok (.aload_n 0, 1) := by decide +kernel
theorem dX5_pointsOf_5 : decode cX5_pointsOf 5 = .ok (.getfield 35, 3) := by decide +kernel
theorem dX5_pointsOf_8 : decode cX5_pointsOf 8 = .ok (.areturn, 1) := by decide +kernel
theorem dX5_pointsOf_9 : decode cX5_pointsOf 9 = .ok (.iload_n 1, 1) := by decide +kernel
theorem dX5_pointsOf_10 : decode cX5_pointsOf 10 = .ok (.iconst 1, 1) := by decide +kernel
theorem dX5_pointsOf_11 : decode cX5_pointsOf 11 = .ok (.if_icmp .ne 13, 3) := by decide +kernel
theorem dX5_pointsOf_14 : decode cX5_pointsOf 14 = .ok (.aload_n 0, 1) := by decide +kernel
theorem dX5_pointsOf_15 : decode cX5_pointsOf 15 = .ok (.getfield 31, 3) := by decide +kernel
theorem dX5_pointsOf_18 : decode cX5_pointsOf 18 = .ok (.getfield 140, 3) := by decide +kernel
theorem dX5_pointsOf_21 : decode cX5_pointsOf 21 = .ok (.goto 4, 3) := by decide +kernel
theorem dX5_pointsOf_24 : decode cX5_pointsOf 24 = .ok (.aconst_null, 1) := by decide +kernel
theorem dX5_pointsOf_25 : decode cX5_pointsOf 25 = .ok (.areturn, 1) := by decide +kernel
theorem dX5_treeOf_0 : decode cX5_treeOf 0 = .ok (.iload_n 1, 1) := by decide +kernel
theorem dX5_treeOf_1 : decode cX5_treeOf 1 = .ok (.ifCond .ne 8, 3) := by decide +kernel
theorem dX5_treeOf_4 : decode cX5_treeOf 4 = .ok (.aload_n 0, 1) := by decide +kernel
theorem dX5_treeOf_5 : decode cX5_treeOf 5 = .ok (.getfield 44, 3) := by decide +kernel
theorem dX5_treeOf_8 : decode cX5_treeOf 8 = .ok (.areturn, 1) := by decide +kernel
theorem dX5_treeOf_9 : decode cX5_treeOf 9 = .ok (.iload_n 1, 1) := by decide +kernel
theorem dX5_treeOf_10 : decode cX5_treeOf 10 = .ok (.iconst 1, 1) := by decide +kernel
theorem dX5_treeOf_11 : decode cX5_treeOf 11 = .ok (.if_icmp .ne 10, 3) := by decide +kernel
theorem dX5_treeOf_14 : decode cX5_treeOf 14 = .ok (.aload_n 0, 1) := by decide +kernel
theorem dX5_treeOf_15 : decode cX5_treeOf 15 = .ok (.getfield 48, 3) := by decide +kernel
theorem dX5_treeOf_18 : decode cX5_treeOf 18 = .ok (.goto 4, 3) := by decide +kernel
theorem dX5_treeOf_21 : decode cX5_treeOf 21 = .ok (.aconst_null, 1) := by decide +kernel
theorem dX5_treeOf_22 : decode cX5_treeOf 22 = .ok (.areturn, 1) := by decide +kernel
theorem dX5_isOnPlane_0 : decode cX5_isOnPlane 0 = .ok (.iload_n 1, 1) := by decide +kernel
theorem dX5_isOnPlane_1 : decode cX5_isOnPlane 1 = .ok (.ifCond .lt 27, 3) := by decide +kernel
theorem dX5_isOnPlane_4 : decode cX5_isOnPlane 4 = .ok (.iload_n 1, 1) := by decide +kernel
theorem dX5_isOnPlane_5 : decode cX5_isOnPlane 5 = .ok (.aload_n 0, 1) := by decide +kernel
theorem dX5_isOnPlane_6 : decode cX5_isOnPlane 6 = .ok (.getfield 23, 3) := by decide +kernel
theorem dX5_isOnPlane_9 : decode cX5_isOnPlane 9 = .ok (.if_icmp .ge 19, 3) := by decide +kernel
theorem dX5_isOnPlane_12 : decode cX5_isOnPlane 12 = .ok (.iload_n 2, 1) := by decide +kernel
theorem dX5_isOnPlane_13 : decode cX5_isOnPlane 13 = .ok (.ifCond .lt 15, 3) := by decide +kernel
theorem dX5_isOnPlane_16 : decode cX5_isOnPlane 16 = .ok (.iload_n 2, 1) := by decide +kernel
theorem dX5_isOnPlane_17 : decode cX5_isOnPlane 17 = .ok (.aload_n 0, 1) := by decide +kernel
theorem dX5_isOnPlane_18 : decode cX5_isOnPlane 18 = .ok (.getfield 23, 3) := by decide +kernel
theorem dX5_isOnPlane_21 : decode cX5_isOnPlane 21 = .ok (.if_icmp .ge 7, 3) := by decide +kernel
theorem dX5_isOnPlane_24 : decode cX5_isOnPlane 24 = .ok (.iconst 1, 1) := by decide +kernel
theorem dX5_isOnPlane_25 : decode cX5_isOnPlane 25 = .ok (.goto 4, 3) := by decide +kernel
theorem dX5_isOnPlane_28 : decode cX5_isOnPlane 28 = .ok (.iconst 0, 1) := by decide +kernel
theorem dX5_isOnPlane_29 : decode cX5_isOnPlane 29 = .ok (.ireturn, 1) := by decide +kernel
theorem dX5_isPlace_0 : decode cX5_isPlace 0 = .ok (.iload_n 0, 1) := by decide +kernel
theorem dX5_isPlace_1 : decode cX5_isPlace 1 = .ok (.ifCond .lt 13, 3) := by decide +kernel
theorem dX5_isPlace_4 : decode cX5_isPlace 4 = .ok (.iload_n 0, 1) := by decide +kernel
theorem dX5_isPlace_5 : decode cX5_isPlace 5 = .ok (.ldc 205, 2) := by decide +kernel
theorem dX5_isPlace_7 : decode cX5_isPlace 7 = .ok (.if_icmp .gt 7, 3) := by decide +kernel
theorem dX5_isPlace_10 : decode cX5_isPlace 10 = .ok (.iconst 1, 1) := by decide +kernel
theorem dX5_isPlace_11 : decode cX5_isPlace 11 = .ok (.goto 4, 3) := by decide +kernel
theorem dX5_isPlace_14 : decode cX5_isPlace 14 = .ok (.iconst 0, 1) := by decide +kernel
theorem dX5_isPlace_15 : decode cX5_isPlace 15 = .ok (.ireturn, 1) := by decide +kernel
theorem dX5_fromOneTo_0 : decode cX5_fromOneTo 0 = .ok (.iload_n 1, 1) := by decide +kernel
theorem dX5_fromOneTo_1 : decode cX5_fromOneTo 1 = .ok (.iconst 1, 1) := by decide +kernel
theorem dX5_fromOneTo_2 : decode cX5_fromOneTo 2 = .ok (.if_icmp .lt 12, 3) := by decide +kernel
theorem dX5_fromOneTo_5 : decode cX5_fromOneTo 5 = .ok (.iload_n 1, 1) := by decide +kernel
theorem dX5_fromOneTo_6 : decode cX5_fromOneTo 6 = .ok (.iload_n 0, 1) := by decide +kernel
theorem dX5_fromOneTo_7 : decode cX5_fromOneTo 7 = .ok (.if_icmp .gt 7, 3) := by decide +kernel
theorem dX5_fromOneTo_10 : decode cX5_fromOneTo 10 = .ok (.iload_n 1, 1) := by decide +kernel
theorem dX5_fromOneTo_11 : decode cX5_fromOneTo 11 = .ok (.goto 4, 3) := by decide +kernel
theorem dX5_fromOneTo_14 : decode cX5_fromOneTo 14 = .ok (.iload_n 2, 1) := by decide +kernel
theorem dX5_fromOneTo_15 : decode cX5_fromOneTo 15 = .ok (.ireturn, 1) := by decide +kernel
theorem dX5_keyOf_0 : decode cX5_keyOf 0 = .ok (.iload_n 0, 1) := by decide +kernel
theorem dX5_keyOf_1 : decode cX5_keyOf 1 = .ok (.bipush 15, 2) := by decide +kernel
theorem dX5_keyOf_3 : decode cX5_keyOf 3 = .ok (.ishl, 1) := by decide +kernel
theorem dX5_keyOf_4 : decode cX5_keyOf 4 = .ok (.iload_n 1, 1) := by decide +kernel
theorem dX5_keyOf_5 : decode cX5_keyOf 5 = .ok (.ior, 1) := by decide +kernel
theorem dX5_keyOf_6 : decode cX5_keyOf 6 = .ok (.ireturn, 1) := by decide +kernel
theorem dX5_xOf_0 : decode cX5_xOf 0 = .ok (.iload_n 0, 1) := by decide +kernel
theorem dX5_xOf_1 : decode cX5_xOf 1 = .ok (.bipush 15, 2) := by decide +kernel
theorem dX5_xOf_3 : decode cX5_xOf 3 = .ok (.ishr, 1) := by decide +kernel
theorem dX5_xOf_4 : decode cX5_xOf 4 = .ok (.ireturn, 1) := by decide +kernel
theorem dX5_yOf_0 : decode cX5_yOf 0 = .ok (.iload_n 0, 1) := by decide +kernel
theorem dX5_yOf_1 : decode cX5_yOf 1 = .ok (.sipush 32767, 3) := by decide +kernel
theorem dX5_yOf_4 : decode cX5_yOf 4 = .ok (.iand, 1) := by decide +kernel
theorem dX5_yOf_5 : decode cX5_yOf 5 = .ok (.ireturn, 1) := by decide +kernel
set_option maxRecDepth 20000 in
theorem ggX5_isWithin_X5_xOf : GoodIn wsX5_isWithin wsX5_xOf := goodIn_r _ [4] (by decide +kernel) (by decide +kernel)
set_option maxRecDepth 20000 in
theorem gX5_isWithin_X5_xOf : GoodIn wsX5_isWithin (va_wsS RX5 153 yX5_xOf wsX5_xOf) := goodIn_app (goodIn_of _ (by decide +kernel)) ggX5_isWithin_X5_xOf
set_option maxRecDepth 20000 in
theorem ggX5_isWithin_X5_yOf : GoodIn wsX5_isWithin wsX5_yOf := goodIn_r _ [7] (by decide +kernel) (by decide +kernel)
set_option maxRecDepth 20000 in
theorem gX5_isWithin_X5_yOf : GoodIn wsX5_isWithin (va_wsS RX5 156 yX5_yOf wsX5_yOf) := goodIn_app (goodIn_of _ (by decide +kernel)) ggX5_isWithin_X5_yOf
theorem dX5_isWithin_0 : decode cX5_isWithin 0 = .ok (.iload_n 0, 1) := by decide +kernel
theorem dX5_isWithin_1 : decode cX5_isWithin 1 = .ok (.invokestatic 153, 3) := by decide +kernel
theorem dX5_isWithin_4 : decode cX5_isWithin 4 = .ok (.istore 5, 2) := by decide +kernel
theorem dX5_isWithin_6 : decode cX5_isWithin 6 = .ok (.iload_n 0, 1) := by decide +kernel
theorem dX5_isWithin_7 : decode cX5_isWithin 7 = .ok (.invokestatic 156, 3) := by decide +kernel
theorem dX5_isWithin_10 : decode cX5_isWithin 10 = .ok (.istore 6, 2) := by decide +kernel
theorem dX5_isWithin_12 : decode cX5_isWithin 12 = .ok (.iload_n 1, 1) := by decide +kernel
theorem dX5_isWithin_13 : decode cX5_isWithin 13 = .ok (.iload 5, 2) := by decide +kernel
theorem dX5_isWithin_15 : decode cX5_isWithin 15 = .ok (.if_icmp .gt 26, 3) := by decide +kernel
theorem dX5_isWithin_18 : decode cX5_isWithin 18 = .ok (.iload 5, 2) := by decide +kernel
theorem dX5_isWithin_20 : decode cX5_isWithin 20 = .ok (.iload_n 3, 1) := by decide +kernel
theorem dX5_isWithin_21 : decode cX5_isWithin 21 = .ok (.if_icmp .gt 20, 3) := by decide +kernel
theorem dX5_isWithin_24 : decode cX5_isWithin 24 = .ok (.iload_n 2, 1) := by decide +kernel
theorem dX5_isWithin_25 : decode cX5_isWithin 25 = .ok (.iload 6, 2) := by decide +kernel
theorem dX5_isWithin_27 : decode cX5_isWithin 27 = .ok (.if_icmp .gt 14, 3) := by decide +kernel
theorem dX5_isWithin_30 : decode cX5_isWithin 30 = .ok (.iload 6, 2) := by decide +kernel
theorem dX5_isWithin_32 : decode cX5_isWithin 32 = .ok (.iload 4, 2) := by decide +kernel
theorem dX5_isWithin_34 : decode cX5_isWithin 34 = .ok (.if_icmp .gt 7, 3) := by decide +kernel
theorem dX5_isWithin_37 : decode cX5_isWithin 37 = .ok (.iconst 1, 1) := by decide +kernel
theorem dX5_isWithin_38 : decode cX5_isWithin 38 = .ok (.goto 4, 3) := by decide +kernel
theorem dX5_isWithin_41 : decode cX5_isWithin 41 = .ok (.iconst 0, 1) := by decide +kernel
theorem dX5_isWithin_42 : decode cX5_isWithin 42 = .ok (.ireturn, 1) := by decide +kernel
set_option maxRecDepth 20000 in
theorem ggX5_distance_X5_xOf : GoodIn wsX5_distance wsX5_xOf := goodIn_r _ [4] (by decide +kernel) (by decide +kernel)
set_option maxRecDepth 20000 in
theorem gX5_distance_X5_xOf : GoodIn wsX5_distance (va_wsS RX5 153 yX5_xOf wsX5_xOf) := goodIn_app (goodIn_of _ (by decide +kernel)) ggX5_distance_X5_xOf
set_option maxRecDepth 20000 in
theorem ggX5_distance_X5_yOf : GoodIn wsX5_distance wsX5_yOf := goodIn_r _ [7] (by decide +kernel) (by decide +kernel)
set_option maxRecDepth 20000 in
theorem gX5_distance_X5_yOf : GoodIn wsX5_distance (va_wsS RX5 156 yX5_yOf wsX5_yOf) := goodIn_app (goodIn_of _ (by decide +kernel)) ggX5_distance_X5_yOf
theorem dX5_distance_0 : decode cX5_distance 0 = .ok (.iload_n 0, 1) := by decide +kernel
theorem dX5_distance_1 : decode cX5_distance 1 = .ok (.invokestatic 153, 3) := by decide +kernel
theorem dX5_distance_4 : decode cX5_distance 4 = .ok (.iload_n 1, 1) := by decide +kernel
theorem dX5_distance_5 : decode cX5_distance 5 = .ok (.isub, 1) := by decide +kernel
theorem dX5_distance_6 : decode cX5_distance 6 = .ok (.i2l, 1) := by decide +kernel
theorem dX5_distance_7 : decode cX5_distance 7 = .ok (.lstore_n 3, 1) := by decide +kernel
theorem dX5_distance_8 : decode cX5_distance 8 = .ok (.iload_n 0, 1) := by decide +kernel
theorem dX5_distance_9 : decode cX5_distance 9 = .ok (.invokestatic 156, 3) := by decide +kernel
theorem dX5_distance_12 : decode cX5_distance 12 = .ok (.iload_n 2, 1) := by decide +kernel
theorem dX5_distance_13 : decode cX5_distance 13 = .ok (.isub, 1) := by decide +kernel
theorem dX5_distance_14 : decode cX5_distance 14 = .ok (.i2l, 1) := by decide +kernel
theorem dX5_distance_15 : decode cX5_distance 15 = .ok (.lstore 5, 2) := by decide +kernel
theorem dX5_distance_17 : decode cX5_distance 17 = .ok (.lload_n 3, 1) := by decide +kernel
theorem dX5_distance_18 : decode cX5_distance 18 = .ok (.lload_n 3, 1) := by decide +kernel
theorem dX5_distance_19 : decode cX5_distance 19 = .ok (.lmul, 1) := by decide +kernel
theorem dX5_distance_20 : decode cX5_distance 20 = .ok (.lload 5, 2) := by decide +kernel
theorem dX5_distance_22 : decode cX5_distance 22 = .ok (.lload 5, 2) := by decide +kernel
theorem dX5_distance_24 : decode cX5_distance 24 = .ok (.lmul, 1) := by decide +kernel
theorem dX5_distance_25 : decode cX5_distance 25 = .ok (.ladd, 1) := by decide +kernel
theorem dX5_distance_26 : decode cX5_distance 26 = .ok (.lreturn, 1) := by decide +kernel
theorem dJ9_max_7cf53_0 : decode cJ9_max_7cf53 0 = .ok (.iload_n 0, 1) := by decide +kernel
theorem dJ9_max_7cf53_1 : decode cJ9_max_7cf53 1 = .ok (.iload_n 1, 1) := by decide +kernel
theorem dJ9_max_7cf53_2 : decode cJ9_max_7cf53 2 = .ok (.if_icmp .lt 7, 3) := by decide +kernel
theorem dJ9_max_7cf53_5 : decode cJ9_max_7cf53 5 = .ok (.iload_n 0, 1) := by decide +kernel
theorem dJ9_max_7cf53_6 : decode cJ9_max_7cf53 6 = .ok (.goto 4, 3) := by decide +kernel
theorem dJ9_max_7cf53_9 : decode cJ9_max_7cf53 9 = .ok (.iload_n 1, 1) := by decide +kernel
theorem dJ9_max_7cf53_10 : decode cJ9_max_7cf53 10 = .ok (.ireturn, 1) := by decide +kernel
theorem dJ9_min_7cf53_0 : decode cJ9_min_7cf53 0 = .ok (.iload_n 0, 1) := by decide +kernel
theorem dJ9_min_7cf53_1 : decode cJ9_min_7cf53 1 = .ok (.iload_n 1, 1) := by decide +kernel
theorem dJ9_min_7cf53_2 : decode cJ9_min_7cf53 2 = .ok (.if_icmp .gt 7, 3) := by decide +kernel
theorem dJ9_min_7cf53_5 : decode cJ9_min_7cf53 5 = .ok (.iload_n 0, 1) := by decide +kernel
theorem dJ9_min_7cf53_6 : decode cJ9_min_7cf53 6 = .ok (.goto 4, 3) := by decide +kernel
theorem dJ9_min_7cf53_9 : decode cJ9_min_7cf53 9 = .ok (.iload_n 1, 1) := by decide +kernel
theorem dJ9_min_7cf53_10 : decode cJ9_min_7cf53 10 = .ok (.ireturn, 1) := by decide +kernel
abbrev vwCl : List vw_C := [(RX0, TX0, 3), (RX1, TX1, 4), (RX2, TX2, 4), (RX3, TX3, 4), (RX4, TX4, 9), (RX5, TX5, 12), (RX6, TX6, 25)]
/-! ===== END printed: names ===== -/
