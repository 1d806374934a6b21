/-! ===== BEGIN words of one list among another's, by their places ===== -/
theorem goodIn_r {big : List Cond} (ws : List Cond) (ps : List Nat) (hp : ws = ps.filterMap (fun i => big[i]?)) (h : ws.all goodWord = true) : GoodIn big ws := by
  intro w hw
  have h1 := List.all_eq_true.mp h w hw
  rw [hp] at hw
  obtain ⟨i, -, hi⟩ := List.mem_filterMap.mp hw
  have hm : w ∈ big := by first | exact List.mem_of_getElem? hi | exact List.getElem?_mem hi
  exact ⟨hm, good_of_word h1⟩
theorem goodIn_app {big a b : List Cond} (ha : GoodIn big a) (hb : GoodIn big b) : GoodIn big (a ++ b) := fun w h => (List.mem_append.mp h).elim (ha w) (hb w)
theorem goodIn_ca {big a b : List Cond} {c : Cond} (ha : GoodIn big (c :: a)) (hb : GoodIn big b) : GoodIn big (c :: (a ++ b)) := fun w h => (List.mem_cons.mp h).elim (fun e => ha w (List.mem_cons.mpr (Or.inl e))) (fun h => (List.mem_append.mp h).elim (fun h => ha w (List.mem_cons.mpr (Or.inr h))) (hb w))
theorem goodIn_sub {big ws : List Cond} (hm : ∀ w ∈ ws, w ∈ big) (h : ws.all goodWord = true) : GoodIn big ws := fun w hw => ⟨hm w hw, good_of_word (List.all_eq_true.mp h w hw)⟩
/-! ===== END ===== -/


/-! ===== BEGIN printed: names, fields, word lists, decode rows ===== -/
def RX0 : String := "QuadKeys$Covers"
def TX0 : u_T := fun k => match k with
  | 0 => ("QuadKeys$Covers", "shape", "LQuadKeys$KeySet;", true)
  | 1 => ("QuadKeys$Covers", "outer", "LQuadKeys$KeySet;", true)
  | 2 => ("QuadKeys$Covers", "inner", "LQuadKeys$KeySet;", true)
  | 3 => ("QuadKeys$Covers", "gaps", "LQuadKeys$Gaps;", true)
  | 4 => ("QuadKeys$Covers", "weigher", "LQuadKeys$Weigher;", true)
  | 5 => ("QuadKeys$Covers", "fresh", "Z", false)
  | _ => ("QuadKeys$Covers", "weighed", "Z", false)
def tyX0 : Nat → FieldType := fun k => match k with
  | 0 => .object "QuadKeys$KeySet"
  | 1 => .object "QuadKeys$KeySet"
  | 2 => .object "QuadKeys$KeySet"
  | 3 => .object "QuadKeys$Gaps"
  | 4 => .object "QuadKeys$Weigher"
  | 5 => .boolean
  | _ => .boolean
abbrev wsX00 : List Cond := u_ws RX0 TX0 7
theorem nmX0 : ∀ a, a < 7 → ∀ b, b < 7 → a ≠ b → (TX0 a).2.1 ≠ (TX0 b).2.1 := by decide +kernel
theorem tyX0_ok : ∀ k, k < 7 → parseFieldDescriptor (TX0 k).2.2.1 = some (tyX0 k) := by decide +kernel
abbrev cX0_init : ByteArray := prog_2_method_1_code
def yX0_init : MethodName := ⟨RX0, "<init>", "()V"⟩
abbrev cX0_forget : ByteArray := prog_2_method_2_code
def yX0_forget : MethodName := ⟨RX0, "forget", "()V"⟩
abbrev cX0_keysOf : ByteArray := prog_2_method_3_code
def yX0_keysOf : MethodName := ⟨RX0, "keysOf", "(I)LQuadKeys$KeySet;"⟩
abbrev cX0_refresh : ByteArray := prog_2_method_4_code
def yX0_refresh : MethodName := ⟨RX0, "refresh", "(LQuadKeys$Plan;)V"⟩
abbrev cX0_findShape : ByteArray := prog_2_method_5_code
def yX0_findShape : MethodName := ⟨RX0, "findShape", "(LQuadKeys$Plan;)V"⟩
abbrev cX0_findCovers : ByteArray := prog_2_method_6_code
def yX0_findCovers : MethodName := ⟨RX0, "findCovers", "(LQuadKeys$Plan;)V"⟩
abbrev cX0_tileOf : ByteArray := prog_2_method_7_code
def yX0_tileOf : MethodName := ⟨RX0, "tileOf", "(LQuadKeys$Plan;LQuadKeys$KeySet;II)I"⟩
abbrev cX0_widestAt : ByteArray := prog_2_method_8_code
def yX0_widestAt : MethodName := ⟨RX0, "widestAt", "(LQuadKeys$Plan;LQuadKeys$KeySet;I)I"⟩
abbrev cX0_leastCells : ByteArray := prog_2_method_9_code
def yX0_leastCells : MethodName := ⟨RX0, "leastCells", "(LQuadKeys$Plan;I)I"⟩
def RX1 : String := "QuadKeys$Curve"
def TX1 : u_T := fun k => match k with
  | _ => ("", "", "", false)
def tyX1 : Nat → FieldType := fun k => match k with
  | _ => .int
abbrev wsX10 : List Cond := u_ws RX1 TX1 0
theorem nmX1 : ∀ a, a < 0 → ∀ b, b < 0 → a ≠ b → (TX1 a).2.1 ≠ (TX1 b).2.1 := by decide +kernel
theorem tyX1_ok : ∀ k, k < 0 → parseFieldDescriptor (TX1 k).2.2.1 = some (tyX1 k) := by decide +kernel
abbrev cX1_keyOf : ByteArray := prog_3_method_2_code
def yX1_keyOf : MethodName := ⟨RX1, "keyOf", "(IIII)I"⟩
abbrev cX1_placeOf : ByteArray := prog_3_method_3_code
def yX1_placeOf : MethodName := ⟨RX1, "placeOf", "(III)I"⟩
abbrev cX1_half : ByteArray := prog_3_method_4_code
def yX1_half : MethodName := ⟨RX1, "half", "(II)I"⟩
abbrev cX1_turnedX : ByteArray := prog_3_method_5_code
def yX1_turnedX : MethodName := ⟨RX1, "turnedX", "(IIIII)I"⟩
def RX2 : String := "QuadKeys$Gaps"
def TX2 : u_T := fun k => match k with
  | 0 => ("QuadKeys$Gaps", "open", "[I", true)
  | _ => ("QuadKeys$Gaps", "openCount", "I", false)
def tyX2 : Nat → FieldType := fun k => match k with
  | 0 => .array .int
  | _ => .int
abbrev wsX20 : List Cond := u_ws RX2 TX2 2
theorem nmX2 : ∀ a, a < 2 → ∀ b, b < 2 → a ≠ b → (TX2 a).2.1 ≠ (TX2 b).2.1 := by decide +kernel
theorem tyX2_ok : ∀ k, k < 2 → parseFieldDescriptor (TX2 k).2.2.1 = some (tyX2 k) := by decide +kernel
abbrev cX2_init : ByteArray := prog_4_method_1_code
def yX2_init : MethodName := ⟨RX2, "<init>", "()V"⟩
abbrev cX2_filledFor : ByteArray := prog_4_method_2_code
def yX2_filledFor : MethodName := ⟨RX2, "filledFor", "(LQuadKeys$KeySet;I)I"⟩
abbrev cX2_filledBy : ByteArray := prog_4_method_3_code
def yX2_filledBy : MethodName := ⟨RX2, "filledBy", "(II)I"⟩
def RX3 : String := "QuadKeys$KeySet"
def TX3 : u_T := fun k => match k with
  | _ => ("QuadKeys$KeySet", "words", "[J", true)
def tyX3 : Nat → FieldType := fun k => match k with
  | _ => .array .long
abbrev wsX30 : List Cond := u_ws RX3 TX3 1
theorem nmX3 : ∀ a, a < 1 → ∀ b, b < 1 → a ≠ b → (TX3 a).2.1 ≠ (TX3 b).2.1 := by decide +kernel
theorem tyX3_ok : ∀ k, k < 1 → parseFieldDescriptor (TX3 k).2.2.1 = some (tyX3 k) := by decide +kernel
abbrev cX3_init : ByteArray := prog_5_method_1_code
def yX3_init : MethodName := ⟨RX3, "<init>", "()V"⟩
abbrev cX3_clear : ByteArray := prog_5_method_2_code
def yX3_clear : MethodName := ⟨RX3, "clear", "()V"⟩
abbrev cX3_add : ByteArray := prog_5_method_3_code
def yX3_add : MethodName := ⟨RX3, "add", "(I)V"⟩
abbrev cX3_addAll : ByteArray := prog_5_method_4_code
def yX3_addAll : MethodName := ⟨RX3, "addAll", "(II)V"⟩
abbrev cX3_has : ByteArray := prog_5_method_5_code
def yX3_has : MethodName := ⟨RX3, "has", "(I)Z"⟩
abbrev cX3_countIn : ByteArray := prog_5_method_6_code
def yX3_countIn : MethodName := ⟨RX3, "countIn", "(II)I"⟩
abbrev cX3_runEnd : ByteArray := prog_5_method_7_code
def yX3_runEnd : MethodName := ⟨RX3, "runEnd", "(II)I"⟩
def RX4 : String := "QuadKeys$Part"
def TX4 : u_T := fun k => match k with
  | 0 => ("QuadKeys$Part", "puts", "Z", false)
  | 1 => ("QuadKeys$Part", "round", "Z", false)
  | 2 => ("QuadKeys$Part", "x", "I", false)
  | 3 => ("QuadKeys$Part", "y", "I", false)
  | 4 => ("QuadKeys$Part", "v", "I", false)
  | _ => ("QuadKeys$Part", "w", "I", false)
def tyX4 : Nat → FieldType := fun k => match k with
  | 0 => .boolean
  | 1 => .boolean
  | 2 => .int
  | 3 => .int
  | 4 => .int
  | _ => .int
abbrev wsX40 : List Cond := u_ws RX4 TX4 6
theorem nmX4 : ∀ a, a < 6 → ∀ b, b < 6 → a ≠ b → (TX4 a).2.1 ≠ (TX4 b).2.1 := by decide +kernel
theorem tyX4_ok : ∀ k, k < 6 → parseFieldDescriptor (TX4 k).2.2.1 = some (tyX4 k) := by decide +kernel
abbrev cX4_init : ByteArray := prog_6_method_1_code
def yX4_init : MethodName := ⟨RX4, "<init>", "()V"⟩
abbrev cX4_becomeBox : ByteArray := prog_6_method_2_code
def yX4_becomeBox : MethodName := ⟨RX4, "becomeBox", "(ZIIII)V"⟩
abbrev cX4_becomeDisc : ByteArray := prog_6_method_3_code
def yX4_becomeDisc : MethodName := ⟨RX4, "becomeDisc", "(ZIII)V"⟩
abbrev cX4_putsOn : ByteArray := prog_6_method_4_code
def yX4_putsOn : MethodName := ⟨RX4, "putsOn", "()Z"⟩
abbrev cX4_has : ByteArray := prog_6_method_5_code
def yX4_has : MethodName := ⟨RX4, "has", "(II)Z"⟩
def RX5 : String := "QuadKeys$Plan"
def TX5 : u_T := fun k => match k with
  | 0 => ("QuadKeys$Plan", "points", "LQuadKeys$Points;", true)
  | 1 => ("QuadKeys$Plan", "parts", "[LQuadKeys$Part;", true)
  | 2 => ("QuadKeys$Plan", "partCount", "I", false)
  | 3 => ("QuadKeys$Plan", "depth", "I", false)
  | 4 => ("QuadKeys$Plan", "bend", "I", false)
  | 5 => ("QuadKeys$Plan", "lo", "I", false)
  | _ => ("QuadKeys$Plan", "hi", "I", false)
def tyX5 : Nat → FieldType := fun k => match k with
  | 0 => .object "QuadKeys$Points"
  | 1 => .array (.object "QuadKeys$Part")
  | 2 => .int
  | 3 => .int
  | 4 => .int
  | 5 => .int
  | _ => .int
abbrev wsX50 : List Cond := u_ws RX5 TX5 7
theorem nmX5 : ∀ a, a < 7 → ∀ b, b < 7 → a ≠ b → (TX5 a).2.1 ≠ (TX5 b).2.1 := by decide +kernel
theorem tyX5_ok : ∀ k, k < 7 → parseFieldDescriptor (TX5 k).2.2.1 = some (tyX5 k) := by decide +kernel
abbrev cX5_init : ByteArray := prog_7_method_1_code
def yX5_init : MethodName := ⟨RX5, "<init>", "()V"⟩
abbrev cX5_begin : ByteArray := prog_7_method_2_code
def yX5_begin : MethodName := ⟨RX5, "begin", "(II)V"⟩
abbrev cX5_side : ByteArray := prog_7_method_3_code
def yX5_side : MethodName := ⟨RX5, "side", "()I"⟩
abbrev cX5_tileSize : ByteArray := prog_7_method_4_code
def yX5_tileSize : MethodName := ⟨RX5, "tileSize", "(I)I"⟩
abbrev cX5_tileAround : ByteArray := prog_7_method_5_code
def yX5_tileAround : MethodName := ⟨RX5, "tileAround", "(II)I"⟩
abbrev cX5_hasCell : ByteArray := prog_7_method_6_code
def yX5_hasCell : MethodName := ⟨RX5, "hasCell", "(II)Z"⟩
abbrev cX5_hasTile : ByteArray := prog_7_method_7_code
def yX5_hasTile : MethodName := ⟨RX5, "hasTile", "(II)Z"⟩
abbrev cX5_addBox : ByteArray := prog_7_method_8_code
def yX5_addBox : MethodName := ⟨RX5, "addBox", "(ZIIII)Z"⟩
abbrev cX5_addDisc : ByteArray := prog_7_method_9_code
def yX5_addDisc : MethodName := ⟨RX5, "addDisc", "(ZIII)Z"⟩
abbrev cX5_removePart : ByteArray := prog_7_method_10_code
def yX5_removePart : MethodName := ⟨RX5, "removePart", "(I)Z"⟩
abbrev cX5_inShape : ByteArray := prog_7_method_11_code
def yX5_inShape : MethodName := ⟨RX5, "inShape", "(II)Z"⟩
abbrev cX5_pointsIn : ByteArray := prog_7_method_12_code
def yX5_pointsIn : MethodName := ⟨RX5, "pointsIn", "(II)I"⟩
abbrev cX5_pointsAmong : ByteArray := prog_7_method_13_code
def yX5_pointsAmong : MethodName := ⟨RX5, "pointsAmong", "(LQuadKeys$KeySet;)I"⟩
abbrev cX5_pointsInShape : ByteArray := prog_7_method_14_code
def yX5_pointsInShape : MethodName := ⟨RX5, "pointsInShape", "()I"⟩
abbrev cX5_pointInShape : ByteArray := prog_7_method_15_code
def yX5_pointInShape : MethodName := ⟨RX5, "pointInShape", "(I)I"⟩
abbrev cX5_pointKey : ByteArray := prog_7_method_16_code
def yX5_pointKey : MethodName := ⟨RX5, "pointKey", "(I)I"⟩
def RX6 : String := "QuadKeys$Points"
def TX6 : u_T := fun k => match k with
  | 0 => ("QuadKeys$Points", "xs", "[I", true)
  | 1 => ("QuadKeys$Points", "ys", "[I", true)
  | 2 => ("QuadKeys$Points", "order", "[I", true)
  | 3 => ("QuadKeys$Points", "keys", "[I", true)
  | _ => ("QuadKeys$Points", "size", "I", false)
def tyX6 : Nat → FieldType := fun k => match k with
  | 0 => .array .int
  | 1 => .array .int
  | 2 => .array .int
  | 3 => .array .int
  | _ => .int
abbrev wsX60 : List Cond := u_ws RX6 TX6 5
theorem nmX6 : ∀ a, a < 5 → ∀ b, b < 5 → a ≠ b → (TX6 a).2.1 ≠ (TX6 b).2.1 := by decide +kernel
theorem tyX6_ok : ∀ k, k < 5 → parseFieldDescriptor (TX6 k).2.2.1 = some (tyX6 k) := by decide +kernel
abbrev cX6_init : ByteArray := prog_8_method_1_code
def yX6_init : MethodName := ⟨RX6, "<init>", "()V"⟩
abbrev cX6_has : ByteArray := prog_8_method_2_code
def yX6_has : MethodName := ⟨RX6, "has", "(I)Z"⟩
abbrev cX6_add : ByteArray := prog_8_method_3_code
def yX6_add : MethodName := ⟨RX6, "add", "(II)Z"⟩
abbrev cX6_remove : ByteArray := prog_8_method_4_code
def yX6_remove : MethodName := ⟨RX6, "remove", "(I)Z"⟩
abbrev cX6_arrange : ByteArray := prog_8_method_5_code
def yX6_arrange : MethodName := ⟨RX6, "arrange", "(II)V"⟩
abbrev cX6_rankOf : ByteArray := prog_8_method_6_code
def yX6_rankOf : MethodName := ⟨RX6, "rankOf", "(I)I"⟩
abbrev cX6_nearestTo : ByteArray := prog_8_method_7_code
def yX6_nearestTo : MethodName := ⟨RX6, "nearestTo", "(II)I"⟩
def RX7 : String := "QuadKeys$Text"
def TX7 : u_T := fun k => match k with
  | 0 => ("QuadKeys$Text", "letters", "[C", true)
  | 1 => ("QuadKeys$Text", "numbers", "[I", true)
  | 2 => ("QuadKeys$Text", "causes", "[I", true)
  | 3 => ("QuadKeys$Text", "length", "I", false)
  | 4 => ("QuadKeys$Text", "causeCount", "I", false)
  | _ => ("QuadKeys$Text", "place", "I", false)
def tyX7 : Nat → FieldType := fun k => match k with
  | 0 => .array .char
  | 1 => .array .int
  | 2 => .array .int
  | 3 => .int
  | 4 => .int
  | _ => .int
abbrev wsX70 : List Cond := u_ws RX7 TX7 6
theorem nmX7 : ∀ a, a < 6 → ∀ b, b < 6 → a ≠ b → (TX7 a).2.1 ≠ (TX7 b).2.1 := by decide +kernel
theorem tyX7_ok : ∀ k, k < 6 → parseFieldDescriptor (TX7 k).2.2.1 = some (tyX7 k) := by decide +kernel
abbrev cX7_init : ByteArray := prog_9_method_1_code
def yX7_init : MethodName := ⟨RX7, "<init>", "()V"⟩
abbrev cX7_append : ByteArray := prog_9_method_2_code
def yX7_append : MethodName := ⟨RX7, "append", "(C)Z"⟩
abbrev cX7_clear : ByteArray := prog_9_method_3_code
def yX7_clear : MethodName := ⟨RX7, "clear", "()V"⟩
abbrev cX7_blameEmptiness : ByteArray := prog_9_method_4_code
def yX7_blameEmptiness : MethodName := ⟨RX7, "blameEmptiness", "()V"⟩
abbrev cX7_readInto : ByteArray := prog_9_method_5_code
def yX7_readInto : MethodName := ⟨RX7, "readInto", "(LQuadKeys$Plan;)I"⟩
abbrev cX7_blame : ByteArray := prog_9_method_6_code
def yX7_blame : MethodName := ⟨RX7, "blame", "(II)V"⟩
abbrev cX7_readItem : ByteArray := prog_9_method_7_code
def yX7_readItem : MethodName := ⟨RX7, "readItem", "(LQuadKeys$Plan;I)I"⟩
abbrev cX7_readKind : ByteArray := prog_9_method_8_code
def yX7_readKind : MethodName := ⟨RX7, "readKind", "()C"⟩
abbrev cX7_mayStand : ByteArray := prog_9_method_9_code
def yX7_mayStand : MethodName := ⟨RX7, "mayStand", "(LQuadKeys$Plan;CI)Z"⟩
abbrev cX7_readNumber : ByteArray := prog_9_method_10_code
def yX7_readNumber : MethodName := ⟨RX7, "readNumber", "(IC)I"⟩
abbrev cX7_isTold : ByteArray := prog_9_method_11_code
def yX7_isTold : MethodName := ⟨RX7, "isTold", "(LQuadKeys$Plan;CI)Z"⟩
abbrev cX7_put : ByteArray := prog_9_method_12_code
def yX7_put : MethodName := ⟨RX7, "put", "(LQuadKeys$Plan;CC)V"⟩
abbrev cX7_letterHere : ByteArray := prog_9_method_13_code
def yX7_letterHere : MethodName := ⟨RX7, "letterHere", "()C"⟩
abbrev cX7_isFigure : ByteArray := prog_9_method_14_code
def yX7_isFigure : MethodName := ⟨RX7, "isFigure", "(C)Z"⟩
def RX8 : String := "QuadKeys$Weigher"
def TX8 : u_T := fun k => match k with
  | _ => ("QuadKeys$Weigher", "rows", "[[I", true)
def tyX8 : Nat → FieldType := fun k => match k with
  | _ => .array (.array .int)
abbrev wsX80 : List Cond := u_ws RX8 TX8 1
theorem nmX8 : ∀ a, a < 1 → ∀ b, b < 1 → a ≠ b → (TX8 a).2.1 ≠ (TX8 b).2.1 := by decide +kernel
theorem tyX8_ok : ∀ k, k < 1 → parseFieldDescriptor (TX8 k).2.2.1 = some (tyX8 k) := by decide +kernel
abbrev cX8_init : ByteArray := prog_10_method_1_code
def yX8_init : MethodName := ⟨RX8, "<init>", "()V"⟩
abbrev cX8_weighWorld : ByteArray := prog_10_method_2_code
def yX8_weighWorld : MethodName := ⟨RX8, "weighWorld", "(LQuadKeys$Plan;LQuadKeys$KeySet;)V"⟩
abbrev cX8_leastOf : ByteArray := prog_10_method_3_code
def yX8_leastOf : MethodName := ⟨RX8, "leastOf", "(I)I"⟩
abbrev cX8_weighTile : ByteArray := prog_10_method_4_code
def yX8_weighTile : MethodName := ⟨RX8, "weighTile", "([[ILQuadKeys$Plan;LQuadKeys$KeySet;II)V"⟩
abbrev cX8_addRow : ByteArray := prog_10_method_5_code
def yX8_addRow : MethodName := ⟨RX8, "addRow", "([I[I)V"⟩
abbrev cX8_takeWhole : ByteArray := prog_10_method_6_code
def yX8_takeWhole : MethodName := ⟨RX8, "takeWhole", "([II)V"⟩
def RX9 : String := "QuadKeys"
def TX9 : u_T := fun k => match k with
  | 0 => ("QuadKeys", "text", "LQuadKeys$Text;", true)
  | 1 => ("QuadKeys", "covers", "LQuadKeys$Covers;", true)
  | 2 => ("QuadKeys", "plan", "LQuadKeys$Plan;", false)
  | _ => ("QuadKeys", "spare", "LQuadKeys$Plan;", false)
def tyX9 : Nat → FieldType := fun k => match k with
  | 0 => .object "QuadKeys$Text"
  | 1 => .object "QuadKeys$Covers"
  | 2 => .object "QuadKeys$Plan"
  | _ => .object "QuadKeys$Plan"
abbrev wsX90 : List Cond := u_ws RX9 TX9 4
theorem nmX9 : ∀ a, a < 4 → ∀ b, b < 4 → a ≠ b → (TX9 a).2.1 ≠ (TX9 b).2.1 := by decide +kernel
theorem tyX9_ok : ∀ k, k < 4 → parseFieldDescriptor (TX9 k).2.2.1 = some (tyX9 k) := by decide +kernel
abbrev cX9_init : ByteArray := prog_1_method_1_code
def yX9_init : MethodName := ⟨RX9, "<init>", "()V"⟩
abbrev cX9_write : ByteArray := prog_1_method_2_code
def yX9_write : MethodName := ⟨RX9, "write", "(I)I"⟩
abbrev cX9_wipe : ByteArray := prog_1_method_3_code
def yX9_wipe : MethodName := ⟨RX9, "wipe", "()I"⟩
abbrev cX9_fault : ByteArray := prog_1_method_4_code
def yX9_fault : MethodName := ⟨RX9, "fault", "()I"⟩
abbrev cX9_lay : ByteArray := prog_1_method_5_code
def yX9_lay : MethodName := ⟨RX9, "lay", "()I"⟩
abbrev cX9_cause : ByteArray := prog_1_method_6_code
def yX9_cause : MethodName := ⟨RX9, "cause", "(I)I"⟩
abbrev cX9_curve : ByteArray := prog_1_method_7_code
def yX9_curve : MethodName := ⟨RX9, "curve", "(I)I"⟩
abbrev cX9_levels : ByteArray := prog_1_method_8_code
def yX9_levels : MethodName := ⟨RX9, "levels", "(II)I"⟩
abbrev cX9_box : ByteArray := prog_1_method_9_code
def yX9_box : MethodName := ⟨RX9, "box", "(IIIII)I"⟩
abbrev cX9_disc : ByteArray := prog_1_method_10_code
def yX9_disc : MethodName := ⟨RX9, "disc", "(IIII)I"⟩
abbrev cX9_drop : ByteArray := prog_1_method_11_code
def yX9_drop : MethodName := ⟨RX9, "drop", "(I)I"⟩
abbrev cX9_point : ByteArray := prog_1_method_12_code
def yX9_point : MethodName := ⟨RX9, "point", "(II)I"⟩
abbrev cX9_lift : ByteArray := prog_1_method_13_code
def yX9_lift : MethodName := ⟨RX9, "lift", "(I)I"⟩
abbrev cX9_key : ByteArray := prog_1_method_14_code
def yX9_key : MethodName := ⟨RX9, "key", "(II)I"⟩
abbrev cX9_cell : ByteArray := prog_1_method_15_code
def yX9_cell : MethodName := ⟨RX9, "cell", "(II)I"⟩
abbrev cX9_tile : ByteArray := prog_1_method_16_code
def yX9_tile : MethodName := ⟨RX9, "tile", "(III)I"⟩
abbrev cX9_beside : ByteArray := prog_1_method_17_code
def yX9_beside : MethodName := ⟨RX9, "beside", "(IIII)I"⟩
abbrev cX9_common : ByteArray := prog_1_method_18_code
def yX9_common : MethodName := ⟨RX9, "common", "(IIII)I"⟩
abbrev cX9_leaps : ByteArray := prog_1_method_19_code
def yX9_leaps : MethodName := ⟨RX9, "leaps", "()I"⟩
abbrev cX9_in : ByteArray := prog_1_method_20_code
def yX9_in : MethodName := ⟨RX9, "in", "(II)I"⟩
abbrev cX9_cover : ByteArray := prog_1_method_21_code
def yX9_cover : MethodName := ⟨RX9, "cover", "(III)I"⟩
abbrev cX9_rest : ByteArray := prog_1_method_22_code
def yX9_rest : MethodName := ⟨RX9, "rest", "(I)I"⟩
abbrev cX9_best : ByteArray := prog_1_method_23_code
def yX9_best : MethodName := ⟨RX9, "best", "(I)I"⟩
abbrev cX9_span : ByteArray := prog_1_method_24_code
def yX9_span : MethodName := ⟨RX9, "span", "(III)I"⟩
abbrev cX9_joined : ByteArray := prog_1_method_25_code
def yX9_joined : MethodName := ⟨RX9, "joined", "(II)I"⟩
abbrev cX9_at : ByteArray := prog_1_method_26_code
def yX9_at : MethodName := ⟨RX9, "at", "(II)I"⟩
abbrev cX9_ordered : ByteArray := prog_1_method_27_code
def yX9_ordered : MethodName := ⟨RX9, "ordered", "(I)I"⟩
abbrev cX9_search : ByteArray := prog_1_method_28_code
def yX9_search : MethodName := ⟨RX9, "search", "(I)I"⟩
abbrev cX9_found : ByteArray := prog_1_method_29_code
def yX9_found : MethodName := ⟨RX9, "found", "(I)I"⟩
abbrev cX9_nearest : ByteArray := prog_1_method_30_code
def yX9_nearest : MethodName := ⟨RX9, "nearest", "(II)I"⟩
abbrev cX9_count : ByteArray := prog_1_method_31_code
def yX9_count : MethodName := ⟨RX9, "count", "(I)I"⟩
abbrev cX9_isBit : ByteArray := prog_1_method_32_code
def yX9_isBit : MethodName := ⟨RX9, "isBit", "(I)Z"⟩
abbrev cX9_isStep : ByteArray := prog_1_method_33_code
def yX9_isStep : MethodName := ⟨RX9, "isStep", "(I)Z"⟩
def RX10 : String := "QuadKeysModel"
def TX10 : u_T := fun k => match k with
  | 0 => ("QuadKeysModel", "depth", "I", false)
  | 1 => ("QuadKeysModel", "curve", "I", false)
  | 2 => ("QuadKeysModel", "low", "I", false)
  | 3 => ("QuadKeysModel", "high", "I", false)
  | 4 => ("QuadKeysModel", "partMany", "I", false)
  | 5 => ("QuadKeysModel", "parts", "[I", true)
  | 6 => ("QuadKeysModel", "pointMany", "I", false)
  | 7 => ("QuadKeysModel", "pointX", "[I", true)
  | 8 => ("QuadKeysModel", "pointY", "[I", true)
  | 9 => ("QuadKeysModel", "text", "[I", true)
  | 10 => ("QuadKeysModel", "length", "I", false)
  | 11 => ("QuadKeysModel", "causeMany", "I", false)
  | 12 => ("QuadKeysModel", "causes", "[I", true)
  | 13 => ("QuadKeysModel", "readAt", "I", false)
  | 14 => ("QuadKeysModel", "items", "I", false)
  | 15 => ("QuadKeysModel", "itemParts", "I", false)
  | 16 => ("QuadKeysModel", "itemPoints", "I", false)
  | 17 => ("QuadKeysModel", "itemSide", "I", false)
  | 18 => ("QuadKeysModel", "read", "[I", true)
  | 19 => ("QuadKeysModel", "foundX", "I", false)
  | 20 => ("QuadKeysModel", "foundY", "I", false)
  | 21 => ("QuadKeysModel", "shape", "[I", true)
  | 22 => ("QuadKeysModel", "covered", "[I", true)
  | 23 => ("QuadKeysModel", "foundLevel", "I", false)
  | 24 => ("QuadKeysModel", "foundKey", "I", false)
  | 25 => ("QuadKeysModel", "least", "[I", true)
  | 26 => ("QuadKeysModel", "sum", "[I", true)
  | 27 => ("QuadKeysModel", "now", "[I", true)
  | 28 => ("QuadKeysModel", "gaps", "[I", true)
  | _ => ("QuadKeysModel", "gapMany", "I", false)
def tyX10 : Nat → FieldType := fun k => match k with
  | 0 => .int
  | 1 => .int
  | 2 => .int
  | 3 => .int
  | 4 => .int
  | 5 => .array .int
  | 6 => .int
  | 7 => .array .int
  | 8 => .array .int
  | 9 => .array .int
  | 10 => .int
  | 11 => .int
  | 12 => .array .int
  | 13 => .int
  | 14 => .int
  | 15 => .int
  | 16 => .int
  | 17 => .int
  | 18 => .array .int
  | 19 => .int
  | 20 => .int
  | 21 => .array .int
  | 22 => .array .int
  | 23 => .int
  | 24 => .int
  | 25 => .array .int
  | 26 => .array .int
  | 27 => .array .int
  | 28 => .array .int
  | _ => .int
abbrev wsX100 : List Cond := u_ws RX10 TX10 30
theorem nmX10 : ∀ a, a < 30 → ∀ b, b < 30 → a ≠ b → (TX10 a).2.1 ≠ (TX10 b).2.1 := by decide +kernel
theorem tyX10_ok : ∀ k, k < 30 → parseFieldDescriptor (TX10 k).2.2.1 = some (tyX10 k) := by decide +kernel
abbrev cX10_init : ByteArray := prog_12_method_1_code
def yX10_init : MethodName := ⟨RX10, "<init>", "()V"⟩
abbrev cX10_isIn : ByteArray := prog_12_method_2_code
def yX10_isIn : MethodName := ⟨RX10, "isIn", "(III)Z"⟩
abbrev cX10_side : ByteArray := prog_12_method_3_code
def yX10_side : MethodName := ⟨RX10, "side", "()I"⟩
abbrev cX10_cells : ByteArray := prog_12_method_4_code
def yX10_cells : MethodName := ⟨RX10, "cells", "()I"⟩
abbrev cX10_isCell : ByteArray := prog_12_method_5_code
def yX10_isCell : MethodName := ⟨RX10, "isCell", "(II)Z"⟩
abbrev cX10_write : ByteArray := prog_12_method_6_code
def yX10_write : MethodName := ⟨RX10, "write", "(I)I"⟩
abbrev cX10_wipe : ByteArray := prog_12_method_7_code
def yX10_wipe : MethodName := ⟨RX10, "wipe", "()I"⟩
abbrev cX10_here : ByteArray := prog_12_method_8_code
def yX10_here : MethodName := ⟨RX10, "here", "()I"⟩
abbrev cX10_isFigure : ByteArray := prog_12_method_9_code
def yX10_isFigure : MethodName := ⟨RX10, "isFigure", "()Z"⟩
abbrev cX10_causes : ByteArray := prog_12_method_10_code
def yX10_causes : MethodName := ⟨RX10, "causes", "(II)Z"⟩
abbrev cX10_number : ByteArray := prog_12_method_11_code
def yX10_number : MethodName := ⟨RX10, "number", "(IIII)Z"⟩
abbrev cX10_readsWorld : ByteArray := prog_12_method_12_code
def yX10_readsWorld : MethodName := ⟨RX10, "readsWorld", "()Z"⟩
abbrev cX10_readsBox : ByteArray := prog_12_method_13_code
def yX10_readsBox : MethodName := ⟨RX10, "readsBox", "()Z"⟩
abbrev cX10_readsDisc : ByteArray := prog_12_method_14_code
def yX10_readsDisc : MethodName := ⟨RX10, "readsDisc", "()Z"⟩
abbrev cX10_begins : ByteArray := prog_12_method_15_code
def yX10_begins : MethodName := ⟨RX10, "begins", "()I"⟩
abbrev cX10_mayBegin : ByteArray := prog_12_method_16_code
def yX10_mayBegin : MethodName := ⟨RX10, "mayBegin", "(I)Z"⟩
abbrev cX10_lays : ByteArray := prog_12_method_17_code
def yX10_lays : MethodName := ⟨RX10, "lays", "(II)V"⟩
abbrev cX10_puts : ByteArray := prog_12_method_18_code
def yX10_puts : MethodName := ⟨RX10, "puts", "(IIIIIII)V"⟩
abbrev cX10_readsItem : ByteArray := prog_12_method_19_code
def yX10_readsItem : MethodName := ⟨RX10, "readsItem", "(Z)Z"⟩
abbrev cX10_goesThrough : ByteArray := prog_12_method_20_code
def yX10_goesThrough : MethodName := ⟨RX10, "goesThrough", "(Z)I"⟩
abbrev cX10_fault : ByteArray := prog_12_method_21_code
def yX10_fault : MethodName := ⟨RX10, "fault", "()I"⟩
abbrev cX10_lay : ByteArray := prog_12_method_22_code
def yX10_lay : MethodName := ⟨RX10, "lay", "()I"⟩
abbrev cX10_cause : ByteArray := prog_12_method_23_code
def yX10_cause : MethodName := ⟨RX10, "cause", "(I)I"⟩
abbrev cX10_curve : ByteArray := prog_12_method_24_code
def yX10_curve : MethodName := ⟨RX10, "curve", "(I)I"⟩
abbrev cX10_levels : ByteArray := prog_12_method_25_code
def yX10_levels : MethodName := ⟨RX10, "levels", "(II)I"⟩
abbrev cX10_more : ByteArray := prog_12_method_26_code
def yX10_more : MethodName := ⟨RX10, "more", "(IIIIII)I"⟩
abbrev cX10_box : ByteArray := prog_12_method_27_code
def yX10_box : MethodName := ⟨RX10, "box", "(IIIII)I"⟩
abbrev cX10_disc : ByteArray := prog_12_method_28_code
def yX10_disc : MethodName := ⟨RX10, "disc", "(IIII)I"⟩
abbrev cX10_drop : ByteArray := prog_12_method_29_code
def yX10_drop : MethodName := ⟨RX10, "drop", "(I)I"⟩
abbrev cX10_point : ByteArray := prog_12_method_30_code
def yX10_point : MethodName := ⟨RX10, "point", "(II)I"⟩
abbrev cX10_lift : ByteArray := prog_12_method_31_code
def yX10_lift : MethodName := ⟨RX10, "lift", "(I)I"⟩
abbrev cX10_keyOf : ByteArray := prog_12_method_32_code
def yX10_keyOf : MethodName := ⟨RX10, "keyOf", "(II)I"⟩
abbrev cX10_setCell : ByteArray := prog_12_method_33_code
def yX10_setCell : MethodName := ⟨RX10, "setCell", "(I)V"⟩
abbrev cX10_key : ByteArray := prog_12_method_34_code
def yX10_key : MethodName := ⟨RX10, "key", "(II)I"⟩
abbrev cX10_cell : ByteArray := prog_12_method_35_code
def yX10_cell : MethodName := ⟨RX10, "cell", "(II)I"⟩
abbrev cX10_isTile : ByteArray := prog_12_method_36_code
def yX10_isTile : MethodName := ⟨RX10, "isTile", "(II)Z"⟩
abbrev cX10_sizeOf : ByteArray := prog_12_method_37_code
def yX10_sizeOf : MethodName := ⟨RX10, "sizeOf", "(I)I"⟩
abbrev cX10_sideOf : ByteArray := prog_12_method_38_code
def yX10_sideOf : MethodName := ⟨RX10, "sideOf", "(I)I"⟩
abbrev cX10_has : ByteArray := prog_12_method_39_code
def yX10_has : MethodName := ⟨RX10, "has", "(III)Z"⟩
abbrev cX10_isShape : ByteArray := prog_12_method_40_code
def yX10_isShape : MethodName := ⟨RX10, "isShape", "(II)Z"⟩
abbrev cX10_setShape : ByteArray := prog_12_method_41_code
def yX10_setShape : MethodName := ⟨RX10, "setShape", "()V"⟩
abbrev cX10_shapeIn : ByteArray := prog_12_method_42_code
def yX10_shapeIn : MethodName := ⟨RX10, "shapeIn", "(II)I"⟩
abbrev cX10_pointsIn : ByteArray := prog_12_method_43_code
def yX10_pointsIn : MethodName := ⟨RX10, "pointsIn", "(II)I"⟩
abbrev cX10_tile : ByteArray := prog_12_method_44_code
def yX10_tile : MethodName := ⟨RX10, "tile", "(III)I"⟩
abbrev cX10_beside : ByteArray := prog_12_method_45_code
def yX10_beside : MethodName := ⟨RX10, "beside", "(IIII)I"⟩
abbrev cX10_common : ByteArray := prog_12_method_46_code
def yX10_common : MethodName := ⟨RX10, "common", "(IIII)I"⟩
abbrev cX10_leaps : ByteArray := prog_12_method_47_code
def yX10_leaps : MethodName := ⟨RX10, "leaps", "()I"⟩
abbrev cX10_in : ByteArray := prog_12_method_48_code
def yX10_in : MethodName := ⟨RX10, "in", "(II)I"⟩
abbrev cX10_setCover : ByteArray := prog_12_method_49_code
def yX10_setCover : MethodName := ⟨RX10, "setCover", "(I)V"⟩
abbrev cX10_isWhole : ByteArray := prog_12_method_50_code
def yX10_isWhole : MethodName := ⟨RX10, "isWhole", "(II)Z"⟩
abbrev cX10_levelAt : ByteArray := prog_12_method_51_code
def yX10_levelAt : MethodName := ⟨RX10, "levelAt", "(I)I"⟩
abbrev cX10_tiles : ByteArray := prog_12_method_52_code
def yX10_tiles : MethodName := ⟨RX10, "tiles", "(I)I"⟩
abbrev cX10_isAsked : ByteArray := prog_12_method_53_code
def yX10_isAsked : MethodName := ⟨RX10, "isAsked", "(III)Z"⟩
abbrev cX10_cover : ByteArray := prog_12_method_54_code
def yX10_cover : MethodName := ⟨RX10, "cover", "(III)I"⟩
abbrev cX10_rest : ByteArray := prog_12_method_55_code
def yX10_rest : MethodName := ⟨RX10, "rest", "(I)I"⟩
abbrev cX10_clears : ByteArray := prog_12_method_56_code
def yX10_clears : MethodName := ⟨RX10, "clears", "(I)V"⟩
abbrev cX10_comes : ByteArray := prog_12_method_57_code
def yX10_comes : MethodName := ⟨RX10, "comes", "(I)V"⟩
abbrev cX10_closes : ByteArray := prog_12_method_58_code
def yX10_closes : MethodName := ⟨RX10, "closes", "(I)V"⟩
abbrev cX10_setLeaf : ByteArray := prog_12_method_59_code
def yX10_setLeaf : MethodName := ⟨RX10, "setLeaf", "(I)V"⟩
abbrev cX10_best : ByteArray := prog_12_method_60_code
def yX10_best : MethodName := ⟨RX10, "best", "(I)I"⟩
abbrev cX10_spans : ByteArray := prog_12_method_61_code
def yX10_spans : MethodName := ⟨RX10, "spans", "(I)I"⟩
abbrev cX10_span : ByteArray := prog_12_method_62_code
def yX10_span : MethodName := ⟨RX10, "span", "(III)I"⟩
abbrev cX10_joined : ByteArray := prog_12_method_63_code
def yX10_joined : MethodName := ⟨RX10, "joined", "(II)I"⟩
abbrev cX10_isPoint : ByteArray := prog_12_method_64_code
def yX10_isPoint : MethodName := ⟨RX10, "isPoint", "(I)Z"⟩
abbrev cX10_placeOf : ByteArray := prog_12_method_65_code
def yX10_placeOf : MethodName := ⟨RX10, "placeOf", "(I)I"⟩
abbrev cX10_at : ByteArray := prog_12_method_66_code
def yX10_at : MethodName := ⟨RX10, "at", "(II)I"⟩
abbrev cX10_orderedAt : ByteArray := prog_12_method_67_code
def yX10_orderedAt : MethodName := ⟨RX10, "orderedAt", "(I)I"⟩
abbrev cX10_ordered : ByteArray := prog_12_method_68_code
def yX10_ordered : MethodName := ⟨RX10, "ordered", "(I)I"⟩
abbrev cX10_isFound : ByteArray := prog_12_method_69_code
def yX10_isFound : MethodName := ⟨RX10, "isFound", "(I)Z"⟩
abbrev cX10_search : ByteArray := prog_12_method_70_code
def yX10_search : MethodName := ⟨RX10, "search", "(I)I"⟩
abbrev cX10_found : ByteArray := prog_12_method_71_code
def yX10_found : MethodName := ⟨RX10, "found", "(I)I"⟩
abbrev cX10_nearest : ByteArray := prog_12_method_72_code
def yX10_nearest : MethodName := ⟨RX10, "nearest", "(II)I"⟩
abbrev cX10_shapeMany : ByteArray := prog_12_method_73_code
def yX10_shapeMany : MethodName := ⟨RX10, "shapeMany", "()I"⟩
abbrev cX10_count : ByteArray := prog_12_method_74_code
def yX10_count : MethodName := ⟨RX10, "count", "(I)I"⟩
def RJx145de : String := "java/io/Serializable"
def TJx145de : u_T := fun k => match k with
  | _ => ("", "", "", false)
def tyJx145de : Nat → FieldType := fun k => match k with
  | _ => .int
abbrev wsJx145de0 : List Cond := u_ws RJx145de TJx145de 0
theorem nmJx145de : ∀ a, a < 0 → ∀ b, b < 0 → a ≠ b → (TJx145de a).2.1 ≠ (TJx145de b).2.1 := by decide +kernel
theorem tyJx145de_ok : ∀ k, k < 0 → parseFieldDescriptor (TJx145de k).2.2.1 = some (tyJx145de k) := by decide +kernel
def RJx9f9b0 : String := "java/lang/CharSequence"
def TJx9f9b0 : u_T := fun k => match k with
  | _ => ("", "", "", false)
def tyJx9f9b0 : Nat → FieldType := fun k => match k with
  | _ => .int
abbrev wsJx9f9b00 : List Cond := u_ws RJx9f9b0 TJx9f9b0 0
theorem nmJx9f9b0 : ∀ a, a < 0 → ∀ b, b < 0 → a ≠ b → (TJx9f9b0 a).2.1 ≠ (TJx9f9b0 b).2.1 := by decide +kernel
theorem tyJx9f9b0_ok : ∀ k, k < 0 → parseFieldDescriptor (TJx9f9b0 k).2.2.1 = some (tyJx9f9b0 k) := by decide +kernel
def RJxb160c : String := "java/lang/Comparable"
def TJxb160c : u_T := fun k => match k with
  | _ => ("", "", "", false)
def tyJxb160c : Nat → FieldType := fun k => match k with
  | _ => .int
abbrev wsJxb160c0 : List Cond := u_ws RJxb160c TJxb160c 0
theorem nmJxb160c : ∀ a, a < 0 → ∀ b, b < 0 → a ≠ b → (TJxb160c a).2.1 ≠ (TJxb160c b).2.1 := by decide +kernel
theorem tyJxb160c_ok : ∀ k, k < 0 → parseFieldDescriptor (TJxb160c k).2.2.1 = some (tyJxb160c k) := by decide +kernel
def RJ13 : String := "java/lang/Long"
def TJ13 : u_T := fun k => match k with
  | _ => ("", "", "", false)
def tyJ13 : Nat → FieldType := fun k => match k with
  | _ => .int
abbrev wsJ130 : List Cond := u_ws RJ13 TJ13 0
theorem nmJ13 : ∀ a, a < 0 → ∀ b, b < 0 → a ≠ b → (TJ13 a).2.1 ≠ (TJ13 b).2.1 := by decide +kernel
theorem tyJ13_ok : ∀ k, k < 0 → parseFieldDescriptor (TJ13 k).2.2.1 = some (tyJ13 k) := by decide +kernel
abbrev cJ13_bitCount_95d88 : ByteArray := prog_13_method_50_code
def yJ13_bitCount_95d88 : MethodName := ⟨RJ13, "bitCount", "(J)I"⟩
def RJ9 : String := "java/lang/Math"
def TJ9 : u_T := fun k => match k with
  | _ => ("", "", "", false)
def tyJ9 : Nat → FieldType := fun k => match k with
  | _ => .int
abbrev wsJ90 : List Cond := u_ws RJ9 TJ9 0
theorem nmJ9 : ∀ a, a < 0 → ∀ b, b < 0 → a ≠ b → (TJ9 a).2.1 ≠ (TJ9 b).2.1 := by decide +kernel
theorem tyJ9_ok : ∀ k, k < 0 → parseFieldDescriptor (TJ9 k).2.2.1 = some (tyJ9 k) := by decide +kernel
abbrev cJ9_abs_0f7a4 : ByteArray := prog_14_method_59_code
def yJ9_abs_0f7a4 : MethodName := ⟨RJ9, "abs", "(I)I"⟩
abbrev cJ9_min_7cf53 : ByteArray := prog_14_method_69_code
def yJ9_min_7cf53 : MethodName := ⟨RJ9, "min", "(II)I"⟩
def RJ0 : String := "java/lang/String"
def TJ0 : u_T := fun k => match k with
  | _ => ("", "", "", false)
def tyJ0 : Nat → FieldType := fun k => match k with
  | _ => .int
abbrev wsJ00 : List Cond := u_ws RJ0 TJ0 0
theorem nmJ0 : ∀ a, a < 0 → ∀ b, b < 0 → a ≠ b → (TJ0 a).2.1 ≠ (TJ0 b).2.1 := by decide +kernel
theorem tyJ0_ok : ∀ k, k < 0 → parseFieldDescriptor (TJ0 k).2.2.1 = some (tyJ0 k) := by decide +kernel
abbrev cJ0_length_8abf5 : ByteArray := prog_15_method_54_code
def yJ0_length_8abf5 : MethodName := ⟨RJ0, "length", "()I"⟩
abbrev cJ0_charAt_5068e : ByteArray := prog_15_method_56_code
def yJ0_charAt_5068e : MethodName := ⟨RJ0, "charAt", "(I)C"⟩
abbrev cJ0_coder_7d493 : ByteArray := prog_15_method_152_code
def yJ0_coder_7d493 : MethodName := ⟨RJ0, "coder", "()B"⟩
abbrev cJ0_isLatin1_aae02 : ByteArray := prog_15_method_154_code
def yJ0_isLatin1_aae02 : MethodName := ⟨RJ0, "isLatin1", "()Z"⟩
abbrev cJ0_checkIndex_df160 : ByteArray := prog_15_method_155_code
def yJ0_checkIndex_df160 : MethodName := ⟨RJ0, "checkIndex", "(II)V"⟩
def RJ1 : String := "java/lang/StringLatin1"
def TJ1 : u_T := fun k => match k with
  | _ => ("", "", "", false)
def tyJ1 : Nat → FieldType := fun k => match k with
  | _ => .int
abbrev wsJ10 : List Cond := u_ws RJ1 TJ1 0
theorem nmJ1 : ∀ a, a < 0 → ∀ b, b < 0 → a ≠ b → (TJ1 a).2.1 ≠ (TJ1 b).2.1 := by decide +kernel
theorem tyJ1_ok : ∀ k, k < 0 → parseFieldDescriptor (TJ1 k).2.2.1 = some (tyJ1 k) := by decide +kernel
abbrev cJ1_charAt_3b067 : ByteArray := prog_16_method_2_code
def yJ1_charAt_3b067 : MethodName := ⟨RJ1, "charAt", "([BI)C"⟩
def RJ2 : String := "java/lang/StringUTF16"
def TJ2 : u_T := fun k => match k with
  | _ => ("", "", "", false)
def tyJ2 : Nat → FieldType := fun k => match k with
  | _ => .int
abbrev wsJ20 : List Cond := u_ws RJ2 TJ2 0
theorem nmJ2 : ∀ a, a < 0 → ∀ b, b < 0 → a ≠ b → (TJ2 a).2.1 ≠ (TJ2 b).2.1 := by decide +kernel
theorem tyJ2_ok : ∀ k, k < 0 → parseFieldDescriptor (TJ2 k).2.2.1 = some (tyJ2 k) := by decide +kernel
abbrev cJ2_getChar_3b067 : ByteArray := prog_17_method_5_code
def yJ2_getChar_3b067 : MethodName := ⟨RJ2, "getChar", "([BI)C"⟩
abbrev cJ2_length_9d52b : ByteArray := prog_17_method_6_code
def yJ2_length_9d52b : MethodName := ⟨RJ2, "length", "([B)I"⟩
abbrev cJ2_charAt_3b067 : ByteArray := prog_17_method_83_code
def yJ2_charAt_3b067 : MethodName := ⟨RJ2, "charAt", "([BI)C"⟩
abbrev cJ2_checkIndex_2214a : ByteArray := prog_17_method_91_code
def yJ2_checkIndex_2214a : MethodName := ⟨RJ2, "checkIndex", "(I[B)V"⟩
def RJxfd54e : String := "java/lang/constant/Constable"
def TJxfd54e : u_T := fun k => match k with
  | _ => ("", "", "", false)
def tyJxfd54e : Nat → FieldType := fun k => match k with
  | _ => .int
abbrev wsJxfd54e0 : List Cond := u_ws RJxfd54e TJxfd54e 0
theorem nmJxfd54e : ∀ a, a < 0 → ∀ b, b < 0 → a ≠ b → (TJxfd54e a).2.1 ≠ (TJxfd54e b).2.1 := by decide +kernel
theorem tyJxfd54e_ok : ∀ k, k < 0 → parseFieldDescriptor (TJxfd54e k).2.2.1 = some (tyJxfd54e k) := by decide +kernel
def RJx3cf43 : String := "java/lang/constant/ConstantDesc"
def TJx3cf43 : u_T := fun k => match k with
  | _ => ("", "", "", false)
def tyJx3cf43 : Nat → FieldType := fun k => match k with
  | _ => .int
abbrev wsJx3cf430 : List Cond := u_ws RJx3cf43 TJx3cf43 0
theorem nmJx3cf43 : ∀ a, a < 0 → ∀ b, b < 0 → a ≠ b → (TJx3cf43 a).2.1 ≠ (TJx3cf43 b).2.1 := by decide +kernel
theorem tyJx3cf43_ok : ∀ k, k < 0 → parseFieldDescriptor (TJx3cf43 k).2.2.1 = some (tyJx3cf43 k) := by decide +kernel
def RJ7 : String := "java/util/Arrays"
def TJ7 : u_T := fun k => match k with
  | _ => ("", "", "", false)
def tyJ7 : Nat → FieldType := fun k => match k with
  | _ => .int
abbrev wsJ70 : List Cond := u_ws RJ7 TJ7 0
theorem nmJ7 : ∀ a, a < 0 → ∀ b, b < 0 → a ≠ b → (TJ7 a).2.1 ≠ (TJ7 b).2.1 := by decide +kernel
theorem tyJ7_ok : ∀ k, k < 0 → parseFieldDescriptor (TJ7 k).2.2.1 = some (tyJ7 k) := by decide +kernel
abbrev cJ7_fill_d0a16 : ByteArray := prog_18_method_101_code
def yJ7_fill_d0a16 : MethodName := ⟨RJ7, "fill", "([JJ)V"⟩
abbrev cJ7_fill_53178 : ByteArray := prog_18_method_103_code
def yJ7_fill_53178 : MethodName := ⟨RJ7, "fill", "([II)V"⟩
def RJ3 : String := "jdk/internal/util/Preconditions"
def TJ3 : u_T := fun k => match k with
  | _ => ("", "", "", false)
def tyJ3 : Nat → FieldType := fun k => match k with
  | _ => .int
abbrev wsJ30 : List Cond := u_ws RJ3 TJ3 0
theorem nmJ3 : ∀ a, a < 0 → ∀ b, b < 0 → a ≠ b → (TJ3 a).2.1 ≠ (TJ3 b).2.1 := by decide +kernel
theorem tyJ3_ok : ∀ k, k < 0 → parseFieldDescriptor (TJ3 k).2.2.1 = some (tyJ3 k) := by decide +kernel
abbrev cJ3_checkIndex_8e157 : ByteArray := prog_19_method_11_code
def yJ3_checkIndex_8e157 : MethodName := ⟨RJ3, "checkIndex", "(IILjava/util/function/BiFunction;)I"⟩
def RL : String := "QuadKeysLaw"
abbrev cL_law : ByteArray := code
def yL_law : MethodName := ⟨RL, "law", "([I)Z"⟩
abbrev vwCl : List vw_C := [(RX0, TX0, 7), (RX2, TX2, 2), (RX3, TX3, 1), (RX4, TX4, 6), (RX5, TX5, 7), (RX6, TX6, 5), (RX7, TX7, 6), (RX8, TX8, 1), (RX9, TX9, 4), (RX10, TX10, 30)]
