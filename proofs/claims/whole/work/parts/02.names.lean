/-! ===== BEGIN words of one list among another's, by their places ===== -/
theorem goodIn_r {big : List Cond} (ws : List Cond) (ps : List Nat) (hp : ws = ps.filterMap (fun i => big[i]?)) (h : ws.all goodWord = true) : GoodIn big ws := by
  intro w hw
  have h1 := List.all_eq_true.mp h w hw
  rw [hp] at hw
  obtain ⟨i, -, hi⟩ := List.mem_filterMap.mp hw
  have hm : w ∈ big := by first | exact List.mem_of_getElem? hi | exact List.getElem?_mem hi
  exact ⟨hm, good_of_word h1⟩
theorem goodIn_app {big a b : List Cond} (ha : GoodIn big a) (hb : GoodIn big b) : GoodIn big (a ++ b) := fun w h => (List.mem_append.mp h).elim (ha w) (hb w)
/-! ===== END ===== -/

/-! ===== BEGIN printed: names, fields, word lists, decode rows ===== -/
def RX0 : String := "TwoEyes$Body"
def TX0 : u_T := fun k => match k with
  | _ => ("TwoEyes$Body", "rows", "[I", true)
def tyX0 : Nat → FieldType := fun k => match k with
  | _ => .array .int
abbrev wsX00 : List Cond := u_ws RX0 TX0 1
theorem nmX0 : ∀ a, a < 1 → ∀ b, b < 1 → a ≠ b → (TX0 a).2.1 ≠ (TX0 b).2.1 := by decide +kernel
theorem tyX0_ok : ∀ k, k < 1 → parseFieldDescriptor (TX0 k).2.2.1 = some (tyX0 k) := by decide +kernel
abbrev cX0_init : ByteArray := prog_2_method_1_code
def yX0_init : MethodName := ⟨RX0, "<init>", "()V"⟩
abbrev cX0_hasOutline : ByteArray := prog_2_method_2_code
def yX0_hasOutline : MethodName := ⟨RX0, "hasOutline", "(I)Z"⟩
abbrev cX0_onEdge : ByteArray := prog_2_method_3_code
def yX0_onEdge : MethodName := ⟨RX0, "onEdge", "(I)Z"⟩
abbrev cX0_bit : ByteArray := prog_2_method_4_code
def yX0_bit : MethodName := ⟨RX0, "bit", "(III)Z"⟩
abbrev cX0_has : ByteArray := prog_2_method_5_code
def yX0_has : MethodName := ⟨RX0, "has", "(III)Z"⟩
abbrev cX0_countCubes : ByteArray := prog_2_method_6_code
def yX0_countCubes : MethodName := ⟨RX0, "countCubes", "()I"⟩
abbrev cX0_countEmpty : ByteArray := prog_2_method_7_code
def yX0_countEmpty : MethodName := ⟨RX0, "countEmpty", "(I)I"⟩
abbrev cX0_anyAlong : ByteArray := prog_2_method_8_code
def yX0_anyAlong : MethodName := ⟨RX0, "anyAlong", "(III)Z"⟩
abbrev cX0_isSeenAt : ByteArray := prog_2_method_9_code
def yX0_isSeenAt : MethodName := ⟨RX0, "isSeenAt", "(IIII)Z"⟩
def RX1 : String := "TwoEyes$Costs"
def TX1 : u_T := fun k => match k with
  | 0 => ("TwoEyes$Costs", "left", "LTwoEyes$Stand;", true)
  | 1 => ("TwoEyes$Costs", "right", "LTwoEyes$Stand;", true)
  | 2 => ("TwoEyes$Costs", "table", "[I", true)
  | _ => ("TwoEyes$Costs", "fresh", "Z", false)
def tyX1 : Nat → FieldType := fun k => match k with
  | 0 => .object "TwoEyes$Stand"
  | 1 => .object "TwoEyes$Stand"
  | 2 => .array .int
  | _ => .boolean
abbrev wsX10 : List Cond := u_ws RX1 TX1 4
theorem nmX1 : ∀ a, a < 4 → ∀ b, b < 4 → a ≠ b → (TX1 a).2.1 ≠ (TX1 b).2.1 := by decide +kernel
theorem tyX1_ok : ∀ k, k < 4 → parseFieldDescriptor (TX1 k).2.2.1 = some (tyX1 k) := by decide +kernel
abbrev cX1_init : ByteArray := prog_3_method_1_code
def yX1_init : MethodName := ⟨RX1, "<init>", "()V"⟩
abbrev cX1_measureAll : ByteArray := prog_3_method_2_code
def yX1_measureAll : MethodName := ⟨RX1, "measureAll", "(LTwoEyes$Scene;)V"⟩
abbrev cX1_measure : ByteArray := prog_3_method_3_code
def yX1_measure : MethodName := ⟨RX1, "measure", "(II)I"⟩
def RX2 : String := "TwoEyes$Depths"
def TX2 : u_T := fun k => match k with
  | 0 => ("TwoEyes$Depths", "told", "[I", true)
  | _ => ("TwoEyes$Depths", "fresh", "Z", false)
def tyX2 : Nat → FieldType := fun k => match k with
  | 0 => .array .int
  | _ => .boolean
abbrev wsX20 : List Cond := u_ws RX2 TX2 2
theorem nmX2 : ∀ a, a < 2 → ∀ b, b < 2 → a ≠ b → (TX2 a).2.1 ≠ (TX2 b).2.1 := by decide +kernel
theorem tyX2_ok : ∀ k, k < 2 → parseFieldDescriptor (TX2 k).2.2.1 = some (tyX2 k) := by decide +kernel
abbrev cX2_init : ByteArray := prog_4_method_1_code
def yX2_init : MethodName := ⟨RX2, "<init>", "()V"⟩
abbrev cX2_tellAll : ByteArray := prog_4_method_2_code
def yX2_tellAll : MethodName := ⟨RX2, "tellAll", "(LTwoEyes$Scene;LTwoEyes$Costs;LTwoEyes$Sums;I)V"⟩
abbrev cX2_tell : ByteArray := prog_4_method_3_code
def yX2_tell : MethodName := ⟨RX2, "tell", "(IIILTwoEyes$Costs;LTwoEyes$Sums;I)I"⟩
abbrev cX2_countTold : ByteArray := prog_4_method_4_code
def yX2_countTold : MethodName := ⟨RX2, "countTold", "(I)I"⟩
abbrev cX2_comesFrom : ByteArray := prog_4_method_5_code
def yX2_comesFrom : MethodName := ⟨RX2, "comesFrom", "(IIII)I"⟩
def RX3 : String := "TwoEyes$Paths"
def TX3 : u_T := fun k => match k with
  | 0 => ("TwoEyes$Paths", "rest", "[I", true)
  | 1 => ("TwoEyes$Paths", "match", "[I", true)
  | _ => ("TwoEyes$Paths", "total", "[I", true)
def tyX3 : Nat → FieldType := fun k => match k with
  | 0 => .array .int
  | 1 => .array .int
  | _ => .array .int
abbrev wsX30 : List Cond := u_ws RX3 TX3 3
theorem nmX3 : ∀ a, a < 3 → ∀ b, b < 3 → a ≠ b → (TX3 a).2.1 ≠ (TX3 b).2.1 := by decide +kernel
theorem tyX3_ok : ∀ k, k < 3 → parseFieldDescriptor (TX3 k).2.2.1 = some (tyX3 k) := by decide +kernel
abbrev cX3_init : ByteArray := prog_5_method_1_code
def yX3_init : MethodName := ⟨RX3, "<init>", "()V"⟩
abbrev cX3_forget : ByteArray := prog_5_method_2_code
def yX3_forget : MethodName := ⟨RX3, "forget", "()V"⟩
abbrev cX3_walk : ByteArray := prog_5_method_3_code
def yX3_walk : MethodName := ⟨RX3, "walk", "(ILTwoEyes$Scene;LTwoEyes$Costs;[I)V"⟩
abbrev cX3_matching : ByteArray := prog_5_method_4_code
def yX3_matching : MethodName := ⟨RX3, "matching", "(IIIILTwoEyes$Costs;I)I"⟩
abbrev cX3_leastRest : ByteArray := prog_5_method_5_code
def yX3_leastRest : MethodName := ⟨RX3, "leastRest", "(IIIII)I"⟩
abbrev cX3_follow : ByteArray := prog_5_method_6_code
def yX3_follow : MethodName := ⟨RX3, "follow", "(IILTwoEyes$Costs;[I)V"⟩
abbrev cX3_countHidden : ByteArray := prog_5_method_7_code
def yX3_countHidden : MethodName := ⟨RX3, "countHidden", "(II)I"⟩
def RX4 : String := "TwoEyes$Picture"
def TX4 : u_T := fun k => match k with
  | 0 => ("TwoEyes$Picture", "squares", "[I", true)
  | _ => ("TwoEyes$Picture", "missing", "[Z", true)
def tyX4 : Nat → FieldType := fun k => match k with
  | 0 => .array .int
  | _ => .array .boolean
abbrev wsX40 : List Cond := u_ws RX4 TX4 2
theorem nmX4 : ∀ a, a < 2 → ∀ b, b < 2 → a ≠ b → (TX4 a).2.1 ≠ (TX4 b).2.1 := by decide +kernel
theorem tyX4_ok : ∀ k, k < 2 → parseFieldDescriptor (TX4 k).2.2.1 = some (tyX4 k) := by decide +kernel
abbrev cX4_init : ByteArray := prog_6_method_1_code
def yX4_init : MethodName := ⟨RX4, "<init>", "()V"⟩
abbrev cX4_clear : ByteArray := prog_6_method_2_code
def yX4_clear : MethodName := ⟨RX4, "clear", "()V"⟩
abbrev cX4_become : ByteArray := prog_6_method_3_code
def yX4_become : MethodName := ⟨RX4, "become", "(LTwoEyes$Picture;)V"⟩
def RX5 : String := "TwoEyes$Planes"
def TX5 : u_T := fun k => match k with
  | 0 => ("TwoEyes$Planes", "anchor", "I", false)
  | 1 => ("TwoEyes$Planes", "b", "I", false)
  | 2 => ("TwoEyes$Planes", "a", "I", false)
  | 3 => ("TwoEyes$Planes", "c", "I", false)
  | 4 => ("TwoEyes$Planes", "price", "I", false)
  | 5 => ("TwoEyes$Planes", "anchorX", "I", false)
  | 6 => ("TwoEyes$Planes", "anchorY", "I", false)
  | 7 => ("TwoEyes$Planes", "places", "[I", true)
  | 8 => ("TwoEyes$Planes", "aside", "[I", true)
  | 9 => ("TwoEyes$Planes", "down", "[I", true)
  | _ => ("TwoEyes$Planes", "members", "I", false)
def tyX5 : Nat → FieldType := fun k => match k with
  | 0 => .int
  | 1 => .int
  | 2 => .int
  | 3 => .int
  | 4 => .int
  | 5 => .int
  | 6 => .int
  | 7 => .array .int
  | 8 => .array .int
  | 9 => .array .int
  | _ => .int
abbrev wsX50 : List Cond := u_ws RX5 TX5 11
theorem nmX5 : ∀ a, a < 11 → ∀ b, b < 11 → a ≠ b → (TX5 a).2.1 ≠ (TX5 b).2.1 := by decide +kernel
theorem tyX5_ok : ∀ k, k < 11 → parseFieldDescriptor (TX5 k).2.2.1 = some (tyX5 k) := by decide +kernel
abbrev cX5_init : ByteArray := prog_7_method_1_code
def yX5_init : MethodName := ⟨RX5, "<init>", "()V"⟩
abbrev cX5_find : ByteArray := prog_7_method_2_code
def yX5_find : MethodName := ⟨RX5, "find", "(ILTwoEyes$Scene;LTwoEyes$Segments;LTwoEyes$Costs;I)V"⟩
abbrev cX5_collect : ByteArray := prog_7_method_3_code
def yX5_collect : MethodName := ⟨RX5, "collect", "(ILTwoEyes$Scene;LTwoEyes$Segments;)V"⟩
abbrev cX5_add : ByteArray := prog_7_method_4_code
def yX5_add : MethodName := ⟨RX5, "add", "(III)V"⟩
abbrev cX5_weigh : ByteArray := prog_7_method_5_code
def yX5_weigh : MethodName := ⟨RX5, "weigh", "(IIILTwoEyes$Costs;I)V"⟩
abbrev cX5_depthAt : ByteArray := prog_7_method_6_code
def yX5_depthAt : MethodName := ⟨RX5, "depthAt", "(II)I"⟩
abbrev cX5_half : ByteArray := prog_7_method_7_code
def yX5_half : MethodName := ⟨RX5, "half", "(I)I"⟩
def RX6 : String := "TwoEyes$Scene"
def TX6 : u_T := fun k => match k with
  | 0 => ("TwoEyes$Scene", "width", "I", false)
  | 1 => ("TwoEyes$Scene", "height", "I", false)
  | 2 => ("TwoEyes$Scene", "left", "LTwoEyes$Picture;", true)
  | 3 => ("TwoEyes$Scene", "right", "LTwoEyes$Picture;", true)
  | _ => ("TwoEyes$Scene", "truth", "[I", true)
def tyX6 : Nat → FieldType := fun k => match k with
  | 0 => .int
  | 1 => .int
  | 2 => .object "TwoEyes$Picture"
  | 3 => .object "TwoEyes$Picture"
  | _ => .array .int
abbrev wsX60 : List Cond := u_ws RX6 TX6 5
theorem nmX6 : ∀ a, a < 5 → ∀ b, b < 5 → a ≠ b → (TX6 a).2.1 ≠ (TX6 b).2.1 := by decide +kernel
theorem tyX6_ok : ∀ k, k < 5 → parseFieldDescriptor (TX6 k).2.2.1 = some (tyX6 k) := by decide +kernel
abbrev cX6_init : ByteArray := prog_8_method_1_code
def yX6_init : MethodName := ⟨RX6, "<init>", "()V"⟩
abbrev cX6_renew : ByteArray := prog_8_method_2_code
def yX6_renew : MethodName := ⟨RX6, "renew", "(II)V"⟩
abbrev cX6_become : ByteArray := prog_8_method_3_code
def yX6_become : MethodName := ⟨RX6, "become", "(LTwoEyes$Scene;)V"⟩
abbrev cX6_hasPicture : ByteArray := prog_8_method_4_code
def yX6_hasPicture : MethodName := ⟨RX6, "hasPicture", "(I)Z"⟩
abbrev cX6_hasHeight : ByteArray := prog_8_method_5_code
def yX6_hasHeight : MethodName := ⟨RX6, "hasHeight", "(I)Z"⟩
abbrev cX6_hasRow : ByteArray := prog_8_method_6_code
def yX6_hasRow : MethodName := ⟨RX6, "hasRow", "(II)Z"⟩
abbrev cX6_hasSquare : ByteArray := prog_8_method_7_code
def yX6_hasSquare : MethodName := ⟨RX6, "hasSquare", "(II)Z"⟩
abbrev cX6_hasColumns : ByteArray := prog_8_method_8_code
def yX6_hasColumns : MethodName := ⟨RX6, "hasColumns", "(II)Z"⟩
abbrev cX6_hasRows : ByteArray := prog_8_method_9_code
def yX6_hasRows : MethodName := ⟨RX6, "hasRows", "(II)Z"⟩
abbrev cX6_pictureOf : ByteArray := prog_8_method_10_code
def yX6_pictureOf : MethodName := ⟨RX6, "pictureOf", "(I)LTwoEyes$Picture;"⟩
abbrev cX6_placeOf : ByteArray := prog_8_method_11_code
def yX6_placeOf : MethodName := ⟨RX6, "placeOf", "(II)I"⟩
abbrev cX6_countSquares : ByteArray := prog_8_method_12_code
def yX6_countSquares : MethodName := ⟨RX6, "countSquares", "()I"⟩
abbrev cX6_seen : ByteArray := prog_8_method_13_code
def yX6_seen : MethodName := ⟨RX6, "seen", "(III)I"⟩
abbrev cX6_refusalToWrite : ByteArray := prog_8_method_14_code
def yX6_refusalToWrite : MethodName := ⟨RX6, "refusalToWrite", "(III)I"⟩
abbrev cX6_countLost : ByteArray := prog_8_method_15_code
def yX6_countLost : MethodName := ⟨RX6, "countLost", "(I)I"⟩
abbrev cX6_countTruths : ByteArray := prog_8_method_16_code
def yX6_countTruths : MethodName := ⟨RX6, "countTruths", "()I"⟩
abbrev cX6_anyMissing : ByteArray := prog_8_method_17_code
def yX6_anyMissing : MethodName := ⟨RX6, "anyMissing", "(II)Z"⟩
abbrev cX6_drawBoard : ByteArray := prog_8_method_18_code
def yX6_drawBoard : MethodName := ⟨RX6, "drawBoard", "(IIIIII)V"⟩
def RX7 : String := "TwoEyes$Segments"
def TX7 : u_T := fun k => match k with
  | 0 => ("TwoEyes$Segments", "anchor", "[I", true)
  | _ => ("TwoEyes$Segments", "fresh", "Z", false)
def tyX7 : Nat → FieldType := fun k => match k with
  | 0 => .array .int
  | _ => .boolean
abbrev wsX70 : List Cond := u_ws RX7 TX7 2
theorem nmX7 : ∀ a, a < 2 → ∀ b, b < 2 → a ≠ b → (TX7 a).2.1 ≠ (TX7 b).2.1 := by decide +kernel
theorem tyX7_ok : ∀ k, k < 2 → parseFieldDescriptor (TX7 k).2.2.1 = some (tyX7 k) := by decide +kernel
abbrev cX7_init : ByteArray := prog_9_method_1_code
def yX7_init : MethodName := ⟨RX7, "<init>", "()V"⟩
abbrev cX7_gather : ByteArray := prog_9_method_2_code
def yX7_gather : MethodName := ⟨RX7, "gather", "(LTwoEyes$Scene;I)V"⟩
abbrev cX7_hangs : ByteArray := prog_9_method_3_code
def yX7_hangs : MethodName := ⟨RX7, "hangs", "(III)Z"⟩
abbrev cX7_join : ByteArray := prog_9_method_4_code
def yX7_join : MethodName := ⟨RX7, "join", "(II)V"⟩
abbrev cX7_countAnchors : ByteArray := prog_9_method_5_code
def yX7_countAnchors : MethodName := ⟨RX7, "countAnchors", "(I)I"⟩
abbrev cX7_countOf : ByteArray := prog_9_method_6_code
def yX7_countOf : MethodName := ⟨RX7, "countOf", "(II)I"⟩
def RX8 : String := "TwoEyes$Stand"
def TX8 : u_T := fun k => match k with
  | 0 => ("TwoEyes$Stand", "known", "[I", true)
  | 1 => ("TwoEyes$Stand", "dark", "[I", true)
  | _ => ("TwoEyes$Stand", "lost", "[Z", true)
def tyX8 : Nat → FieldType := fun k => match k with
  | 0 => .array .int
  | 1 => .array .int
  | _ => .array .boolean
abbrev wsX80 : List Cond := u_ws RX8 TX8 3
theorem nmX8 : ∀ a, a < 3 → ∀ b, b < 3 → a ≠ b → (TX8 a).2.1 ≠ (TX8 b).2.1 := by decide +kernel
theorem tyX8_ok : ∀ k, k < 3 → parseFieldDescriptor (TX8 k).2.2.1 = some (tyX8 k) := by decide +kernel
abbrev cX8_init : ByteArray := prog_10_method_1_code
def yX8_init : MethodName := ⟨RX8, "<init>", "()V"⟩
abbrev cX8_lookAround : ByteArray := prog_10_method_2_code
def yX8_lookAround : MethodName := ⟨RX8, "lookAround", "(LTwoEyes$Scene;III)V"⟩
def RX9 : String := "TwoEyes$Sums"
def TX9 : u_T := fun k => match k with
  | 0 => ("TwoEyes$Sums", "votes", "[I", true)
  | 1 => ("TwoEyes$Sums", "runs", "[I", true)
  | 2 => ("TwoEyes$Sums", "least", "[I", true)
  | 3 => ("TwoEyes$Sums", "totals", "[I", true)
  | 4 => ("TwoEyes$Sums", "voted", "Z", false)
  | 5 => ("TwoEyes$Sums", "added", "Z", false)
  | _ => ("TwoEyes$Sums", "way", "I", false)
def tyX9 : Nat → FieldType := fun k => match k with
  | 0 => .array .int
  | 1 => .array .int
  | 2 => .array .int
  | 3 => .array .int
  | 4 => .boolean
  | 5 => .boolean
  | _ => .int
abbrev wsX90 : List Cond := u_ws RX9 TX9 7
theorem nmX9 : ∀ a, a < 7 → ∀ b, b < 7 → a ≠ b → (TX9 a).2.1 ≠ (TX9 b).2.1 := by decide +kernel
theorem tyX9_ok : ∀ k, k < 7 → parseFieldDescriptor (TX9 k).2.2.1 = some (tyX9 k) := by decide +kernel
abbrev cX9_init : ByteArray := prog_11_method_1_code
def yX9_init : MethodName := ⟨RX9, "<init>", "()V"⟩
abbrev cX9_forget : ByteArray := prog_11_method_2_code
def yX9_forget : MethodName := ⟨RX9, "forget", "()V"⟩
abbrev cX9_vote : ByteArray := prog_11_method_3_code
def yX9_vote : MethodName := ⟨RX9, "vote", "(LTwoEyes$Scene;LTwoEyes$Costs;I)V"⟩
abbrev cX9_voteOf : ByteArray := prog_11_method_4_code
def yX9_voteOf : MethodName := ⟨RX9, "voteOf", "(IIILTwoEyes$Costs;)I"⟩
abbrev cX9_addAll : ByteArray := prog_11_method_5_code
def yX9_addAll : MethodName := ⟨RX9, "addAll", "(LTwoEyes$Scene;LTwoEyes$Costs;[I)V"⟩
abbrev cX9_goAlong : ByteArray := prog_11_method_6_code
def yX9_goAlong : MethodName := ⟨RX9, "goAlong", "(ILTwoEyes$Scene;LTwoEyes$Costs;[I)V"⟩
abbrev cX9_start : ByteArray := prog_11_method_7_code
def yX9_start : MethodName := ⟨RX9, "start", "(II)V"⟩
abbrev cX9_goOn : ByteArray := prog_11_method_8_code
def yX9_goOn : MethodName := ⟨RX9, "goOn", "(II[I)V"⟩
abbrev cX9_leftDepth : ByteArray := prog_11_method_9_code
def yX9_leftDepth : MethodName := ⟨RX9, "leftDepth", "(II)I"⟩
abbrev cX9_rightDepth : ByteArray := prog_11_method_10_code
def yX9_rightDepth : MethodName := ⟨RX9, "rightDepth", "(II)I"⟩
def RX10 : String := "TwoEyes"
def TX10 : u_T := fun k => match k with
  | 0 => ("TwoEyes", "scene", "LTwoEyes$Scene;", true)
  | 1 => ("TwoEyes", "kept", "LTwoEyes$Scene;", true)
  | 2 => ("TwoEyes", "anyKept", "Z", false)
  | 3 => ("TwoEyes", "rules", "[I", true)
  | 4 => ("TwoEyes", "costs", "LTwoEyes$Costs;", true)
  | 5 => ("TwoEyes", "paths", "LTwoEyes$Paths;", true)
  | 6 => ("TwoEyes", "sums", "LTwoEyes$Sums;", true)
  | 7 => ("TwoEyes", "depths", "LTwoEyes$Depths;", true)
  | 8 => ("TwoEyes", "segments", "LTwoEyes$Segments;", true)
  | 9 => ("TwoEyes", "planes", "LTwoEyes$Planes;", true)
  | _ => ("TwoEyes", "body", "LTwoEyes$Body;", true)
def tyX10 : Nat → FieldType := fun k => match k with
  | 0 => .object "TwoEyes$Scene"
  | 1 => .object "TwoEyes$Scene"
  | 2 => .boolean
  | 3 => .array .int
  | 4 => .object "TwoEyes$Costs"
  | 5 => .object "TwoEyes$Paths"
  | 6 => .object "TwoEyes$Sums"
  | 7 => .object "TwoEyes$Depths"
  | 8 => .object "TwoEyes$Segments"
  | 9 => .object "TwoEyes$Planes"
  | _ => .object "TwoEyes$Body"
abbrev wsX100 : List Cond := u_ws RX10 TX10 11
theorem nmX10 : ∀ a, a < 11 → ∀ b, b < 11 → a ≠ b → (TX10 a).2.1 ≠ (TX10 b).2.1 := by decide +kernel
theorem tyX10_ok : ∀ k, k < 11 → parseFieldDescriptor (TX10 k).2.2.1 = some (tyX10 k) := by decide +kernel
abbrev cX10_init : ByteArray := prog_1_method_1_code
def yX10_init : MethodName := ⟨RX10, "<init>", "()V"⟩
abbrev cX10_size : ByteArray := prog_1_method_2_code
def yX10_size : MethodName := ⟨RX10, "size", "(II)I"⟩
abbrev cX10_shade : ByteArray := prog_1_method_3_code
def yX10_shade : MethodName := ⟨RX10, "shade", "(IIII)I"⟩
abbrev cX10_lose : ByteArray := prog_1_method_4_code
def yX10_lose : MethodName := ⟨RX10, "lose", "(III)I"⟩
abbrev cX10_row : ByteArray := prog_1_method_5_code
def yX10_row : MethodName := ⟨RX10, "row", "(IIZ)I"⟩
abbrev cX10_copy : ByteArray := prog_1_method_6_code
def yX10_copy : MethodName := ⟨RX10, "copy", "(IIIIIII)I"⟩
abbrev cX10_told : ByteArray := prog_1_method_7_code
def yX10_told : MethodName := ⟨RX10, "told", "(III)I"⟩
abbrev cX10_rule : ByteArray := prog_1_method_8_code
def yX10_rule : MethodName := ⟨RX10, "rule", "(II)I"⟩
abbrev cX10_many : ByteArray := prog_1_method_9_code
def yX10_many : MethodName := ⟨RX10, "many", "(I)I"⟩
abbrev cX10_cost : ByteArray := prog_1_method_10_code
def yX10_cost : MethodName := ⟨RX10, "cost", "(III)I"⟩
abbrev cX10_path : ByteArray := prog_1_method_11_code
def yX10_path : MethodName := ⟨RX10, "path", "(I)I"⟩
abbrev cX10_matched : ByteArray := prog_1_method_12_code
def yX10_matched : MethodName := ⟨RX10, "matched", "(II)I"⟩
abbrev cX10_hidden : ByteArray := prog_1_method_13_code
def yX10_hidden : MethodName := ⟨RX10, "hidden", "(II)I"⟩
abbrev cX10_run : ByteArray := prog_1_method_14_code
def yX10_run : MethodName := ⟨RX10, "run", "(IIII)I"⟩
abbrev cX10_sum : ByteArray := prog_1_method_15_code
def yX10_sum : MethodName := ⟨RX10, "sum", "(III)I"⟩
abbrev cX10_depth : ByteArray := prog_1_method_16_code
def yX10_depth : MethodName := ⟨RX10, "depth", "(III)I"⟩
abbrev cX10_agreed : ByteArray := prog_1_method_17_code
def yX10_agreed : MethodName := ⟨RX10, "agreed", "(II)I"⟩
abbrev cX10_segment : ByteArray := prog_1_method_18_code
def yX10_segment : MethodName := ⟨RX10, "segment", "(II)I"⟩
abbrev cX10_extent : ByteArray := prog_1_method_19_code
def yX10_extent : MethodName := ⟨RX10, "extent", "(II)I"⟩
abbrev cX10_plane : ByteArray := prog_1_method_20_code
def yX10_plane : MethodName := ⟨RX10, "plane", "(III)I"⟩
abbrev cX10_view : ByteArray := prog_1_method_21_code
def yX10_view : MethodName := ⟨RX10, "view", "(III)I"⟩
abbrev cX10_holes : ByteArray := prog_1_method_22_code
def yX10_holes : MethodName := ⟨RX10, "holes", "(I)I"⟩
abbrev cX10_draw : ByteArray := prog_1_method_23_code
def yX10_draw : MethodName := ⟨RX10, "draw", "(IIIIII)I"⟩
abbrev cX10_truth : ByteArray := prog_1_method_24_code
def yX10_truth : MethodName := ⟨RX10, "truth", "(II)I"⟩
abbrev cX10_score : ByteArray := prog_1_method_25_code
def yX10_score : MethodName := ⟨RX10, "score", "(I)I"⟩
abbrev cX10_outline : ByteArray := prog_1_method_26_code
def yX10_outline : MethodName := ⟨RX10, "outline", "(III)I"⟩
abbrev cX10_cube : ByteArray := prog_1_method_27_code
def yX10_cube : MethodName := ⟨RX10, "cube", "(III)Z"⟩
abbrev cX10_empty : ByteArray := prog_1_method_28_code
def yX10_empty : MethodName := ⟨RX10, "empty", "(I)I"⟩
abbrev cX10_keep : ByteArray := prog_1_method_29_code
def yX10_keep : MethodName := ⟨RX10, "keep", "()I"⟩
abbrev cX10_back : ByteArray := prog_1_method_30_code
def yX10_back : MethodName := ⟨RX10, "back", "()I"⟩
abbrev cX10_forgetAll : ByteArray := prog_1_method_31_code
def yX10_forgetAll : MethodName := ⟨RX10, "forgetAll", "()V"⟩
abbrev cX10_refreshCosts : ByteArray := prog_1_method_32_code
def yX10_refreshCosts : MethodName := ⟨RX10, "refreshCosts", "()V"⟩
abbrev cX10_refreshPath : ByteArray := prog_1_method_33_code
def yX10_refreshPath : MethodName := ⟨RX10, "refreshPath", "(I)V"⟩
abbrev cX10_refreshSums : ByteArray := prog_1_method_34_code
def yX10_refreshSums : MethodName := ⟨RX10, "refreshSums", "()V"⟩
abbrev cX10_refreshDepths : ByteArray := prog_1_method_35_code
def yX10_refreshDepths : MethodName := ⟨RX10, "refreshDepths", "()V"⟩
abbrev cX10_refreshSegments : ByteArray := prog_1_method_36_code
def yX10_refreshSegments : MethodName := ⟨RX10, "refreshSegments", "()V"⟩
abbrev cX10_isDepth : ByteArray := prog_1_method_37_code
def yX10_isDepth : MethodName := ⟨RX10, "isDepth", "(I)Z"⟩
abbrev cX10_countMatchedByTruth : ByteArray := prog_1_method_38_code
def yX10_countMatchedByTruth : MethodName := ⟨RX10, "countMatchedByTruth", "()I"⟩
abbrev cX10_verdict : ByteArray := prog_1_method_39_code
def yX10_verdict : MethodName := ⟨RX10, "verdict", "(II)I"⟩
def RX11 : String := "TwoEyesModel"
def TX11 : u_T := fun k => match k with
  | 0 => ("TwoEyesModel", "width", "I", false)
  | 1 => ("TwoEyesModel", "height", "I", false)
  | 2 => ("TwoEyesModel", "shades", "[I", true)
  | 3 => ("TwoEyesModel", "isGone", "[Z", true)
  | 4 => ("TwoEyesModel", "isRowGone", "[Z", true)
  | 5 => ("TwoEyesModel", "truths", "[I", true)
  | 6 => ("TwoEyesModel", "rules", "[I", true)
  | 7 => ("TwoEyesModel", "outlines", "[I", true)
  | 8 => ("TwoEyesModel", "isKept", "Z", false)
  | 9 => ("TwoEyesModel", "keptWidth", "I", false)
  | 10 => ("TwoEyesModel", "keptHeight", "I", false)
  | 11 => ("TwoEyesModel", "keptShades", "[I", true)
  | 12 => ("TwoEyesModel", "keptGone", "[Z", true)
  | 13 => ("TwoEyesModel", "keptRowGone", "[Z", true)
  | 14 => ("TwoEyesModel", "keptTruths", "[I", true)
  | 15 => ("TwoEyesModel", "isReckoned", "Z", false)
  | 16 => ("TwoEyesModel", "costs", "[I", true)
  | 17 => ("TwoEyesModel", "runs", "[I", true)
  | 18 => ("TwoEyesModel", "sums", "[I", true)
  | 19 => ("TwoEyesModel", "leftDepth", "[I", true)
  | 20 => ("TwoEyesModel", "rightDepth", "[I", true)
  | 21 => ("TwoEyesModel", "anchorOf", "[I", true)
  | 22 => ("TwoEyesModel", "toPay", "[I", true)
  | 23 => ("TwoEyesModel", "matchOf", "[I", true)
  | 24 => ("TwoEyesModel", "hiddenLeft", "I", false)
  | _ => ("TwoEyesModel", "hiddenRight", "I", false)
def tyX11 : Nat → FieldType := fun k => match k with
  | 0 => .int
  | 1 => .int
  | 2 => .array .int
  | 3 => .array .boolean
  | 4 => .array .boolean
  | 5 => .array .int
  | 6 => .array .int
  | 7 => .array .int
  | 8 => .boolean
  | 9 => .int
  | 10 => .int
  | 11 => .array .int
  | 12 => .array .boolean
  | 13 => .array .boolean
  | 14 => .array .int
  | 15 => .boolean
  | 16 => .array .int
  | 17 => .array .int
  | 18 => .array .int
  | 19 => .array .int
  | 20 => .array .int
  | 21 => .array .int
  | 22 => .array .int
  | 23 => .array .int
  | 24 => .int
  | _ => .int
abbrev wsX110 : List Cond := u_ws RX11 TX11 26
theorem nmX11 : ∀ a, a < 26 → ∀ b, b < 26 → a ≠ b → (TX11 a).2.1 ≠ (TX11 b).2.1 := by decide +kernel
theorem tyX11_ok : ∀ k, k < 26 → parseFieldDescriptor (TX11 k).2.2.1 = some (tyX11 k) := by decide +kernel
abbrev cX11_init : ByteArray := prog_13_method_1_code
def yX11_init : MethodName := ⟨RX11, "<init>", "()V"⟩
abbrev cX11_in : ByteArray := prog_13_method_2_code
def yX11_in : MethodName := ⟨RX11, "in", "(III)Z"⟩
abbrev cX11_blank : ByteArray := prog_13_method_3_code
def yX11_blank : MethodName := ⟨RX11, "blank", "(II)V"⟩
abbrev cX11_isRow : ByteArray := prog_13_method_4_code
def yX11_isRow : MethodName := ⟨RX11, "isRow", "(II)Z"⟩
abbrev cX11_isSquare : ByteArray := prog_13_method_5_code
def yX11_isSquare : MethodName := ⟨RX11, "isSquare", "(II)Z"⟩
abbrev cX11_at : ByteArray := prog_13_method_6_code
def yX11_at : MethodName := ⟨RX11, "at", "(III)I"⟩
abbrev cX11_isLost : ByteArray := prog_13_method_7_code
def yX11_isLost : MethodName := ⟨RX11, "isLost", "(III)Z"⟩
abbrev cX11_size : ByteArray := prog_13_method_8_code
def yX11_size : MethodName := ⟨RX11, "size", "(II)I"⟩
abbrev cX11_refuse : ByteArray := prog_13_method_9_code
def yX11_refuse : MethodName := ⟨RX11, "refuse", "(III)I"⟩
abbrev cX11_shade : ByteArray := prog_13_method_10_code
def yX11_shade : MethodName := ⟨RX11, "shade", "(IIII)I"⟩
abbrev cX11_lose : ByteArray := prog_13_method_11_code
def yX11_lose : MethodName := ⟨RX11, "lose", "(III)I"⟩
abbrev cX11_row : ByteArray := prog_13_method_12_code
def yX11_row : MethodName := ⟨RX11, "row", "(IIZ)I"⟩
abbrev cX11_copy : ByteArray := prog_13_method_13_code
def yX11_copy : MethodName := ⟨RX11, "copy", "(IIIIIII)I"⟩
abbrev cX11_told : ByteArray := prog_13_method_14_code
def yX11_told : MethodName := ⟨RX11, "told", "(III)I"⟩
abbrev cX11_rule : ByteArray := prog_13_method_15_code
def yX11_rule : MethodName := ⟨RX11, "rule", "(II)I"⟩
abbrev cX11_lostMany : ByteArray := prog_13_method_16_code
def yX11_lostMany : MethodName := ⟨RX11, "lostMany", "(I)I"⟩
abbrev cX11_toldMany : ByteArray := prog_13_method_17_code
def yX11_toldMany : MethodName := ⟨RX11, "toldMany", "()I"⟩
abbrev cX11_anchors : ByteArray := prog_13_method_18_code
def yX11_anchors : MethodName := ⟨RX11, "anchors", "()I"⟩
abbrev cX11_truthMany : ByteArray := prog_13_method_19_code
def yX11_truthMany : MethodName := ⟨RX11, "truthMany", "()I"⟩
abbrev cX11_many : ByteArray := prog_13_method_20_code
def yX11_many : MethodName := ⟨RX11, "many", "(I)I"⟩
abbrev cX11_acrossOf : ByteArray := prog_13_method_21_code
def yX11_acrossOf : MethodName := ⟨RX11, "acrossOf", "(I)I"⟩
abbrev cX11_downOf : ByteArray := prog_13_method_22_code
def yX11_downOf : MethodName := ⟨RX11, "downOf", "(I)I"⟩
abbrev cX11_isKnown : ByteArray := prog_13_method_23_code
def yX11_isKnown : MethodName := ⟨RX11, "isKnown", "(III)Z"⟩
abbrev cX11_costAt : ByteArray := prog_13_method_24_code
def yX11_costAt : MethodName := ⟨RX11, "costAt", "(III)I"⟩
abbrev cX11_reckon : ByteArray := prog_13_method_25_code
def yX11_reckon : MethodName := ⟨RX11, "reckon", "()V"⟩
abbrev cX11_voteAt : ByteArray := prog_13_method_26_code
def yX11_voteAt : MethodName := ⟨RX11, "voteAt", "(III)I"⟩
abbrev cX11_layRuns : ByteArray := prog_13_method_27_code
def yX11_layRuns : MethodName := ⟨RX11, "layRuns", "(I)V"⟩
abbrev cX11_goesOn : ByteArray := prog_13_method_28_code
def yX11_goesOn : MethodName := ⟨RX11, "goesOn", "(III)I"⟩
abbrev cX11_layDepths : ByteArray := prog_13_method_29_code
def yX11_layDepths : MethodName := ⟨RX11, "layDepths", "(II)V"⟩
abbrev cX11_agreedAt : ByteArray := prog_13_method_30_code
def yX11_agreedAt : MethodName := ⟨RX11, "agreedAt", "(II)I"⟩
abbrev cX11_isDeep : ByteArray := prog_13_method_31_code
def yX11_isDeep : MethodName := ⟨RX11, "isDeep", "(III)Z"⟩
abbrev cX11_cost : ByteArray := prog_13_method_32_code
def yX11_cost : MethodName := ⟨RX11, "cost", "(III)I"⟩
abbrev cX11_payMatch : ByteArray := prog_13_method_33_code
def yX11_payMatch : MethodName := ⟨RX11, "payMatch", "(III)I"⟩
abbrev cX11_layPath : ByteArray := prog_13_method_34_code
def yX11_layPath : MethodName := ⟨RX11, "layPath", "(I)V"⟩
abbrev cX11_goPath : ByteArray := prog_13_method_35_code
def yX11_goPath : MethodName := ⟨RX11, "goPath", "(I)V"⟩
abbrev cX11_path : ByteArray := prog_13_method_36_code
def yX11_path : MethodName := ⟨RX11, "path", "(I)I"⟩
abbrev cX11_matched : ByteArray := prog_13_method_37_code
def yX11_matched : MethodName := ⟨RX11, "matched", "(II)I"⟩
abbrev cX11_hidden : ByteArray := prog_13_method_38_code
def yX11_hidden : MethodName := ⟨RX11, "hidden", "(II)I"⟩
abbrev cX11_run : ByteArray := prog_13_method_39_code
def yX11_run : MethodName := ⟨RX11, "run", "(IIII)I"⟩
abbrev cX11_sum : ByteArray := prog_13_method_40_code
def yX11_sum : MethodName := ⟨RX11, "sum", "(III)I"⟩
abbrev cX11_depth : ByteArray := prog_13_method_41_code
def yX11_depth : MethodName := ⟨RX11, "depth", "(III)I"⟩
abbrev cX11_agreed : ByteArray := prog_13_method_42_code
def yX11_agreed : MethodName := ⟨RX11, "agreed", "(II)I"⟩
abbrev cX11_hang : ByteArray := prog_13_method_43_code
def yX11_hang : MethodName := ⟨RX11, "hang", "(II)Z"⟩
abbrev cX11_bringTogether : ByteArray := prog_13_method_44_code
def yX11_bringTogether : MethodName := ⟨RX11, "bringTogether", "(II)Z"⟩
abbrev cX11_layAnchors : ByteArray := prog_13_method_45_code
def yX11_layAnchors : MethodName := ⟨RX11, "layAnchors", "()V"⟩
abbrev cX11_segment : ByteArray := prog_13_method_46_code
def yX11_segment : MethodName := ⟨RX11, "segment", "(II)I"⟩
abbrev cX11_extent : ByteArray := prog_13_method_47_code
def yX11_extent : MethodName := ⟨RX11, "extent", "(II)I"⟩
abbrev cX11_half : ByteArray := prog_13_method_48_code
def yX11_half : MethodName := ⟨RX11, "half", "(I)I"⟩
abbrev cX11_planeDepth : ByteArray := prog_13_method_49_code
def yX11_planeDepth : MethodName := ⟨RX11, "planeDepth", "(IIIII)I"⟩
abbrev cX11_planeCost : ByteArray := prog_13_method_50_code
def yX11_planeCost : MethodName := ⟨RX11, "planeCost", "(IIII)I"⟩
abbrev cX11_plane : ByteArray := prog_13_method_51_code
def yX11_plane : MethodName := ⟨RX11, "plane", "(III)I"⟩
abbrev cX11_seen : ByteArray := prog_13_method_52_code
def yX11_seen : MethodName := ⟨RX11, "seen", "(III)I"⟩
abbrev cX11_view : ByteArray := prog_13_method_53_code
def yX11_view : MethodName := ⟨RX11, "view", "(III)I"⟩
abbrev cX11_holes : ByteArray := prog_13_method_54_code
def yX11_holes : MethodName := ⟨RX11, "holes", "(I)I"⟩
abbrev cX11_draw : ByteArray := prog_13_method_55_code
def yX11_draw : MethodName := ⟨RX11, "draw", "(IIIIII)I"⟩
abbrev cX11_truth : ByteArray := prog_13_method_56_code
def yX11_truth : MethodName := ⟨RX11, "truth", "(II)I"⟩
abbrev cX11_scoreOf : ByteArray := prog_13_method_57_code
def yX11_scoreOf : MethodName := ⟨RX11, "scoreOf", "(III)I"⟩
abbrev cX11_score : ByteArray := prog_13_method_58_code
def yX11_score : MethodName := ⟨RX11, "score", "(I)I"⟩
abbrev cX11_isCube : ByteArray := prog_13_method_59_code
def yX11_isCube : MethodName := ⟨RX11, "isCube", "(III)Z"⟩
abbrev cX11_cubes : ByteArray := prog_13_method_60_code
def yX11_cubes : MethodName := ⟨RX11, "cubes", "()I"⟩
abbrev cX11_outline : ByteArray := prog_13_method_61_code
def yX11_outline : MethodName := ⟨RX11, "outline", "(III)I"⟩
abbrev cX11_cube : ByteArray := prog_13_method_62_code
def yX11_cube : MethodName := ⟨RX11, "cube", "(III)Z"⟩
abbrev cX11_hasCube : ByteArray := prog_13_method_63_code
def yX11_hasCube : MethodName := ⟨RX11, "hasCube", "(III)Z"⟩
abbrev cX11_empty : ByteArray := prog_13_method_64_code
def yX11_empty : MethodName := ⟨RX11, "empty", "(I)I"⟩
abbrev cX11_keep : ByteArray := prog_13_method_65_code
def yX11_keep : MethodName := ⟨RX11, "keep", "()I"⟩
abbrev cX11_back : ByteArray := prog_13_method_66_code
def yX11_back : MethodName := ⟨RX11, "back", "()I"⟩
def RJ6 : String := "java/lang/Integer"
def TJ6 : u_T := fun k => match k with
  | _ => ("", "", "", false)
def tyJ6 : Nat → FieldType := fun k => match k with
  | _ => .int
abbrev wsJ60 : List Cond := u_ws RJ6 TJ6 0
theorem nmJ6 : ∀ a, a < 0 → ∀ b, b < 0 → a ≠ b → (TJ6 a).2.1 ≠ (TJ6 b).2.1 := by decide +kernel
theorem tyJ6_ok : ∀ k, k < 0 → parseFieldDescriptor (TJ6 k).2.2.1 = some (tyJ6 k) := by decide +kernel
abbrev cJ6_bitCount_0f7a4 : ByteArray := prog_14_method_49_code
def yJ6_bitCount_0f7a4 : MethodName := ⟨RJ6, "bitCount", "(I)I"⟩
def RJ9 : String := "java/lang/Math"
def TJ9 : u_T := fun k => match k with
  | _ => ("", "", "", false)
def tyJ9 : Nat → FieldType := fun k => match k with
  | _ => .int
abbrev wsJ90 : List Cond := u_ws RJ9 TJ9 0
theorem nmJ9 : ∀ a, a < 0 → ∀ b, b < 0 → a ≠ b → (TJ9 a).2.1 ≠ (TJ9 b).2.1 := by decide +kernel
theorem tyJ9_ok : ∀ k, k < 0 → parseFieldDescriptor (TJ9 k).2.2.1 = some (tyJ9 k) := by decide +kernel
abbrev cJ9_abs_0f7a4 : ByteArray := prog_15_method_59_code
def yJ9_abs_0f7a4 : MethodName := ⟨RJ9, "abs", "(I)I"⟩
abbrev cJ9_max_7cf53 : ByteArray := prog_15_method_65_code
def yJ9_max_7cf53 : MethodName := ⟨RJ9, "max", "(II)I"⟩
abbrev cJ9_min_7cf53 : ByteArray := prog_15_method_69_code
def yJ9_min_7cf53 : MethodName := ⟨RJ9, "min", "(II)I"⟩
def RJ10 : String := "java/lang/System"
def TJ10 : u_T := fun k => match k with
  | _ => ("", "", "", false)
def tyJ10 : Nat → FieldType := fun k => match k with
  | _ => .int
abbrev wsJ100 : List Cond := u_ws RJ10 TJ10 0
theorem nmJ10 : ∀ a, a < 0 → ∀ b, b < 0 → a ≠ b → (TJ10 a).2.1 ≠ (TJ10 b).2.1 := by decide +kernel
theorem tyJ10_ok : ∀ k, k < 0 → parseFieldDescriptor (TJ10 k).2.2.1 = some (tyJ10 k) := by decide +kernel
def RJ7 : String := "java/util/Arrays"
def TJ7 : u_T := fun k => match k with
  | _ => ("", "", "", false)
def tyJ7 : Nat → FieldType := fun k => match k with
  | _ => .int
abbrev wsJ70 : List Cond := u_ws RJ7 TJ7 0
theorem nmJ7 : ∀ a, a < 0 → ∀ b, b < 0 → a ≠ b → (TJ7 a).2.1 ≠ (TJ7 b).2.1 := by decide +kernel
theorem tyJ7_ok : ∀ k, k < 0 → parseFieldDescriptor (TJ7 k).2.2.1 = some (tyJ7 k) := by decide +kernel
abbrev cJ7_fill_53178 : ByteArray := prog_17_method_103_code
def yJ7_fill_53178 : MethodName := ⟨RJ7, "fill", "([II)V"⟩
def RL : String := "TwoEyesLaw"
abbrev cL_law : ByteArray := code
def yL_law : MethodName := ⟨RL, "law", "([I)Z"⟩
def wsL_law_r1 : List Cond := [Cond.classLink RL 7 RX10, Cond.instantiable RX10 11, Cond.initialized RX10, Cond.classLink RL 10 RX11, Cond.instantiable RX11 26, Cond.initialized RX11, Cond.methodLink RL 9 yX10_init, Cond.instanceMethod yX10_init, Cond.code yX10_init cX10_init 1 none, Cond.methodLink RX10 1 objectInit, Cond.instanceMethod objectInit, Cond.code objectInit ⟨#[0xb1]⟩ 1 none, Cond.classLink RX10 7 RX6, Cond.instantiable RX6 5, Cond.initialized RX6, Cond.fieldLink RX10 10 "TwoEyes" "scene" "LTwoEyes$Scene;", Cond.fieldLink RX10 16 "TwoEyes" "kept" "LTwoEyes$Scene;", Cond.fieldLink RX10 19 "TwoEyes" "anyKept" "Z", Cond.arrayClass .int, Cond.fieldLink RX10 23 "TwoEyes" "rules" "[I", Cond.classLink RX10 27 RX1, Cond.instantiable RX1 4, Cond.initialized RX1, Cond.fieldLink RX10 30 "TwoEyes" "costs" "LTwoEyes$Costs;"]
def wsL_law_r2 : List Cond := [Cond.classLink RX10 34 RX3, Cond.instantiable RX3 3, Cond.initialized RX3, Cond.fieldLink RX10 37 "TwoEyes" "paths" "LTwoEyes$Paths;", Cond.classLink RX10 41 RX9, Cond.instantiable RX9 7, Cond.initialized RX9, Cond.fieldLink RX10 44 "TwoEyes" "sums" "LTwoEyes$Sums;", Cond.classLink RX10 48 RX2, Cond.instantiable RX2 2, Cond.initialized RX2, Cond.fieldLink RX10 51 "TwoEyes" "depths" "LTwoEyes$Depths;", Cond.classLink RX10 55 RX7, Cond.instantiable RX7 2, Cond.initialized RX7, Cond.fieldLink RX10 58 "TwoEyes" "segments" "LTwoEyes$Segments;", Cond.classLink RX10 62 RX5, Cond.instantiable RX5 11, Cond.initialized RX5, Cond.fieldLink RX10 65 "TwoEyes" "planes" "LTwoEyes$Planes;", Cond.classLink RX10 69 RX0, Cond.instantiable RX0 1, Cond.initialized RX0, Cond.fieldLink RX10 72 "TwoEyes" "body" "LTwoEyes$Body;"]
def wsL_law_r3 : List Cond := [Cond.methodLink RX10 9 yX6_init, Cond.instanceMethod yX6_init, Cond.code yX6_init cX6_init 1 none, Cond.methodLink RX6 3 objectInit, Cond.fieldLink RX6 9 "TwoEyes$Scene" "width" "I", Cond.fieldLink RX6 15 "TwoEyes$Scene" "height" "I", Cond.classLink RX6 18 RX4, Cond.instantiable RX4 2, Cond.initialized RX4, Cond.fieldLink RX6 21 "TwoEyes$Scene" "left" "LTwoEyes$Picture;", Cond.fieldLink RX6 25 "TwoEyes$Scene" "right" "LTwoEyes$Picture;", Cond.fieldLink RX6 28 "TwoEyes$Scene" "truth" "[I", Cond.instanceMethod yX4_init, Cond.code yX4_init cX4_init 1 none, Cond.methodLink RX4 3 objectInit, Cond.fieldLink RX4 9 "TwoEyes$Picture" "squares" "[I", Cond.arrayClass .boolean, Cond.fieldLink RX4 15 "TwoEyes$Picture" "missing" "[Z", Cond.methodLink RX6 32 yJ7_fill_53178, Cond.static yJ7_fill_53178, Cond.initialized RJ7, Cond.code yJ7_fill_53178 cJ7_fill_53178 4 none, Cond.instanceMethod yX1_init, Cond.code yX1_init cX1_init 1 none]
def wsL_law_r4 : List Cond := [Cond.methodLink RX1 3 objectInit, Cond.classLink RX1 9 RX8, Cond.instantiable RX8 3, Cond.initialized RX8, Cond.fieldLink RX1 12 "TwoEyes$Costs" "left" "LTwoEyes$Stand;", Cond.fieldLink RX1 18 "TwoEyes$Costs" "right" "LTwoEyes$Stand;", Cond.fieldLink RX1 21 "TwoEyes$Costs" "table" "[I", Cond.fieldLink RX1 25 "TwoEyes$Costs" "fresh" "Z", Cond.instanceMethod yX8_init, Cond.code yX8_init cX8_init 1 none, Cond.methodLink RX8 3 objectInit, Cond.fieldLink RX8 9 "TwoEyes$Stand" "known" "[I", Cond.fieldLink RX8 15 "TwoEyes$Stand" "dark" "[I", Cond.fieldLink RX8 18 "TwoEyes$Stand" "lost" "[Z", Cond.methodLink RX10 36 yX3_init, Cond.instanceMethod yX3_init, Cond.code yX3_init cX3_init 1 none, Cond.methodLink RX3 3 objectInit, Cond.fieldLink RX3 11 "TwoEyes$Paths" "rest" "[I", Cond.fieldLink RX3 15 "TwoEyes$Paths" "match" "[I", Cond.fieldLink RX3 18 "TwoEyes$Paths" "total" "[I", Cond.methodLink RX3 21 yJ7_fill_53178, Cond.instanceMethod yX9_init, Cond.code yX9_init cX9_init 1 none]
def wsL_law_r5 : List Cond := [Cond.methodLink RX9 3 objectInit, Cond.fieldLink RX9 9 "TwoEyes$Sums" "votes" "[I", Cond.fieldLink RX9 15 "TwoEyes$Sums" "runs" "[I", Cond.fieldLink RX9 18 "TwoEyes$Sums" "least" "[I", Cond.fieldLink RX9 21 "TwoEyes$Sums" "totals" "[I", Cond.fieldLink RX9 24 "TwoEyes$Sums" "voted" "Z", Cond.fieldLink RX9 28 "TwoEyes$Sums" "added" "Z", Cond.fieldLink RX9 31 "TwoEyes$Sums" "way" "I", Cond.instanceMethod yX2_init, Cond.code yX2_init cX2_init 1 none, Cond.methodLink RX2 3 objectInit, Cond.fieldLink RX2 9 "TwoEyes$Depths" "told" "[I", Cond.fieldLink RX2 15 "TwoEyes$Depths" "fresh" "Z", Cond.instanceMethod yX7_init, Cond.code yX7_init cX7_init 1 none, Cond.methodLink RX7 3 objectInit, Cond.fieldLink RX7 9 "TwoEyes$Segments" "anchor" "[I", Cond.fieldLink RX7 15 "TwoEyes$Segments" "fresh" "Z", Cond.instanceMethod yX5_init, Cond.code yX5_init cX5_init 1 none, Cond.methodLink RX5 3 objectInit, Cond.fieldLink RX5 9 "TwoEyes$Planes" "anchor" "I", Cond.fieldLink RX5 15 "TwoEyes$Planes" "b" "I", Cond.fieldLink RX5 18 "TwoEyes$Planes" "a" "I"]
def wsL_law_r6 : List Cond := [Cond.fieldLink RX5 21 "TwoEyes$Planes" "c" "I", Cond.fieldLink RX5 24 "TwoEyes$Planes" "price" "I", Cond.fieldLink RX5 27 "TwoEyes$Planes" "anchorX" "I", Cond.fieldLink RX5 30 "TwoEyes$Planes" "anchorY" "I", Cond.fieldLink RX5 33 "TwoEyes$Planes" "places" "[I", Cond.fieldLink RX5 37 "TwoEyes$Planes" "aside" "[I", Cond.fieldLink RX5 40 "TwoEyes$Planes" "down" "[I", Cond.fieldLink RX5 43 "TwoEyes$Planes" "members" "I", Cond.methodLink RX10 71 yX0_init, Cond.instanceMethod yX0_init, Cond.code yX0_init cX0_init 1 none, Cond.methodLink RX0 1 objectInit, Cond.fieldLink RX0 9 "TwoEyes$Body" "rows" "[I", Cond.methodLink RX0 13 yJ7_fill_53178, Cond.methodLink RL 12 yX11_init, Cond.instanceMethod yX11_init, Cond.code yX11_init cX11_init 2 none, Cond.methodLink RX11 1 objectInit, Cond.fieldLink RX11 7 "TwoEyesModel" "width" "I", Cond.fieldLink RX11 13 "TwoEyesModel" "height" "I", Cond.fieldLink RX11 16 "TwoEyesModel" "shades" "[I", Cond.fieldLink RX11 20 "TwoEyesModel" "isGone" "[Z", Cond.fieldLink RX11 24 "TwoEyesModel" "isRowGone" "[Z", Cond.fieldLink RX11 27 "TwoEyesModel" "truths" "[I"]
def wsL_law_r7 : List Cond := [Cond.fieldLink RX11 30 "TwoEyesModel" "rules" "[I", Cond.fieldLink RX11 33 "TwoEyesModel" "outlines" "[I", Cond.fieldLink RX11 36 "TwoEyesModel" "keptShades" "[I", Cond.fieldLink RX11 39 "TwoEyesModel" "keptGone" "[Z", Cond.fieldLink RX11 42 "TwoEyesModel" "keptRowGone" "[Z", Cond.fieldLink RX11 45 "TwoEyesModel" "keptTruths" "[I", Cond.fieldLink RX11 48 "TwoEyesModel" "costs" "[I", Cond.fieldLink RX11 51 "TwoEyesModel" "runs" "[I", Cond.fieldLink RX11 54 "TwoEyesModel" "sums" "[I", Cond.fieldLink RX11 57 "TwoEyesModel" "leftDepth" "[I", Cond.fieldLink RX11 60 "TwoEyesModel" "rightDepth" "[I", Cond.fieldLink RX11 63 "TwoEyesModel" "anchorOf" "[I", Cond.fieldLink RX11 66 "TwoEyesModel" "toPay" "[I", Cond.fieldLink RX11 69 "TwoEyesModel" "matchOf" "[I", Cond.methodLink RX11 72 yX11_blank, Cond.instanceMethod yX11_blank, Cond.selects RX11 yX11_blank yX11_blank, Cond.code yX11_blank cX11_blank 4 none, Cond.fieldLink RX11 76 "TwoEyesModel" "isReckoned" "Z", Cond.methodLink RL 13 yX10_size, Cond.instanceMethod yX10_size, Cond.selects RX10 yX10_size yX10_size, Cond.code yX10_size cX10_size 3 (some .int), Cond.methodLink RX10 76 yX6_renew]
def wsL_law_r8 : List Cond := [Cond.instanceMethod yX6_renew, Cond.selects RX6 yX6_renew yX6_renew, Cond.code yX6_renew cX6_renew 3 none, Cond.methodLink RX6 38 yX4_clear, Cond.instanceMethod yX4_clear, Cond.selects RX4 yX4_clear yX4_clear, Cond.code yX4_clear cX4_clear 2 none, Cond.methodLink RX4 19 yJ7_fill_53178, Cond.methodLink RX10 80 yX10_forgetAll, Cond.instanceMethod yX10_forgetAll, Cond.selects RX10 yX10_forgetAll yX10_forgetAll, Cond.code yX10_forgetAll cX10_forgetAll 1 none, Cond.fieldLink RX10 280 "TwoEyes$Costs" "fresh" "Z", Cond.fieldLink RX10 287 "TwoEyes$Depths" "fresh" "Z", Cond.fieldLink RX10 288 "TwoEyes$Segments" "fresh" "Z", Cond.fieldLink RX10 289 "TwoEyes$Planes" "anchor" "I", Cond.methodLink RX10 283 yX3_forget, Cond.instanceMethod yX3_forget, Cond.selects RX3 yX3_forget yX3_forget, Cond.code yX3_forget cX3_forget 1 none, Cond.methodLink RX10 286 yX9_forget, Cond.instanceMethod yX9_forget, Cond.selects RX9 yX9_forget yX9_forget, Cond.code yX9_forget cX9_forget 1 none]
def wsL_law_r9 : List Cond := [Cond.methodLink RL 17 yX11_size, Cond.instanceMethod yX11_size, Cond.selects RX11 yX11_size yX11_size, Cond.code yX11_size cX11_size 3 (some .int), Cond.methodLink RX11 80 yX11_in, Cond.static yX11_in, Cond.code yX11_in cX11_in 3 (some .boolean), Cond.methodLink RL 18 yX10_shade, Cond.instanceMethod yX10_shade, Cond.selects RX10 yX10_shade yX10_shade, Cond.code yX10_shade cX10_shade 6 (some .int), Cond.fieldLink RX10 91 "TwoEyes$Picture" "squares" "[I", Cond.methodLink RX10 83 yX6_refusalToWrite, Cond.instanceMethod yX6_refusalToWrite, Cond.selects RX6 yX6_refusalToWrite yX6_refusalToWrite, Cond.code yX6_refusalToWrite cX6_refusalToWrite 4 (some .int), Cond.fieldLink RX6 58 "TwoEyes$Picture" "missing" "[Z", Cond.methodLink RX6 65 yX6_hasRow, Cond.instanceMethod yX6_hasRow, Cond.selects RX6 yX6_hasRow yX6_hasRow, Cond.code yX6_hasRow cX6_hasRow 3 (some .boolean), Cond.methodLink RX6 51 yX6_hasPicture, Cond.instanceMethod yX6_hasPicture, Cond.selects RX6 yX6_hasPicture yX6_hasPicture]
def wsL_law_r10 : List Cond := [Cond.code yX6_hasPicture cX6_hasPicture 2 (some .boolean), Cond.methodLink RX6 55 yX6_hasHeight, Cond.instanceMethod yX6_hasHeight, Cond.selects RX6 yX6_hasHeight yX6_hasHeight, Cond.code yX6_hasHeight cX6_hasHeight 2 (some .boolean), Cond.methodLink RX6 69 yX6_pictureOf, Cond.instanceMethod yX6_pictureOf, Cond.selects RX6 yX6_pictureOf yX6_pictureOf, Cond.code yX6_pictureOf cX6_pictureOf 2 (some (.object "TwoEyes$Picture")), Cond.methodLink RX6 73 yX6_hasSquare, Cond.instanceMethod yX6_hasSquare, Cond.selects RX6 yX6_hasSquare yX6_hasSquare, Cond.code yX6_hasSquare cX6_hasSquare 3 (some .boolean), Cond.methodLink RX10 87 yX6_pictureOf, Cond.methodLink RX10 96 yX6_placeOf, Cond.instanceMethod yX6_placeOf, Cond.selects RX6 yX6_placeOf yX6_placeOf, Cond.code yX6_placeOf cX6_placeOf 3 (some .int), Cond.methodLink RL 22 yX11_shade, Cond.instanceMethod yX11_shade, Cond.selects RX11 yX11_shade yX11_shade, Cond.code yX11_shade cX11_shade 6 (some .int), Cond.methodLink RX11 92 yX11_refuse, Cond.instanceMethod yX11_refuse]
def wsL_law_r11 : List Cond := [Cond.selects RX11 yX11_refuse yX11_refuse, Cond.code yX11_refuse cX11_refuse 4 (some .int), Cond.methodLink RX11 88 yX11_isRow, Cond.instanceMethod yX11_isRow, Cond.selects RX11 yX11_isRow yX11_isRow, Cond.code yX11_isRow cX11_isRow 3 (some .boolean), Cond.methodLink RX11 84 yX11_at, Cond.instanceMethod yX11_at, Cond.selects RX11 yX11_at yX11_at, Cond.code yX11_at cX11_at 4 (some .int), Cond.methodLink RL 23 yX10_lose, Cond.instanceMethod yX10_lose, Cond.selects RX10 yX10_lose yX10_lose, Cond.code yX10_lose cX10_lose 5 (some .int), Cond.methodLink RX10 100 yX6_seen, Cond.instanceMethod yX6_seen, Cond.selects RX6 yX6_seen yX6_seen, Cond.code yX6_seen cX6_seen 5 (some .int), Cond.fieldLink RX6 62 "TwoEyes$Picture" "squares" "[I", Cond.methodLink RL 27 yX11_lose, Cond.instanceMethod yX11_lose, Cond.selects RX11 yX11_lose yX11_lose, Cond.code yX11_lose cX11_lose 6 (some .int), Cond.methodLink RL 28 yX10_row]
def wsL_law_r12 : List Cond := [Cond.instanceMethod yX10_row, Cond.selects RX10 yX10_row yX10_row, Cond.code yX10_row cX10_row 5 (some .int), Cond.fieldLink RX10 107 "TwoEyes$Picture" "missing" "[Z", Cond.methodLink RX10 103 yX6_hasRow, Cond.methodLink RL 32 yX11_row, Cond.instanceMethod yX11_row, Cond.selects RX11 yX11_row yX11_row, Cond.code yX11_row cX11_row 5 (some .int), Cond.methodLink RL 33 yX10_copy, Cond.instanceMethod yX10_copy, Cond.selects RX10 yX10_copy yX10_copy, Cond.code yX10_copy cX10_copy 10 (some .int), Cond.methodLink RX10 114 arraycopyName, Cond.native arraycopyName, Cond.static arraycopyName, Cond.initialized "java/lang/System", Cond.methodLink RX10 111 yX6_hasColumns, Cond.instanceMethod yX6_hasColumns, Cond.selects RX6 yX6_hasColumns yX6_hasColumns, Cond.code yX6_hasColumns cX6_hasColumns 3 (some .boolean), Cond.methodLink RL 37 yX11_copy, Cond.instanceMethod yX11_copy, Cond.selects RX11 yX11_copy yX11_copy]
def wsL_law_r13 : List Cond := [Cond.code yX11_copy cX11_copy 12 (some .int), Cond.methodLink RL 38 yX10_told, Cond.instanceMethod yX10_told, Cond.selects RX10 yX10_told yX10_told, Cond.code yX10_told cX10_told 4 (some .int), Cond.methodLink RX10 120 yX6_hasPicture, Cond.methodLink RX10 124 yX6_hasSquare, Cond.methodLink RL 41 yX11_told, Cond.instanceMethod yX11_told, Cond.selects RX11 yX11_told yX11_told, Cond.code yX11_told cX11_told 4 (some .int), Cond.methodLink RX11 95 yX11_isSquare, Cond.instanceMethod yX11_isSquare, Cond.selects RX11 yX11_isSquare yX11_isSquare, Cond.code yX11_isSquare cX11_isSquare 3 (some .boolean), Cond.methodLink RX11 98 yX11_isLost, Cond.instanceMethod yX11_isLost, Cond.selects RX11 yX11_isLost yX11_isLost, Cond.code yX11_isLost cX11_isLost 4 (some .boolean), Cond.methodLink RL 42 yX10_rule, Cond.instanceMethod yX10_rule, Cond.selects RX10 yX10_rule yX10_rule, Cond.code yX10_rule cX10_rule 4 (some .int), Cond.fieldLink RX10 127 "TwoEyes" "RULE_MOST" "[I"]
def wsL_law_r14 : List Cond := [Cond.methodLink RL 45 yX11_rule, Cond.instanceMethod yX11_rule, Cond.selects RX11 yX11_rule yX11_rule, Cond.code yX11_rule cX11_rule 5 (some .int), Cond.methodLink RL 46 yX10_many, Cond.instanceMethod yX10_many, Cond.selects RX10 yX10_many yX10_many, Cond.code yX10_many cX10_many 2 (some .int), Cond.fieldLink RX10 130 "TwoEyes$Scene" "width" "I", Cond.fieldLink RX10 134 "TwoEyes$Scene" "height" "I", Cond.methodLink RX10 137 yX6_countLost, Cond.instanceMethod yX6_countLost, Cond.selects RX6 yX6_countLost yX6_countLost, Cond.code yX6_countLost cX6_countLost 5 (some .int), Cond.methodLink RX6 76 yX6_seen, Cond.methodLink RX10 141 yX10_refreshDepths, Cond.instanceMethod yX10_refreshDepths, Cond.selects RX10 yX10_refreshDepths yX10_refreshDepths, Cond.code yX10_refreshDepths cX10_refreshDepths 1 none, Cond.methodLink RX10 195 yX10_refreshSums, Cond.instanceMethod yX10_refreshSums, Cond.selects RX10 yX10_refreshSums yX10_refreshSums, Cond.code yX10_refreshSums cX10_refreshSums 1 none, Cond.fieldLink RX10 297 "TwoEyes$Sums" "added" "Z"]
def wsL_law_r15 : List Cond := [Cond.methodLink RX10 166 yX10_refreshCosts, Cond.instanceMethod yX10_refreshCosts, Cond.selects RX10 yX10_refreshCosts yX10_refreshCosts, Cond.code yX10_refreshCosts cX10_refreshCosts 1 none, Cond.methodLink RX10 291 yX1_measureAll, Cond.instanceMethod yX1_measureAll, Cond.selects RX1 yX1_measureAll yX1_measureAll, Cond.code yX1_measureAll cX1_measureAll 6 none, Cond.fieldLink RX1 29 "TwoEyes$Scene" "height" "I", Cond.fieldLink RX1 35 "TwoEyes$Scene" "width" "I", Cond.methodLink RX1 38 yX8_lookAround, Cond.instanceMethod yX8_lookAround, Cond.selects RX8 yX8_lookAround yX8_lookAround, Cond.code yX8_lookAround cX8_lookAround 12 none, Cond.methodLink RX8 22 yX6_seen, Cond.methodLink RX8 34 yX6_hasSquare, Cond.methodLink RX8 38 yX6_placeOf, Cond.methodLink RX1 42 yX6_placeOf, Cond.methodLink RX1 46 yX1_measure, Cond.instanceMethod yX1_measure, Cond.selects RX1 yX1_measure yX1_measure, Cond.code yX1_measure cX1_measure 4 (some .int), Cond.fieldLink RX1 49 "TwoEyes$Stand" "lost" "[Z", Cond.fieldLink RX1 53 "TwoEyes$Stand" "known" "[I"]
def wsL_law_r16 : List Cond := [Cond.fieldLink RX1 56 "TwoEyes$Stand" "dark" "[I", Cond.methodLink RX1 59 yJ6_bitCount_0f7a4, Cond.static yJ6_bitCount_0f7a4, Cond.initialized RJ6, Cond.code yJ6_bitCount_0f7a4 cJ6_bitCount_0f7a4 1 (some .int), Cond.constant RJ6 265 (1431655765), Cond.constant RJ6 266 (858993459), Cond.constant RJ6 267 (252645135), Cond.methodLink RX10 300 yX9_addAll, Cond.instanceMethod yX9_addAll, Cond.selects RX9 yX9_addAll yX9_addAll, Cond.code yX9_addAll cX9_addAll 7 none, Cond.methodLink RX9 66 yJ7_fill_53178, Cond.methodLink RX9 72 yX6_countSquares, Cond.instanceMethod yX6_countSquares, Cond.selects RX6 yX6_countSquares yX6_countSquares, Cond.code yX6_countSquares cX6_countSquares 1 (some .int), Cond.methodLink RX9 76 yX9_goAlong, Cond.instanceMethod yX9_goAlong, Cond.selects RX9 yX9_goAlong yX9_goAlong, Cond.code yX9_goAlong cX9_goAlong 12 none, Cond.fieldLink RX9 35 "TwoEyes$Scene" "height" "I", Cond.fieldLink RX9 40 "TwoEyes$Scene" "width" "I", Cond.methodLink RX9 80 yX9_vote]
def wsL_law_r17 : List Cond := [Cond.instanceMethod yX9_vote, Cond.selects RX9 yX9_vote yX9_vote, Cond.code yX9_vote cX9_vote 8 none, Cond.methodLink RX9 43 yX6_placeOf, Cond.methodLink RX9 47 yX9_voteOf, Cond.instanceMethod yX9_voteOf, Cond.selects RX9 yX9_voteOf yX9_voteOf, Cond.code yX9_voteOf cX9_voteOf 6 (some .int), Cond.fieldLink RX9 51 "TwoEyes$Costs" "left" "LTwoEyes$Stand;", Cond.fieldLink RX9 57 "TwoEyes$Stand" "lost" "[Z", Cond.fieldLink RX9 63 "TwoEyes$Costs" "table" "[I", Cond.methodLink RX9 90 yX6_hasSquare, Cond.methodLink RX9 94 yX9_goOn, Cond.instanceMethod yX9_goOn, Cond.selects RX9 yX9_goOn yX9_goOn, Cond.code yX9_goOn cX9_goOn 10 none, Cond.constant RX9 104 (2147483647), Cond.methodLink RX9 105 Lib.Math.min.name, Cond.static Lib.Math.min.name, Cond.initialized "java/lang/Math", Cond.code Lib.Math.min.name Lib.Math.min.code 2 (some .int), Cond.methodLink RX9 98 yX9_start, Cond.instanceMethod yX9_start, Cond.selects RX9 yX9_start yX9_start]
def wsL_law_r18 : List Cond := [Cond.code yX9_start cX9_start 5 none, Cond.methodLink RX10 304 yX2_tellAll, Cond.instanceMethod yX2_tellAll, Cond.selects RX2 yX2_tellAll yX2_tellAll, Cond.code yX2_tellAll cX2_tellAll 9 none, Cond.fieldLink RX2 19 "TwoEyes$Scene" "height" "I", Cond.fieldLink RX2 25 "TwoEyes$Scene" "width" "I", Cond.methodLink RX2 28 yX6_placeOf, Cond.methodLink RX2 32 yX2_tell, Cond.instanceMethod yX2_tell, Cond.selects RX2 yX2_tell yX2_tell, Cond.code yX2_tell cX2_tell 8 (some .int), Cond.fieldLink RX2 36 "TwoEyes$Costs" "left" "LTwoEyes$Stand;", Cond.fieldLink RX2 42 "TwoEyes$Stand" "lost" "[Z", Cond.fieldLink RX2 53 "TwoEyes$Costs" "right" "LTwoEyes$Stand;", Cond.methodLink RX2 56 Lib.Math.min.name, Cond.methodLink RX2 48 yX9_leftDepth, Cond.instanceMethod yX9_leftDepth, Cond.selects RX9 yX9_leftDepth yX9_leftDepth, Cond.code yX9_leftDepth cX9_leftDepth 5 (some .int), Cond.methodLink RX2 61 yX9_rightDepth, Cond.instanceMethod yX9_rightDepth, Cond.selects RX9 yX9_rightDepth yX9_rightDepth, Cond.code yX9_rightDepth cX9_rightDepth 5 (some .int)]
def wsL_law_r19 : List Cond := [Cond.methodLink RX10 144 yX6_countSquares, Cond.methodLink RX10 148 yX2_countTold, Cond.instanceMethod yX2_countTold, Cond.selects RX2 yX2_countTold yX2_countTold, Cond.code yX2_countTold cX2_countTold 4 (some .int), Cond.methodLink RX10 151 yX10_refreshSegments, Cond.instanceMethod yX10_refreshSegments, Cond.selects RX10 yX10_refreshSegments yX10_refreshSegments, Cond.code yX10_refreshSegments cX10_refreshSegments 1 none, Cond.methodLink RX10 308 yX7_gather, Cond.instanceMethod yX7_gather, Cond.selects RX7 yX7_gather yX7_gather, Cond.code yX7_gather cX7_gather 7 none, Cond.fieldLink RX7 19 "TwoEyes$Scene" "height" "I", Cond.fieldLink RX7 25 "TwoEyes$Scene" "width" "I", Cond.methodLink RX7 28 yX6_placeOf, Cond.methodLink RX7 32 yX6_seen, Cond.methodLink RX7 36 yX7_hangs, Cond.static yX7_hangs, Cond.code yX7_hangs cX7_hangs 3 (some .boolean), Cond.methodLink RX7 44 Lib.Math.abs.name, Cond.static Lib.Math.abs.name, Cond.code Lib.Math.abs.name Lib.Math.abs.code 1 (some .int), Cond.methodLink RX7 40 yX7_join]
def wsL_law_r20 : List Cond := [Cond.instanceMethod yX7_join, Cond.selects RX7 yX7_join yX7_join, Cond.code yX7_join cX7_join 6 none, Cond.methodLink RX7 50 Lib.Math.min.name, Cond.methodLink RX7 53 Lib.Math.max.name, Cond.static Lib.Math.max.name, Cond.code Lib.Math.max.name Lib.Math.max.code 2 (some .int), Cond.methodLink RX10 154 yX7_countAnchors, Cond.instanceMethod yX7_countAnchors, Cond.selects RX7 yX7_countAnchors yX7_countAnchors, Cond.code yX7_countAnchors cX7_countAnchors 4 (some .int), Cond.methodLink RX10 157 yX0_countCubes, Cond.instanceMethod yX0_countCubes, Cond.selects RX0 yX0_countCubes yX0_countCubes, Cond.code yX0_countCubes cX0_countCubes 4 (some .int), Cond.methodLink RX0 23 yX0_bit, Cond.instanceMethod yX0_bit, Cond.selects RX0 yX0_bit yX0_bit, Cond.code yX0_bit cX0_bit 4 (some .boolean), Cond.methodLink RX0 27 yJ6_bitCount_0f7a4, Cond.methodLink RX10 160 yX6_countTruths, Cond.instanceMethod yX6_countTruths, Cond.selects RX6 yX6_countTruths yX6_countTruths, Cond.code yX6_countTruths cX6_countTruths 4 (some .int)]
def wsL_law_r21 : List Cond := [Cond.methodLink RX6 80 yX6_countSquares, Cond.methodLink RL 50 yX11_many, Cond.instanceMethod yX11_many, Cond.selects RX11 yX11_many yX11_many, Cond.code yX11_many cX11_many 2 (some .int), Cond.methodLink RX11 105 yX11_reckon, Cond.instanceMethod yX11_reckon, Cond.selects RX11 yX11_reckon yX11_reckon, Cond.code yX11_reckon cX11_reckon 3 none, Cond.methodLink RX11 134 yX11_costAt, Cond.instanceMethod yX11_costAt, Cond.selects RX11 yX11_costAt yX11_costAt, Cond.code yX11_costAt cX11_costAt 12 (some .int), Cond.methodLink RX11 125 yX11_acrossOf, Cond.static yX11_acrossOf, Cond.code yX11_acrossOf cX11_acrossOf 1 (some .int), Cond.methodLink RX11 128 yX11_downOf, Cond.static yX11_downOf, Cond.code yX11_downOf cX11_downOf 1 (some .int), Cond.methodLink RX11 131 yX11_isKnown, Cond.instanceMethod yX11_isKnown, Cond.selects RX11 yX11_isKnown yX11_isKnown, Cond.code yX11_isKnown cX11_isKnown 4 (some .boolean), Cond.methodLink RX11 137 yX11_layRuns]
def wsL_law_r22 : List Cond := [Cond.instanceMethod yX11_layRuns, Cond.selects RX11 yX11_layRuns yX11_layRuns, Cond.code yX11_layRuns cX11_layRuns 14 none, Cond.methodLink RX11 147 yX11_voteAt, Cond.instanceMethod yX11_voteAt, Cond.selects RX11 yX11_voteAt yX11_voteAt, Cond.code yX11_voteAt cX11_voteAt 4 (some .int), Cond.methodLink RX11 150 yX11_goesOn, Cond.instanceMethod yX11_goesOn, Cond.selects RX11 yX11_goesOn yX11_goesOn, Cond.code yX11_goesOn cX11_goesOn 6 (some .int), Cond.methodLink RX11 141 yX11_layDepths, Cond.instanceMethod yX11_layDepths, Cond.selects RX11 yX11_layDepths yX11_layDepths, Cond.code yX11_layDepths cX11_layDepths 7 none, Cond.methodLink RX11 144 yX11_layAnchors, Cond.instanceMethod yX11_layAnchors, Cond.selects RX11 yX11_layAnchors yX11_layAnchors, Cond.code yX11_layAnchors cX11_layAnchors 4 none, Cond.methodLink RX11 174 yX11_bringTogether, Cond.instanceMethod yX11_bringTogether, Cond.selects RX11 yX11_bringTogether yX11_bringTogether, Cond.code yX11_bringTogether cX11_bringTogether 4 (some .boolean), Cond.methodLink RX11 171 yX11_hang]
def wsL_law_r23 : List Cond := [Cond.instanceMethod yX11_hang, Cond.selects RX11 yX11_hang yX11_hang, Cond.code yX11_hang cX11_hang 4 (some .boolean), Cond.methodLink RX11 108 yX11_lostMany, Cond.instanceMethod yX11_lostMany, Cond.selects RX11 yX11_lostMany yX11_lostMany, Cond.code yX11_lostMany cX11_lostMany 5 (some .int), Cond.methodLink RX11 112 yX11_toldMany, Cond.instanceMethod yX11_toldMany, Cond.selects RX11 yX11_toldMany yX11_toldMany, Cond.code yX11_toldMany cX11_toldMany 3 (some .int), Cond.methodLink RX11 101 yX11_agreedAt, Cond.instanceMethod yX11_agreedAt, Cond.selects RX11 yX11_agreedAt yX11_agreedAt, Cond.code yX11_agreedAt cX11_agreedAt 4 (some .int), Cond.methodLink RX11 116 yX11_anchors, Cond.instanceMethod yX11_anchors, Cond.selects RX11 yX11_anchors yX11_anchors, Cond.code yX11_anchors cX11_anchors 3 (some .int), Cond.methodLink RX11 119 yX11_cubes, Cond.instanceMethod yX11_cubes, Cond.selects RX11 yX11_cubes yX11_cubes, Cond.code yX11_cubes cX11_cubes 3 (some .int), Cond.methodLink RX11 198 yX11_isCube]
def wsL_law_r24 : List Cond := [Cond.instanceMethod yX11_isCube, Cond.selects RX11 yX11_isCube yX11_isCube, Cond.code yX11_isCube cX11_isCube 4 (some .boolean), Cond.methodLink RX11 122 yX11_truthMany, Cond.instanceMethod yX11_truthMany, Cond.selects RX11 yX11_truthMany yX11_truthMany, Cond.code yX11_truthMany cX11_truthMany 3 (some .int), Cond.methodLink RL 51 yX10_cost, Cond.instanceMethod yX10_cost, Cond.selects RX10 yX10_cost yX10_cost, Cond.code yX10_cost cX10_cost 4 (some .int), Cond.fieldLink RX10 169 "TwoEyes$Costs" "table" "[I", Cond.methodLink RX10 163 yX10_isDepth, Cond.instanceMethod yX10_isDepth, Cond.selects RX10 yX10_isDepth yX10_isDepth, Cond.code yX10_isDepth cX10_isDepth 2 (some .boolean), Cond.methodLink RL 54 yX11_cost, Cond.instanceMethod yX11_cost, Cond.selects RX11 yX11_cost yX11_cost, Cond.code yX11_cost cX11_cost 5 (some .int), Cond.methodLink RX11 153 yX11_isDeep, Cond.instanceMethod yX11_isDeep, Cond.selects RX11 yX11_isDeep yX11_isDeep, Cond.code yX11_isDeep cX11_isDeep 4 (some .boolean)]
def wsL_law_r25 : List Cond := [Cond.methodLink RL 55 yX10_path, Cond.instanceMethod yX10_path, Cond.selects RX10 yX10_path yX10_path, Cond.code yX10_path cX10_path 2 (some .int), Cond.fieldLink RX10 179 "TwoEyes$Paths" "total" "[I", Cond.methodLink RX10 172 yX6_hasHeight, Cond.methodLink RX10 175 yX10_refreshPath, Cond.instanceMethod yX10_refreshPath, Cond.selects RX10 yX10_refreshPath yX10_refreshPath, Cond.code yX10_refreshPath cX10_refreshPath 2 none, Cond.methodLink RX10 294 yX3_walk, Cond.instanceMethod yX3_walk, Cond.selects RX3 yX3_walk yX3_walk, Cond.code yX3_walk cX3_walk 10 none, Cond.fieldLink RX3 33 "TwoEyes$Scene" "width" "I", Cond.methodLink RX3 27 yX6_placeOf, Cond.methodLink RX3 37 yX3_matching, Cond.instanceMethod yX3_matching, Cond.selects RX3 yX3_matching yX3_matching, Cond.code yX3_matching cX3_matching 8 (some .int), Cond.fieldLink RX3 49 "TwoEyes$Costs" "table" "[I", Cond.methodLink RX3 41 yX3_leastRest, Cond.instanceMethod yX3_leastRest, Cond.selects RX3 yX3_leastRest yX3_leastRest]
def wsL_law_r26 : List Cond := [Cond.code yX3_leastRest cX3_leastRest 7 (some .int), Cond.constant RX3 56 (2147483647), Cond.methodLink RX3 57 Lib.Math.min.name, Cond.methodLink RX3 45 yX3_follow, Cond.instanceMethod yX3_follow, Cond.selects RX3 yX3_follow yX3_follow, Cond.code yX3_follow cX3_follow 10 none, Cond.methodLink RL 58 yX11_path, Cond.instanceMethod yX11_path, Cond.selects RX11 yX11_path yX11_path, Cond.code yX11_path cX11_path 2 (some .int), Cond.methodLink RX11 168 yX11_layPath, Cond.instanceMethod yX11_layPath, Cond.selects RX11 yX11_layPath yX11_layPath, Cond.code yX11_layPath cX11_layPath 7 none, Cond.methodLink RX11 156 yX11_payMatch, Cond.instanceMethod yX11_payMatch, Cond.selects RX11 yX11_payMatch yX11_payMatch, Cond.code yX11_payMatch cX11_payMatch 5 (some .int), Cond.methodLink RX11 159 yX11_goPath, Cond.instanceMethod yX11_goPath, Cond.selects RX11 yX11_goPath yX11_goPath, Cond.code yX11_goPath cX11_goPath 5 none, Cond.fieldLink RX11 162 "TwoEyesModel" "hiddenLeft" "I"]
def wsL_law_r27 : List Cond := [Cond.fieldLink RX11 165 "TwoEyesModel" "hiddenRight" "I", Cond.methodLink RL 59 yX10_matched, Cond.instanceMethod yX10_matched, Cond.selects RX10 yX10_matched yX10_matched, Cond.code yX10_matched cX10_matched 3 (some .int), Cond.fieldLink RX10 182 "TwoEyes$Paths" "match" "[I", Cond.methodLink RL 62 yX11_matched, Cond.instanceMethod yX11_matched, Cond.selects RX11 yX11_matched yX11_matched, Cond.code yX11_matched cX11_matched 3 (some .int), Cond.methodLink RL 63 yX10_hidden, Cond.instanceMethod yX10_hidden, Cond.selects RX10 yX10_hidden yX10_hidden, Cond.code yX10_hidden cX10_hidden 3 (some .int), Cond.methodLink RX10 185 yX3_countHidden, Cond.instanceMethod yX3_countHidden, Cond.selects RX3 yX3_countHidden yX3_countHidden, Cond.code yX3_countHidden cX3_countHidden 5 (some .int), Cond.methodLink RL 66 yX11_hidden, Cond.instanceMethod yX11_hidden, Cond.selects RX11 yX11_hidden yX11_hidden, Cond.code yX11_hidden cX11_hidden 3 (some .int), Cond.methodLink RL 67 yX10_run, Cond.instanceMethod yX10_run]
def wsL_law_r28 : List Cond := [Cond.selects RX10 yX10_run yX10_run, Cond.code yX10_run cX10_run 5 (some .int), Cond.fieldLink RX10 192 "TwoEyes$Sums" "runs" "[I", Cond.methodLink RX10 188 yX9_goAlong, Cond.methodLink RL 70 yX11_run, Cond.instanceMethod yX11_run, Cond.selects RX11 yX11_run yX11_run, Cond.code yX11_run cX11_run 5 (some .int), Cond.methodLink RL 71 yX10_sum, Cond.instanceMethod yX10_sum, Cond.selects RX10 yX10_sum yX10_sum, Cond.code yX10_sum cX10_sum 4 (some .int), Cond.fieldLink RX10 198 "TwoEyes$Sums" "totals" "[I", Cond.methodLink RL 74 yX11_sum, Cond.instanceMethod yX11_sum, Cond.selects RX11 yX11_sum yX11_sum, Cond.code yX11_sum cX11_sum 4 (some .int), Cond.methodLink RL 75 yX10_depth, Cond.instanceMethod yX10_depth, Cond.selects RX10 yX10_depth yX10_depth, Cond.code yX10_depth cX10_depth 5 (some .int), Cond.methodLink RX10 204 Lib.Math.min.name, Cond.methodLink RX10 201 yX9_leftDepth, Cond.methodLink RX10 209 yX9_rightDepth]
def wsL_law_r29 : List Cond := [Cond.methodLink RL 78 yX11_depth, Cond.instanceMethod yX11_depth, Cond.selects RX11 yX11_depth yX11_depth, Cond.code yX11_depth cX11_depth 4 (some .int), Cond.methodLink RL 79 yX10_agreed, Cond.instanceMethod yX10_agreed, Cond.selects RX10 yX10_agreed yX10_agreed, Cond.code yX10_agreed cX10_agreed 3 (some .int), Cond.fieldLink RX10 212 "TwoEyes$Depths" "told" "[I", Cond.methodLink RL 82 yX11_agreed, Cond.instanceMethod yX11_agreed, Cond.selects RX11 yX11_agreed yX11_agreed, Cond.code yX11_agreed cX11_agreed 3 (some .int), Cond.methodLink RL 83 yX10_segment, Cond.instanceMethod yX10_segment, Cond.selects RX10 yX10_segment yX10_segment, Cond.code yX10_segment cX10_segment 3 (some .int), Cond.fieldLink RX10 215 "TwoEyes$Segments" "anchor" "[I", Cond.methodLink RL 86 yX11_segment, Cond.instanceMethod yX11_segment, Cond.selects RX11 yX11_segment yX11_segment, Cond.code yX11_segment cX11_segment 4 (some .int), Cond.methodLink RL 87 yX10_extent, Cond.instanceMethod yX10_extent]
def wsL_law_r30 : List Cond := [Cond.selects RX10 yX10_extent yX10_extent, Cond.code yX10_extent cX10_extent 4 (some .int), Cond.methodLink RX10 218 yX7_countOf, Cond.instanceMethod yX7_countOf, Cond.selects RX7 yX7_countOf yX7_countOf, Cond.code yX7_countOf cX7_countOf 5 (some .int), Cond.methodLink RL 90 yX11_extent, Cond.instanceMethod yX11_extent, Cond.selects RX11 yX11_extent yX11_extent, Cond.code yX11_extent cX11_extent 6 (some .int), Cond.methodLink RX11 177 yX11_segment, Cond.methodLink RL 91 yX10_plane, Cond.instanceMethod yX10_plane, Cond.selects RX10 yX10_plane yX10_plane, Cond.code yX10_plane cX10_plane 6 (some .int), Cond.fieldLink RX10 225 "TwoEyes$Planes" "b" "I", Cond.fieldLink RX10 228 "TwoEyes$Planes" "a" "I", Cond.fieldLink RX10 231 "TwoEyes$Planes" "c" "I", Cond.fieldLink RX10 234 "TwoEyes$Planes" "price" "I", Cond.methodLink RX10 221 yX5_find, Cond.instanceMethod yX5_find, Cond.selects RX5 yX5_find yX5_find, Cond.code yX5_find cX5_find 9 none, Cond.constant RX5 52 (2147483647)]
def wsL_law_r31 : List Cond := [Cond.methodLink RX5 46 yX5_collect, Cond.instanceMethod yX5_collect, Cond.selects RX5 yX5_collect yX5_collect, Cond.code yX5_collect cX5_collect 7 none, Cond.fieldLink RX5 57 "TwoEyes$Scene" "height" "I", Cond.fieldLink RX5 62 "TwoEyes$Scene" "width" "I", Cond.fieldLink RX5 69 "TwoEyes$Segments" "anchor" "[I", Cond.methodLink RX5 65 yX6_placeOf, Cond.methodLink RX5 73 yX5_add, Cond.instanceMethod yX5_add, Cond.selects RX5 yX5_add yX5_add, Cond.code yX5_add cX5_add 4 none, Cond.methodLink RX5 53 yX5_weigh, Cond.instanceMethod yX5_weigh, Cond.selects RX5 yX5_weigh yX5_weigh, Cond.code yX5_weigh cX5_weigh 10 none, Cond.fieldLink RX5 81 "TwoEyes$Costs" "table" "[I", Cond.methodLink RX5 77 yX5_half, Cond.static yX5_half, Cond.code yX5_half cX5_half 1 (some .int), Cond.methodLink RX10 237 yX5_depthAt, Cond.instanceMethod yX5_depthAt, Cond.selects RX5 yX5_depthAt yX5_depthAt, Cond.code yX5_depthAt cX5_depthAt 3 (some .int)]
def wsL_law_r32 : List Cond := [Cond.methodLink RL 94 yX11_plane, Cond.instanceMethod yX11_plane, Cond.selects RX11 yX11_plane yX11_plane, Cond.code yX11_plane cX11_plane 13 (some .int), Cond.methodLink RX11 187 yX11_planeCost, Cond.instanceMethod yX11_planeCost, Cond.selects RX11 yX11_planeCost yX11_planeCost, Cond.code yX11_planeCost cX11_planeCost 9 (some .int), Cond.methodLink RX11 183 yX11_planeDepth, Cond.instanceMethod yX11_planeDepth, Cond.selects RX11 yX11_planeDepth yX11_planeDepth, Cond.code yX11_planeDepth cX11_planeDepth 6 (some .int), Cond.methodLink RX11 180 yX11_half, Cond.static yX11_half, Cond.code yX11_half cX11_half 1 (some .int), Cond.methodLink RL 95 yX10_view, Cond.instanceMethod yX10_view, Cond.selects RX10 yX10_view yX10_view, Cond.code yX10_view cX10_view 5 (some .int), Cond.methodLink RX10 240 yX2_comesFrom, Cond.instanceMethod yX2_comesFrom, Cond.selects RX2 yX2_comesFrom yX2_comesFrom, Cond.code yX2_comesFrom cX2_comesFrom 9 (some .int), Cond.methodLink RL 98 yX11_view]
def wsL_law_r33 : List Cond := [Cond.instanceMethod yX11_view, Cond.selects RX11 yX11_view yX11_view, Cond.code yX11_view cX11_view 4 (some .int), Cond.methodLink RX11 191 yX11_seen, Cond.instanceMethod yX11_seen, Cond.selects RX11 yX11_seen yX11_seen, Cond.code yX11_seen cX11_seen 8 (some .int), Cond.methodLink RL 99 yX10_holes, Cond.instanceMethod yX10_holes, Cond.selects RX10 yX10_holes yX10_holes, Cond.code yX10_holes cX10_holes 5 (some .int), Cond.methodLink RL 102 yX11_holes, Cond.instanceMethod yX11_holes, Cond.selects RX11 yX11_holes yX11_holes, Cond.code yX11_holes cX11_holes 4 (some .int), Cond.methodLink RL 103 yX10_draw, Cond.instanceMethod yX10_draw, Cond.selects RX10 yX10_draw yX10_draw, Cond.code yX10_draw cX10_draw 7 (some .int), Cond.methodLink RX10 244 yX6_hasRows, Cond.instanceMethod yX6_hasRows, Cond.selects RX6 yX6_hasRows yX6_hasRows, Cond.code yX6_hasRows cX6_hasRows 3 (some .boolean), Cond.methodLink RX10 247 yX6_anyMissing]
def wsL_law_r34 : List Cond := [Cond.instanceMethod yX6_anyMissing, Cond.selects RX6 yX6_anyMissing yX6_anyMissing, Cond.code yX6_anyMissing cX6_anyMissing 4 (some .boolean), Cond.methodLink RX10 250 yX6_drawBoard, Cond.instanceMethod yX6_drawBoard, Cond.selects RX6 yX6_drawBoard yX6_drawBoard, Cond.code yX6_drawBoard cX6_drawBoard 12 none, Cond.constant RX6 84 (1103515245), Cond.methodLink RX6 85 yX6_placeOf, Cond.methodLink RL 107 yX11_draw, Cond.instanceMethod yX11_draw, Cond.selects RX11 yX11_draw yX11_draw, Cond.code yX11_draw cX11_draw 12 (some .int), Cond.constant RX11 194 (1103515245), Cond.methodLink RL 108 yX10_truth, Cond.instanceMethod yX10_truth, Cond.selects RX10 yX10_truth yX10_truth, Cond.code yX10_truth cX10_truth 3 (some .int), Cond.fieldLink RX10 254 "TwoEyes$Scene" "truth" "[I", Cond.methodLink RL 111 yX11_truth, Cond.instanceMethod yX11_truth, Cond.selects RX11 yX11_truth yX11_truth, Cond.code yX11_truth cX11_truth 3 (some .int), Cond.methodLink RL 112 yX10_score]
def wsL_law_r35 : List Cond := [Cond.instanceMethod yX10_score, Cond.selects RX10 yX10_score yX10_score, Cond.code yX10_score cX10_score 5 (some .int), Cond.methodLink RX10 257 yX10_countMatchedByTruth, Cond.instanceMethod yX10_countMatchedByTruth, Cond.selects RX10 yX10_countMatchedByTruth yX10_countMatchedByTruth, Cond.code yX10_countMatchedByTruth cX10_countMatchedByTruth 5 (some .int), Cond.methodLink RX10 260 yX10_verdict, Cond.static yX10_verdict, Cond.code yX10_verdict cX10_verdict 2 (some .int), Cond.methodLink RL 115 yX11_score, Cond.instanceMethod yX11_score, Cond.selects RX11 yX11_score yX11_score, Cond.code yX11_score cX11_score 5 (some .int), Cond.methodLink RX11 195 yX11_scoreOf, Cond.instanceMethod yX11_scoreOf, Cond.selects RX11 yX11_scoreOf yX11_scoreOf, Cond.code yX11_scoreOf cX11_scoreOf 7 (some .int), Cond.methodLink RL 116 yX10_outline, Cond.instanceMethod yX10_outline, Cond.selects RX10 yX10_outline yX10_outline, Cond.code yX10_outline cX10_outline 4 (some .int), Cond.fieldLink RX10 266 "TwoEyes$Body" "rows" "[I", Cond.methodLink RX10 263 yX0_hasOutline]
def wsL_law_r36 : List Cond := [Cond.instanceMethod yX0_hasOutline, Cond.selects RX0 yX0_hasOutline yX0_hasOutline, Cond.code yX0_hasOutline cX0_hasOutline 2 (some .boolean), Cond.methodLink RL 119 yX11_outline, Cond.instanceMethod yX11_outline, Cond.selects RX11 yX11_outline yX11_outline, Cond.code yX11_outline cX11_outline 4 (some .int), Cond.methodLink RL 120 yX10_cube, Cond.instanceMethod yX10_cube, Cond.selects RX10 yX10_cube yX10_cube, Cond.code yX10_cube cX10_cube 4 (some .boolean), Cond.methodLink RX10 269 yX0_has, Cond.instanceMethod yX0_has, Cond.selects RX0 yX0_has yX0_has, Cond.code yX0_has cX0_has 4 (some .boolean), Cond.methodLink RX0 19 yX0_onEdge, Cond.static yX0_onEdge, Cond.code yX0_onEdge cX0_onEdge 1 (some .boolean), Cond.methodLink RL 124 yX11_cube, Cond.instanceMethod yX11_cube, Cond.selects RX11 yX11_cube yX11_cube, Cond.code yX11_cube cX11_cube 4 (some .boolean), Cond.methodLink RL 125 yX10_empty, Cond.instanceMethod yX10_empty]
def wsL_law_r37 : List Cond := [Cond.selects RX10 yX10_empty yX10_empty, Cond.code yX10_empty cX10_empty 2 (some .int), Cond.methodLink RX10 273 yX0_countEmpty, Cond.instanceMethod yX0_countEmpty, Cond.selects RX0 yX0_countEmpty yX0_countEmpty, Cond.code yX0_countEmpty cX0_countEmpty 5 (some .int), Cond.methodLink RX0 33 yX0_anyAlong, Cond.instanceMethod yX0_anyAlong, Cond.selects RX0 yX0_anyAlong yX0_anyAlong, Cond.code yX0_anyAlong cX0_anyAlong 5 (some .boolean), Cond.methodLink RX0 36 yX0_isSeenAt, Cond.instanceMethod yX0_isSeenAt, Cond.selects RX0 yX0_isSeenAt yX0_isSeenAt, Cond.code yX0_isSeenAt cX0_isSeenAt 5 (some .boolean), Cond.methodLink RX0 40 yX0_has, Cond.methodLink RL 128 yX11_empty, Cond.instanceMethod yX11_empty, Cond.selects RX11 yX11_empty yX11_empty, Cond.code yX11_empty cX11_empty 5 (some .int), Cond.methodLink RX11 201 yX11_hasCube, Cond.instanceMethod yX11_hasCube, Cond.selects RX11 yX11_hasCube yX11_hasCube, Cond.code yX11_hasCube cX11_hasCube 7 (some .boolean), Cond.methodLink RL 129 yX10_keep]
def wsL_law_r38 : List Cond := [Cond.instanceMethod yX10_keep, Cond.selects RX10 yX10_keep yX10_keep, Cond.code yX10_keep cX10_keep 1 (some .int), Cond.methodLink RX10 276 yX6_become, Cond.instanceMethod yX6_become, Cond.selects RX6 yX6_become yX6_become, Cond.code yX6_become cX6_become 2 none, Cond.methodLink RX6 45 arraycopyName, Cond.methodLink RX6 41 yX4_become, Cond.instanceMethod yX4_become, Cond.selects RX4 yX4_become yX4_become, Cond.code yX4_become cX4_become 2 none, Cond.methodLink RX4 25 arraycopyName, Cond.methodLink RL 133 yX11_keep, Cond.instanceMethod yX11_keep, Cond.selects RX11 yX11_keep yX11_keep, Cond.code yX11_keep cX11_keep 2 (some .int), Cond.fieldLink RX11 204 "TwoEyesModel" "isKept" "Z", Cond.fieldLink RX11 207 "TwoEyesModel" "keptWidth" "I", Cond.fieldLink RX11 210 "TwoEyesModel" "keptHeight" "I", Cond.methodLink RL 134 yX10_back, Cond.instanceMethod yX10_back, Cond.selects RX10 yX10_back yX10_back, Cond.code yX10_back cX10_back 1 (some .int)]
def wsL_law_r39 : List Cond := [Cond.methodLink RL 137 yX11_back, Cond.instanceMethod yX11_back, Cond.selects RX11 yX11_back yX11_back, Cond.code yX11_back cX11_back 2 (some .int)]
def wsL_law : List Cond := (wsL_law_r1 ++ (wsL_law_r2 ++ (wsL_law_r3 ++ (wsL_law_r4 ++ (wsL_law_r5 ++ (wsL_law_r6 ++ (wsL_law_r7 ++ (wsL_law_r8 ++ (wsL_law_r9 ++ (wsL_law_r10 ++ (wsL_law_r11 ++ (wsL_law_r12 ++ (wsL_law_r13 ++ (wsL_law_r14 ++ (wsL_law_r15 ++ (wsL_law_r16 ++ (wsL_law_r17 ++ (wsL_law_r18 ++ (wsL_law_r19 ++ (wsL_law_r20 ++ (wsL_law_r21 ++ (wsL_law_r22 ++ (wsL_law_r23 ++ (wsL_law_r24 ++ (wsL_law_r25 ++ (wsL_law_r26 ++ (wsL_law_r27 ++ (wsL_law_r28 ++ (wsL_law_r29 ++ (wsL_law_r30 ++ (wsL_law_r31 ++ (wsL_law_r32 ++ (wsL_law_r33 ++ (wsL_law_r34 ++ (wsL_law_r35 ++ (wsL_law_r36 ++ (wsL_law_r37 ++ (wsL_law_r38 ++ wsL_law_r39)))))))))))))))))))))))))))))))))))))) ++ wsX100 ++ wsX110 ++ wsX60 ++ wsX10 ++ wsX30 ++ wsX90 ++ wsX20 ++ wsX70 ++ wsX50 ++ wsX00 ++ wsX40 ++ wsX80
abbrev vwCl : List vw_C := [(RX0, TX0, 1), (RX1, TX1, 4), (RX2, TX2, 2), (RX3, TX3, 3), (RX4, TX4, 2), (RX5, TX5, 11), (RX6, TX6, 5), (RX7, TX7, 2), (RX8, TX8, 3), (RX9, TX9, 7), (RX10, TX10, 11), (RX11, TX11, 26)]
theorem inA_1 : ∀ w ∈ wsL_law_r1, w ∈ wsL_law := fun _ h => List.mem_append_left _ (List.mem_append_left _ (List.mem_append_left _ (List.mem_append_left _ (List.mem_append_left _ (List.mem_append_left _ (List.mem_append_left _ (List.mem_append_left _ (List.mem_append_left _ (List.mem_append_left _ (List.mem_append_left _ (List.mem_append_left _ (List.mem_append_left _ h))))))))))))
theorem inA_2 : ∀ w ∈ wsL_law_r2, w ∈ wsL_law := fun _ h => List.mem_append_left _ (List.mem_append_left _ (List.mem_append_left _ (List.mem_append_left _ (List.mem_append_left _ (List.mem_append_left _ (List.mem_append_left _ (List.mem_append_left _ (List.mem_append_left _ (List.mem_append_left _ (List.mem_append_left _ (List.mem_append_left _ (List.mem_append_right _ (List.mem_append_left _ h)))))))))))))
theorem inA_3 : ∀ w ∈ wsL_law_r3, w ∈ wsL_law := fun _ h => List.mem_append_left _ (List.mem_append_left _ (List.mem_append_left _ (List.mem_append_left _ (List.mem_append_left _ (List.mem_append_left _ (List.mem_append_left _ (List.mem_append_left _ (List.mem_append_left _ (List.mem_append_left _ (List.mem_append_left _ (List.mem_append_left _ (List.mem_append_right _ (List.mem_append_right _ (List.mem_append_left _ h))))))))))))))
theorem inA_4 : ∀ w ∈ wsL_law_r4, w ∈ wsL_law := fun _ h => List.mem_append_left _ (List.mem_append_left _ (List.mem_append_left _ (List.mem_append_left _ (List.mem_append_left _ (List.mem_append_left _ (List.mem_append_left _ (List.mem_append_left _ (List.mem_append_left _ (List.mem_append_left _ (List.mem_append_left _ (List.mem_append_left _ (List.mem_append_right _ (List.mem_append_right _ (List.mem_append_right _ (List.mem_append_left _ h)))))))))))))))
theorem inA_5 : ∀ w ∈ wsL_law_r5, w ∈ wsL_law := fun _ h => List.mem_append_left _ (List.mem_append_left _ (List.mem_append_left _ (List.mem_append_left _ (List.mem_append_left _ (List.mem_append_left _ (List.mem_append_left _ (List.mem_append_left _ (List.mem_append_left _ (List.mem_append_left _ (List.mem_append_left _ (List.mem_append_left _ (List.mem_append_right _ (List.mem_append_right _ (List.mem_append_right _ (List.mem_append_right _ (List.mem_append_left _ h))))))))))))))))
theorem inA_6 : ∀ w ∈ wsL_law_r6, w ∈ wsL_law := fun _ h => List.mem_append_left _ (List.mem_append_left _ (List.mem_append_left _ (List.mem_append_left _ (List.mem_append_left _ (List.mem_append_left _ (List.mem_append_left _ (List.mem_append_left _ (List.mem_append_left _ (List.mem_append_left _ (List.mem_append_left _ (List.mem_append_left _ (List.mem_append_right _ (List.mem_append_right _ (List.mem_append_right _ (List.mem_append_right _ (List.mem_append_right _ (List.mem_append_left _ h)))))))))))))))))
theorem inA_7 : ∀ w ∈ wsL_law_r7, w ∈ wsL_law := fun _ h => List.mem_append_left _ (List.mem_append_left _ (List.mem_append_left _ (List.mem_append_left _ (List.mem_append_left _ (List.mem_append_left _ (List.mem_append_left _ (List.mem_append_left _ (List.mem_append_left _ (List.mem_append_left _ (List.mem_append_left _ (List.mem_append_left _ (List.mem_append_right _ (List.mem_append_right _ (List.mem_append_right _ (List.mem_append_right _ (List.mem_append_right _ (List.mem_append_right _ (List.mem_append_left _ h))))))))))))))))))
theorem inA_8 : ∀ w ∈ wsL_law_r8, w ∈ wsL_law := fun _ h => List.mem_append_left _ (List.mem_append_left _ (List.mem_append_left _ (List.mem_append_left _ (List.mem_append_left _ (List.mem_append_left _ (List.mem_append_left _ (List.mem_append_left _ (List.mem_append_left _ (List.mem_append_left _ (List.mem_append_left _ (List.mem_append_left _ (List.mem_append_right _ (List.mem_append_right _ (List.mem_append_right _ (List.mem_append_right _ (List.mem_append_right _ (List.mem_append_right _ (List.mem_append_right _ (List.mem_append_left _ h)))))))))))))))))))
theorem inA_9 : ∀ w ∈ wsL_law_r9, w ∈ wsL_law := fun _ h => List.mem_append_left _ (List.mem_append_left _ (List.mem_append_left _ (List.mem_append_left _ (List.mem_append_left _ (List.mem_append_left _ (List.mem_append_left _ (List.mem_append_left _ (List.mem_append_left _ (List.mem_append_left _ (List.mem_append_left _ (List.mem_append_left _ (List.mem_append_right _ (List.mem_append_right _ (List.mem_append_right _ (List.mem_append_right _ (List.mem_append_right _ (List.mem_append_right _ (List.mem_append_right _ (List.mem_append_right _ (List.mem_append_left _ h))))))))))))))))))))
theorem inA_10 : ∀ w ∈ wsL_law_r10, w ∈ wsL_law := fun _ h => List.mem_append_left _ (List.mem_append_left _ (List.mem_append_left _ (List.mem_append_left _ (List.mem_append_left _ (List.mem_append_left _ (List.mem_append_left _ (List.mem_append_left _ (List.mem_append_left _ (List.mem_append_left _ (List.mem_append_left _ (List.mem_append_left _ (List.mem_append_right _ (List.mem_append_right _ (List.mem_append_right _ (List.mem_append_right _ (List.mem_append_right _ (List.mem_append_right _ (List.mem_append_right _ (List.mem_append_right _ (List.mem_append_right _ (List.mem_append_left _ h)))))))))))))))))))))
theorem inA_11 : ∀ w ∈ wsL_law_r11, w ∈ wsL_law := fun _ h => List.mem_append_left _ (List.mem_append_left _ (List.mem_append_left _ (List.mem_append_left _ (List.mem_append_left _ (List.mem_append_left _ (List.mem_append_left _ (List.mem_append_left _ (List.mem_append_left _ (List.mem_append_left _ (List.mem_append_left _ (List.mem_append_left _ (List.mem_append_right _ (List.mem_append_right _ (List.mem_append_right _ (List.mem_append_right _ (List.mem_append_right _ (List.mem_append_right _ (List.mem_append_right _ (List.mem_append_right _ (List.mem_append_right _ (List.mem_append_right _ (List.mem_append_left _ h))))))))))))))))))))))
theorem inA_12 : ∀ w ∈ wsL_law_r12, w ∈ wsL_law := fun _ h => List.mem_append_left _ (List.mem_append_left _ (List.mem_append_left _ (List.mem_append_left _ (List.mem_append_left _ (List.mem_append_left _ (List.mem_append_left _ (List.mem_append_left _ (List.mem_append_left _ (List.mem_append_left _ (List.mem_append_left _ (List.mem_append_left _ (List.mem_append_right _ (List.mem_append_right _ (List.mem_append_right _ (List.mem_append_right _ (List.mem_append_right _ (List.mem_append_right _ (List.mem_append_right _ (List.mem_append_right _ (List.mem_append_right _ (List.mem_append_right _ (List.mem_append_right _ (List.mem_append_left _ h)))))))))))))))))))))))
theorem inA_13 : ∀ w ∈ wsL_law_r13, w ∈ wsL_law := fun _ h => List.mem_append_left _ (List.mem_append_left _ (List.mem_append_left _ (List.mem_append_left _ (List.mem_append_left _ (List.mem_append_left _ (List.mem_append_left _ (List.mem_append_left _ (List.mem_append_left _ (List.mem_append_left _ (List.mem_append_left _ (List.mem_append_left _ (List.mem_append_right _ (List.mem_append_right _ (List.mem_append_right _ (List.mem_append_right _ (List.mem_append_right _ (List.mem_append_right _ (List.mem_append_right _ (List.mem_append_right _ (List.mem_append_right _ (List.mem_append_right _ (List.mem_append_right _ (List.mem_append_right _ (List.mem_append_left _ h))))))))))))))))))))))))
theorem inA_14 : ∀ w ∈ wsL_law_r14, w ∈ wsL_law := fun _ h => List.mem_append_left _ (List.mem_append_left _ (List.mem_append_left _ (List.mem_append_left _ (List.mem_append_left _ (List.mem_append_left _ (List.mem_append_left _ (List.mem_append_left _ (List.mem_append_left _ (List.mem_append_left _ (List.mem_append_left _ (List.mem_append_left _ (List.mem_append_right _ (List.mem_append_right _ (List.mem_append_right _ (List.mem_append_right _ (List.mem_append_right _ (List.mem_append_right _ (List.mem_append_right _ (List.mem_append_right _ (List.mem_append_right _ (List.mem_append_right _ (List.mem_append_right _ (List.mem_append_right _ (List.mem_append_right _ (List.mem_append_left _ h)))))))))))))))))))))))))
theorem inA_15 : ∀ w ∈ wsL_law_r15, w ∈ wsL_law := fun _ h => List.mem_append_left _ (List.mem_append_left _ (List.mem_append_left _ (List.mem_append_left _ (List.mem_append_left _ (List.mem_append_left _ (List.mem_append_left _ (List.mem_append_left _ (List.mem_append_left _ (List.mem_append_left _ (List.mem_append_left _ (List.mem_append_left _ (List.mem_append_right _ (List.mem_append_right _ (List.mem_append_right _ (List.mem_append_right _ (List.mem_append_right _ (List.mem_append_right _ (List.mem_append_right _ (List.mem_append_right _ (List.mem_append_right _ (List.mem_append_right _ (List.mem_append_right _ (List.mem_append_right _ (List.mem_append_right _ (List.mem_append_right _ (List.mem_append_left _ h))))))))))))))))))))))))))
theorem inA_16 : ∀ w ∈ wsL_law_r16, w ∈ wsL_law := fun _ h => List.mem_append_left _ (List.mem_append_left _ (List.mem_append_left _ (List.mem_append_left _ (List.mem_append_left _ (List.mem_append_left _ (List.mem_append_left _ (List.mem_append_left _ (List.mem_append_left _ (List.mem_append_left _ (List.mem_append_left _ (List.mem_append_left _ (List.mem_append_right _ (List.mem_append_right _ (List.mem_append_right _ (List.mem_append_right _ (List.mem_append_right _ (List.mem_append_right _ (List.mem_append_right _ (List.mem_append_right _ (List.mem_append_right _ (List.mem_append_right _ (List.mem_append_right _ (List.mem_append_right _ (List.mem_append_right _ (List.mem_append_right _ (List.mem_append_right _ (List.mem_append_left _ h)))))))))))))))))))))))))))
theorem inA_17 : ∀ w ∈ wsL_law_r17, w ∈ wsL_law := fun _ h => List.mem_append_left _ (List.mem_append_left _ (List.mem_append_left _ (List.mem_append_left _ (List.mem_append_left _ (List.mem_append_left _ (List.mem_append_left _ (List.mem_append_left _ (List.mem_append_left _ (List.mem_append_left _ (List.mem_append_left _ (List.mem_append_left _ (List.mem_append_right _ (List.mem_append_right _ (List.mem_append_right _ (List.mem_append_right _ (List.mem_append_right _ (List.mem_append_right _ (List.mem_append_right _ (List.mem_append_right _ (List.mem_append_right _ (List.mem_append_right _ (List.mem_append_right _ (List.mem_append_right _ (List.mem_append_right _ (List.mem_append_right _ (List.mem_append_right _ (List.mem_append_right _ (List.mem_append_left _ h))))))))))))))))))))))))))))
theorem inA_18 : ∀ w ∈ wsL_law_r18, w ∈ wsL_law := fun _ h => List.mem_append_left _ (List.mem_append_left _ (List.mem_append_left _ (List.mem_append_left _ (List.mem_append_left _ (List.mem_append_left _ (List.mem_append_left _ (List.mem_append_left _ (List.mem_append_left _ (List.mem_append_left _ (List.mem_append_left _ (List.mem_append_left _ (List.mem_append_right _ (List.mem_append_right _ (List.mem_append_right _ (List.mem_append_right _ (List.mem_append_right _ (List.mem_append_right _ (List.mem_append_right _ (List.mem_append_right _ (List.mem_append_right _ (List.mem_append_right _ (List.mem_append_right _ (List.mem_append_right _ (List.mem_append_right _ (List.mem_append_right _ (List.mem_append_right _ (List.mem_append_right _ (List.mem_append_right _ (List.mem_append_left _ h)))))))))))))))))))))))))))))
theorem inA_19 : ∀ w ∈ wsL_law_r19, w ∈ wsL_law := fun _ h => List.mem_append_left _ (List.mem_append_left _ (List.mem_append_left _ (List.mem_append_left _ (List.mem_append_left _ (List.mem_append_left _ (List.mem_append_left _ (List.mem_append_left _ (List.mem_append_left _ (List.mem_append_left _ (List.mem_append_left _ (List.mem_append_left _ (List.mem_append_right _ (List.mem_append_right _ (List.mem_append_right _ (List.mem_append_right _ (List.mem_append_right _ (List.mem_append_right _ (List.mem_append_right _ (List.mem_append_right _ (List.mem_append_right _ (List.mem_append_right _ (List.mem_append_right _ (List.mem_append_right _ (List.mem_append_right _ (List.mem_append_right _ (List.mem_append_right _ (List.mem_append_right _ (List.mem_append_right _ (List.mem_append_right _ (List.mem_append_left _ h))))))))))))))))))))))))))))))
theorem inA_20 : ∀ w ∈ wsL_law_r20, w ∈ wsL_law := fun _ h => List.mem_append_left _ (List.mem_append_left _ (List.mem_append_left _ (List.mem_append_left _ (List.mem_append_left _ (List.mem_append_left _ (List.mem_append_left _ (List.mem_append_left _ (List.mem_append_left _ (List.mem_append_left _ (List.mem_append_left _ (List.mem_append_left _ (List.mem_append_right _ (List.mem_append_right _ (List.mem_append_right _ (List.mem_append_right _ (List.mem_append_right _ (List.mem_append_right _ (List.mem_append_right _ (List.mem_append_right _ (List.mem_append_right _ (List.mem_append_right _ (List.mem_append_right _ (List.mem_append_right _ (List.mem_append_right _ (List.mem_append_right _ (List.mem_append_right _ (List.mem_append_right _ (List.mem_append_right _ (List.mem_append_right _ (List.mem_append_right _ (List.mem_append_left _ h)))))))))))))))))))))))))))))))
theorem inA_21 : ∀ w ∈ wsL_law_r21, w ∈ wsL_law := fun _ h => List.mem_append_left _ (List.mem_append_left _ (List.mem_append_left _ (List.mem_append_left _ (List.mem_append_left _ (List.mem_append_left _ (List.mem_append_left _ (List.mem_append_left _ (List.mem_append_left _ (List.mem_append_left _ (List.mem_append_left _ (List.mem_append_left _ (List.mem_append_right _ (List.mem_append_right _ (List.mem_append_right _ (List.mem_append_right _ (List.mem_append_right _ (List.mem_append_right _ (List.mem_append_right _ (List.mem_append_right _ (List.mem_append_right _ (List.mem_append_right _ (List.mem_append_right _ (List.mem_append_right _ (List.mem_append_right _ (List.mem_append_right _ (List.mem_append_right _ (List.mem_append_right _ (List.mem_append_right _ (List.mem_append_right _ (List.mem_append_right _ (List.mem_append_right _ (List.mem_append_left _ h))))))))))))))))))))))))))))))))
theorem inA_22 : ∀ w ∈ wsL_law_r22, w ∈ wsL_law := fun _ h => List.mem_append_left _ (List.mem_append_left _ (List.mem_append_left _ (List.mem_append_left _ (List.mem_append_left _ (List.mem_append_left _ (List.mem_append_left _ (List.mem_append_left _ (List.mem_append_left _ (List.mem_append_left _ (List.mem_append_left _ (List.mem_append_left _ (List.mem_append_right _ (List.mem_append_right _ (List.mem_append_right _ (List.mem_append_right _ (List.mem_append_right _ (List.mem_append_right _ (List.mem_append_right _ (List.mem_append_right _ (List.mem_append_right _ (List.mem_append_right _ (List.mem_append_right _ (List.mem_append_right _ (List.mem_append_right _ (List.mem_append_right _ (List.mem_append_right _ (List.mem_append_right _ (List.mem_append_right _ (List.mem_append_right _ (List.mem_append_right _ (List.mem_append_right _ (List.mem_append_right _ (List.mem_append_left _ h)))))))))))))))))))))))))))))))))
theorem inA_23 : ∀ w ∈ wsL_law_r23, w ∈ wsL_law := fun _ h => List.mem_append_left _ (List.mem_append_left _ (List.mem_append_left _ (List.mem_append_left _ (List.mem_append_left _ (List.mem_append_left _ (List.mem_append_left _ (List.mem_append_left _ (List.mem_append_left _ (List.mem_append_left _ (List.mem_append_left _ (List.mem_append_left _ (List.mem_append_right _ (List.mem_append_right _ (List.mem_append_right _ (List.mem_append_right _ (List.mem_append_right _ (List.mem_append_right _ (List.mem_append_right _ (List.mem_append_right _ (List.mem_append_right _ (List.mem_append_right _ (List.mem_append_right _ (List.mem_append_right _ (List.mem_append_right _ (List.mem_append_right _ (List.mem_append_right _ (List.mem_append_right _ (List.mem_append_right _ (List.mem_append_right _ (List.mem_append_right _ (List.mem_append_right _ (List.mem_append_right _ (List.mem_append_right _ (List.mem_append_left _ h))))))))))))))))))))))))))))))))))
theorem inA_24 : ∀ w ∈ wsL_law_r24, w ∈ wsL_law := fun _ h => List.mem_append_left _ (List.mem_append_left _ (List.mem_append_left _ (List.mem_append_left _ (List.mem_append_left _ (List.mem_append_left _ (List.mem_append_left _ (List.mem_append_left _ (List.mem_append_left _ (List.mem_append_left _ (List.mem_append_left _ (List.mem_append_left _ (List.mem_append_right _ (List.mem_append_right _ (List.mem_append_right _ (List.mem_append_right _ (List.mem_append_right _ (List.mem_append_right _ (List.mem_append_right _ (List.mem_append_right _ (List.mem_append_right _ (List.mem_append_right _ (List.mem_append_right _ (List.mem_append_right _ (List.mem_append_right _ (List.mem_append_right _ (List.mem_append_right _ (List.mem_append_right _ (List.mem_append_right _ (List.mem_append_right _ (List.mem_append_right _ (List.mem_append_right _ (List.mem_append_right _ (List.mem_append_right _ (List.mem_append_right _ (List.mem_append_left _ h)))))))))))))))))))))))))))))))))))
theorem inA_25 : ∀ w ∈ wsL_law_r25, w ∈ wsL_law := fun _ h => List.mem_append_left _ (List.mem_append_left _ (List.mem_append_left _ (List.mem_append_left _ (List.mem_append_left _ (List.mem_append_left _ (List.mem_append_left _ (List.mem_append_left _ (List.mem_append_left _ (List.mem_append_left _ (List.mem_append_left _ (List.mem_append_left _ (List.mem_append_right _ (List.mem_append_right _ (List.mem_append_right _ (List.mem_append_right _ (List.mem_append_right _ (List.mem_append_right _ (List.mem_append_right _ (List.mem_append_right _ (List.mem_append_right _ (List.mem_append_right _ (List.mem_append_right _ (List.mem_append_right _ (List.mem_append_right _ (List.mem_append_right _ (List.mem_append_right _ (List.mem_append_right _ (List.mem_append_right _ (List.mem_append_right _ (List.mem_append_right _ (List.mem_append_right _ (List.mem_append_right _ (List.mem_append_right _ (List.mem_append_right _ (List.mem_append_right _ (List.mem_append_left _ h))))))))))))))))))))))))))))))))))))
theorem inA_26 : ∀ w ∈ wsL_law_r26, w ∈ wsL_law := fun _ h => List.mem_append_left _ (List.mem_append_left _ (List.mem_append_left _ (List.mem_append_left _ (List.mem_append_left _ (List.mem_append_left _ (List.mem_append_left _ (List.mem_append_left _ (List.mem_append_left _ (List.mem_append_left _ (List.mem_append_left _ (List.mem_append_left _ (List.mem_append_right _ (List.mem_append_right _ (List.mem_append_right _ (List.mem_append_right _ (List.mem_append_right _ (List.mem_append_right _ (List.mem_append_right _ (List.mem_append_right _ (List.mem_append_right _ (List.mem_append_right _ (List.mem_append_right _ (List.mem_append_right _ (List.mem_append_right _ (List.mem_append_right _ (List.mem_append_right _ (List.mem_append_right _ (List.mem_append_right _ (List.mem_append_right _ (List.mem_append_right _ (List.mem_append_right _ (List.mem_append_right _ (List.mem_append_right _ (List.mem_append_right _ (List.mem_append_right _ (List.mem_append_right _ (List.mem_append_left _ h)))))))))))))))))))))))))))))))))))))
theorem inA_27 : ∀ w ∈ wsL_law_r27, w ∈ wsL_law := fun _ h => List.mem_append_left _ (List.mem_append_left _ (List.mem_append_left _ (List.mem_append_left _ (List.mem_append_left _ (List.mem_append_left _ (List.mem_append_left _ (List.mem_append_left _ (List.mem_append_left _ (List.mem_append_left _ (List.mem_append_left _ (List.mem_append_left _ (List.mem_append_right _ (List.mem_append_right _ (List.mem_append_right _ (List.mem_append_right _ (List.mem_append_right _ (List.mem_append_right _ (List.mem_append_right _ (List.mem_append_right _ (List.mem_append_right _ (List.mem_append_right _ (List.mem_append_right _ (List.mem_append_right _ (List.mem_append_right _ (List.mem_append_right _ (List.mem_append_right _ (List.mem_append_right _ (List.mem_append_right _ (List.mem_append_right _ (List.mem_append_right _ (List.mem_append_right _ (List.mem_append_right _ (List.mem_append_right _ (List.mem_append_right _ (List.mem_append_right _ (List.mem_append_right _ (List.mem_append_right _ (List.mem_append_left _ h))))))))))))))))))))))))))))))))))))))
theorem inA_28 : ∀ w ∈ wsL_law_r28, w ∈ wsL_law := fun _ h => List.mem_append_left _ (List.mem_append_left _ (List.mem_append_left _ (List.mem_append_left _ (List.mem_append_left _ (List.mem_append_left _ (List.mem_append_left _ (List.mem_append_left _ (List.mem_append_left _ (List.mem_append_left _ (List.mem_append_left _ (List.mem_append_left _ (List.mem_append_right _ (List.mem_append_right _ (List.mem_append_right _ (List.mem_append_right _ (List.mem_append_right _ (List.mem_append_right _ (List.mem_append_right _ (List.mem_append_right _ (List.mem_append_right _ (List.mem_append_right _ (List.mem_append_right _ (List.mem_append_right _ (List.mem_append_right _ (List.mem_append_right _ (List.mem_append_right _ (List.mem_append_right _ (List.mem_append_right _ (List.mem_append_right _ (List.mem_append_right _ (List.mem_append_right _ (List.mem_append_right _ (List.mem_append_right _ (List.mem_append_right _ (List.mem_append_right _ (List.mem_append_right _ (List.mem_append_right _ (List.mem_append_right _ (List.mem_append_left _ h)))))))))))))))))))))))))))))))))))))))
theorem inA_29 : ∀ w ∈ wsL_law_r29, w ∈ wsL_law := fun _ h => List.mem_append_left _ (List.mem_append_left _ (List.mem_append_left _ (List.mem_append_left _ (List.mem_append_left _ (List.mem_append_left _ (List.mem_append_left _ (List.mem_append_left _ (List.mem_append_left _ (List.mem_append_left _ (List.mem_append_left _ (List.mem_append_left _ (List.mem_append_right _ (List.mem_append_right _ (List.mem_append_right _ (List.mem_append_right _ (List.mem_append_right _ (List.mem_append_right _ (List.mem_append_right _ (List.mem_append_right _ (List.mem_append_right _ (List.mem_append_right _ (List.mem_append_right _ (List.mem_append_right _ (List.mem_append_right _ (List.mem_append_right _ (List.mem_append_right _ (List.mem_append_right _ (List.mem_append_right _ (List.mem_append_right _ (List.mem_append_right _ (List.mem_append_right _ (List.mem_append_right _ (List.mem_append_right _ (List.mem_append_right _ (List.mem_append_right _ (List.mem_append_right _ (List.mem_append_right _ (List.mem_append_right _ (List.mem_append_right _ (List.mem_append_left _ h))))))))))))))))))))))))))))))))))))))))
theorem inA_30 : ∀ w ∈ wsL_law_r30, w ∈ wsL_law := fun _ h => List.mem_append_left _ (List.mem_append_left _ (List.mem_append_left _ (List.mem_append_left _ (List.mem_append_left _ (List.mem_append_left _ (List.mem_append_left _ (List.mem_append_left _ (List.mem_append_left _ (List.mem_append_left _ (List.mem_append_left _ (List.mem_append_left _ (List.mem_append_right _ (List.mem_append_right _ (List.mem_append_right _ (List.mem_append_right _ (List.mem_append_right _ (List.mem_append_right _ (List.mem_append_right _ (List.mem_append_right _ (List.mem_append_right _ (List.mem_append_right _ (List.mem_append_right _ (List.mem_append_right _ (List.mem_append_right _ (List.mem_append_right _ (List.mem_append_right _ (List.mem_append_right _ (List.mem_append_right _ (List.mem_append_right _ (List.mem_append_right _ (List.mem_append_right _ (List.mem_append_right _ (List.mem_append_right _ (List.mem_append_right _ (List.mem_append_right _ (List.mem_append_right _ (List.mem_append_right _ (List.mem_append_right _ (List.mem_append_right _ (List.mem_append_right _ (List.mem_append_left _ h)))))))))))))))))))))))))))))))))))))))))
theorem inA_31 : ∀ w ∈ wsL_law_r31, w ∈ wsL_law := fun _ h => List.mem_append_left _ (List.mem_append_left _ (List.mem_append_left _ (List.mem_append_left _ (List.mem_append_left _ (List.mem_append_left _ (List.mem_append_left _ (List.mem_append_left _ (List.mem_append_left _ (List.mem_append_left _ (List.mem_append_left _ (List.mem_append_left _ (List.mem_append_right _ (List.mem_append_right _ (List.mem_append_right _ (List.mem_append_right _ (List.mem_append_right _ (List.mem_append_right _ (List.mem_append_right _ (List.mem_append_right _ (List.mem_append_right _ (List.mem_append_right _ (List.mem_append_right _ (List.mem_append_right _ (List.mem_append_right _ (List.mem_append_right _ (List.mem_append_right _ (List.mem_append_right _ (List.mem_append_right _ (List.mem_append_right _ (List.mem_append_right _ (List.mem_append_right _ (List.mem_append_right _ (List.mem_append_right _ (List.mem_append_right _ (List.mem_append_right _ (List.mem_append_right _ (List.mem_append_right _ (List.mem_append_right _ (List.mem_append_right _ (List.mem_append_right _ (List.mem_append_right _ (List.mem_append_left _ h))))))))))))))))))))))))))))))))))))))))))
theorem inA_32 : ∀ w ∈ wsL_law_r32, w ∈ wsL_law := fun _ h => List.mem_append_left _ (List.mem_append_left _ (List.mem_append_left _ (List.mem_append_left _ (List.mem_append_left _ (List.mem_append_left _ (List.mem_append_left _ (List.mem_append_left _ (List.mem_append_left _ (List.mem_append_left _ (List.mem_append_left _ (List.mem_append_left _ (List.mem_append_right _ (List.mem_append_right _ (List.mem_append_right _ (List.mem_append_right _ (List.mem_append_right _ (List.mem_append_right _ (List.mem_append_right _ (List.mem_append_right _ (List.mem_append_right _ (List.mem_append_right _ (List.mem_append_right _ (List.mem_append_right _ (List.mem_append_right _ (List.mem_append_right _ (List.mem_append_right _ (List.mem_append_right _ (List.mem_append_right _ (List.mem_append_right _ (List.mem_append_right _ (List.mem_append_right _ (List.mem_append_right _ (List.mem_append_right _ (List.mem_append_right _ (List.mem_append_right _ (List.mem_append_right _ (List.mem_append_right _ (List.mem_append_right _ (List.mem_append_right _ (List.mem_append_right _ (List.mem_append_right _ (List.mem_append_right _ (List.mem_append_left _ h)))))))))))))))))))))))))))))))))))))))))))
theorem inA_33 : ∀ w ∈ wsL_law_r33, w ∈ wsL_law := fun _ h => List.mem_append_left _ (List.mem_append_left _ (List.mem_append_left _ (List.mem_append_left _ (List.mem_append_left _ (List.mem_append_left _ (List.mem_append_left _ (List.mem_append_left _ (List.mem_append_left _ (List.mem_append_left _ (List.mem_append_left _ (List.mem_append_left _ (List.mem_append_right _ (List.mem_append_right _ (List.mem_append_right _ (List.mem_append_right _ (List.mem_append_right _ (List.mem_append_right _ (List.mem_append_right _ (List.mem_append_right _ (List.mem_append_right _ (List.mem_append_right _ (List.mem_append_right _ (List.mem_append_right _ (List.mem_append_right _ (List.mem_append_right _ (List.mem_append_right _ (List.mem_append_right _ (List.mem_append_right _ (List.mem_append_right _ (List.mem_append_right _ (List.mem_append_right _ (List.mem_append_right _ (List.mem_append_right _ (List.mem_append_right _ (List.mem_append_right _ (List.mem_append_right _ (List.mem_append_right _ (List.mem_append_right _ (List.mem_append_right _ (List.mem_append_right _ (List.mem_append_right _ (List.mem_append_right _ (List.mem_append_right _ (List.mem_append_left _ h))))))))))))))))))))))))))))))))))))))))))))
theorem inA_34 : ∀ w ∈ wsL_law_r34, w ∈ wsL_law := fun _ h => List.mem_append_left _ (List.mem_append_left _ (List.mem_append_left _ (List.mem_append_left _ (List.mem_append_left _ (List.mem_append_left _ (List.mem_append_left _ (List.mem_append_left _ (List.mem_append_left _ (List.mem_append_left _ (List.mem_append_left _ (List.mem_append_left _ (List.mem_append_right _ (List.mem_append_right _ (List.mem_append_right _ (List.mem_append_right _ (List.mem_append_right _ (List.mem_append_right _ (List.mem_append_right _ (List.mem_append_right _ (List.mem_append_right _ (List.mem_append_right _ (List.mem_append_right _ (List.mem_append_right _ (List.mem_append_right _ (List.mem_append_right _ (List.mem_append_right _ (List.mem_append_right _ (List.mem_append_right _ (List.mem_append_right _ (List.mem_append_right _ (List.mem_append_right _ (List.mem_append_right _ (List.mem_append_right _ (List.mem_append_right _ (List.mem_append_right _ (List.mem_append_right _ (List.mem_append_right _ (List.mem_append_right _ (List.mem_append_right _ (List.mem_append_right _ (List.mem_append_right _ (List.mem_append_right _ (List.mem_append_right _ (List.mem_append_right _ (List.mem_append_left _ h)))))))))))))))))))))))))))))))))))))))))))))
theorem inA_35 : ∀ w ∈ wsL_law_r35, w ∈ wsL_law := fun _ h => List.mem_append_left _ (List.mem_append_left _ (List.mem_append_left _ (List.mem_append_left _ (List.mem_append_left _ (List.mem_append_left _ (List.mem_append_left _ (List.mem_append_left _ (List.mem_append_left _ (List.mem_append_left _ (List.mem_append_left _ (List.mem_append_left _ (List.mem_append_right _ (List.mem_append_right _ (List.mem_append_right _ (List.mem_append_right _ (List.mem_append_right _ (List.mem_append_right _ (List.mem_append_right _ (List.mem_append_right _ (List.mem_append_right _ (List.mem_append_right _ (List.mem_append_right _ (List.mem_append_right _ (List.mem_append_right _ (List.mem_append_right _ (List.mem_append_right _ (List.mem_append_right _ (List.mem_append_right _ (List.mem_append_right _ (List.mem_append_right _ (List.mem_append_right _ (List.mem_append_right _ (List.mem_append_right _ (List.mem_append_right _ (List.mem_append_right _ (List.mem_append_right _ (List.mem_append_right _ (List.mem_append_right _ (List.mem_append_right _ (List.mem_append_right _ (List.mem_append_right _ (List.mem_append_right _ (List.mem_append_right _ (List.mem_append_right _ (List.mem_append_right _ (List.mem_append_left _ h))))))))))))))))))))))))))))))))))))))))))))))
theorem inA_36 : ∀ w ∈ wsL_law_r36, w ∈ wsL_law := fun _ h => List.mem_append_left _ (List.mem_append_left _ (List.mem_append_left _ (List.mem_append_left _ (List.mem_append_left _ (List.mem_append_left _ (List.mem_append_left _ (List.mem_append_left _ (List.mem_append_left _ (List.mem_append_left _ (List.mem_append_left _ (List.mem_append_left _ (List.mem_append_right _ (List.mem_append_right _ (List.mem_append_right _ (List.mem_append_right _ (List.mem_append_right _ (List.mem_append_right _ (List.mem_append_right _ (List.mem_append_right _ (List.mem_append_right _ (List.mem_append_right _ (List.mem_append_right _ (List.mem_append_right _ (List.mem_append_right _ (List.mem_append_right _ (List.mem_append_right _ (List.mem_append_right _ (List.mem_append_right _ (List.mem_append_right _ (List.mem_append_right _ (List.mem_append_right _ (List.mem_append_right _ (List.mem_append_right _ (List.mem_append_right _ (List.mem_append_right _ (List.mem_append_right _ (List.mem_append_right _ (List.mem_append_right _ (List.mem_append_right _ (List.mem_append_right _ (List.mem_append_right _ (List.mem_append_right _ (List.mem_append_right _ (List.mem_append_right _ (List.mem_append_right _ (List.mem_append_right _ (List.mem_append_left _ h)))))))))))))))))))))))))))))))))))))))))))))))
theorem inA_37 : ∀ w ∈ wsL_law_r37, w ∈ wsL_law := fun _ h => List.mem_append_left _ (List.mem_append_left _ (List.mem_append_left _ (List.mem_append_left _ (List.mem_append_left _ (List.mem_append_left _ (List.mem_append_left _ (List.mem_append_left _ (List.mem_append_left _ (List.mem_append_left _ (List.mem_append_left _ (List.mem_append_left _ (List.mem_append_right _ (List.mem_append_right _ (List.mem_append_right _ (List.mem_append_right _ (List.mem_append_right _ (List.mem_append_right _ (List.mem_append_right _ (List.mem_append_right _ (List.mem_append_right _ (List.mem_append_right _ (List.mem_append_right _ (List.mem_append_right _ (List.mem_append_right _ (List.mem_append_right _ (List.mem_append_right _ (List.mem_append_right _ (List.mem_append_right _ (List.mem_append_right _ (List.mem_append_right _ (List.mem_append_right _ (List.mem_append_right _ (List.mem_append_right _ (List.mem_append_right _ (List.mem_append_right _ (List.mem_append_right _ (List.mem_append_right _ (List.mem_append_right _ (List.mem_append_right _ (List.mem_append_right _ (List.mem_append_right _ (List.mem_append_right _ (List.mem_append_right _ (List.mem_append_right _ (List.mem_append_right _ (List.mem_append_right _ (List.mem_append_right _ (List.mem_append_left _ h))))))))))))))))))))))))))))))))))))))))))))))))
theorem inA_38 : ∀ w ∈ wsL_law_r38, w ∈ wsL_law := fun _ h => List.mem_append_left _ (List.mem_append_left _ (List.mem_append_left _ (List.mem_append_left _ (List.mem_append_left _ (List.mem_append_left _ (List.mem_append_left _ (List.mem_append_left _ (List.mem_append_left _ (List.mem_append_left _ (List.mem_append_left _ (List.mem_append_left _ (List.mem_append_right _ (List.mem_append_right _ (List.mem_append_right _ (List.mem_append_right _ (List.mem_append_right _ (List.mem_append_right _ (List.mem_append_right _ (List.mem_append_right _ (List.mem_append_right _ (List.mem_append_right _ (List.mem_append_right _ (List.mem_append_right _ (List.mem_append_right _ (List.mem_append_right _ (List.mem_append_right _ (List.mem_append_right _ (List.mem_append_right _ (List.mem_append_right _ (List.mem_append_right _ (List.mem_append_right _ (List.mem_append_right _ (List.mem_append_right _ (List.mem_append_right _ (List.mem_append_right _ (List.mem_append_right _ (List.mem_append_right _ (List.mem_append_right _ (List.mem_append_right _ (List.mem_append_right _ (List.mem_append_right _ (List.mem_append_right _ (List.mem_append_right _ (List.mem_append_right _ (List.mem_append_right _ (List.mem_append_right _ (List.mem_append_right _ (List.mem_append_right _ (List.mem_append_left _ h)))))))))))))))))))))))))))))))))))))))))))))))))
theorem inA_39 : ∀ w ∈ wsL_law_r39, w ∈ wsL_law := fun _ h => List.mem_append_left _ (List.mem_append_left _ (List.mem_append_left _ (List.mem_append_left _ (List.mem_append_left _ (List.mem_append_left _ (List.mem_append_left _ (List.mem_append_left _ (List.mem_append_left _ (List.mem_append_left _ (List.mem_append_left _ (List.mem_append_left _ (List.mem_append_right _ (List.mem_append_right _ (List.mem_append_right _ (List.mem_append_right _ (List.mem_append_right _ (List.mem_append_right _ (List.mem_append_right _ (List.mem_append_right _ (List.mem_append_right _ (List.mem_append_right _ (List.mem_append_right _ (List.mem_append_right _ (List.mem_append_right _ (List.mem_append_right _ (List.mem_append_right _ (List.mem_append_right _ (List.mem_append_right _ (List.mem_append_right _ (List.mem_append_right _ (List.mem_append_right _ (List.mem_append_right _ (List.mem_append_right _ (List.mem_append_right _ (List.mem_append_right _ (List.mem_append_right _ (List.mem_append_right _ (List.mem_append_right _ (List.mem_append_right _ (List.mem_append_right _ (List.mem_append_right _ (List.mem_append_right _ (List.mem_append_right _ (List.mem_append_right _ (List.mem_append_right _ (List.mem_append_right _ (List.mem_append_right _ (List.mem_append_right _ (List.mem_append_right _ (h))))))))))))))))))))))))))))))))))))))))))))))))))
theorem inCX10 : ∀ w ∈ wsX100, w ∈ wsL_law := fun _ h => List.mem_append_left _ (List.mem_append_left _ (List.mem_append_left _ (List.mem_append_left _ (List.mem_append_left _ (List.mem_append_left _ (List.mem_append_left _ (List.mem_append_left _ (List.mem_append_left _ (List.mem_append_left _ (List.mem_append_left _ (List.mem_append_right _ h)))))))))))
theorem inCX11 : ∀ w ∈ wsX110, w ∈ wsL_law := fun _ h => List.mem_append_left _ (List.mem_append_left _ (List.mem_append_left _ (List.mem_append_left _ (List.mem_append_left _ (List.mem_append_left _ (List.mem_append_left _ (List.mem_append_left _ (List.mem_append_left _ (List.mem_append_left _ (List.mem_append_right _ h))))))))))
theorem inCX6 : ∀ w ∈ wsX60, w ∈ wsL_law := fun _ h => List.mem_append_left _ (List.mem_append_left _ (List.mem_append_left _ (List.mem_append_left _ (List.mem_append_left _ (List.mem_append_left _ (List.mem_append_left _ (List.mem_append_left _ (List.mem_append_left _ (List.mem_append_right _ h)))))))))
theorem inCX1 : ∀ w ∈ wsX10, w ∈ wsL_law := fun _ h => List.mem_append_left _ (List.mem_append_left _ (List.mem_append_left _ (List.mem_append_left _ (List.mem_append_left _ (List.mem_append_left _ (List.mem_append_left _ (List.mem_append_left _ (List.mem_append_right _ h))))))))
theorem inCX3 : ∀ w ∈ wsX30, w ∈ wsL_law := fun _ h => List.mem_append_left _ (List.mem_append_left _ (List.mem_append_left _ (List.mem_append_left _ (List.mem_append_left _ (List.mem_append_left _ (List.mem_append_left _ (List.mem_append_right _ h)))))))
theorem inCX9 : ∀ w ∈ wsX90, w ∈ wsL_law := fun _ h => List.mem_append_left _ (List.mem_append_left _ (List.mem_append_left _ (List.mem_append_left _ (List.mem_append_left _ (List.mem_append_left _ (List.mem_append_right _ h))))))
theorem inCX2 : ∀ w ∈ wsX20, w ∈ wsL_law := fun _ h => List.mem_append_left _ (List.mem_append_left _ (List.mem_append_left _ (List.mem_append_left _ (List.mem_append_left _ (List.mem_append_right _ h)))))
theorem inCX7 : ∀ w ∈ wsX70, w ∈ wsL_law := fun _ h => List.mem_append_left _ (List.mem_append_left _ (List.mem_append_left _ (List.mem_append_left _ (List.mem_append_right _ h))))
theorem inCX5 : ∀ w ∈ wsX50, w ∈ wsL_law := fun _ h => List.mem_append_left _ (List.mem_append_left _ (List.mem_append_left _ (List.mem_append_right _ h)))
theorem inCX0 : ∀ w ∈ wsX00, w ∈ wsL_law := fun _ h => List.mem_append_left _ (List.mem_append_left _ (List.mem_append_right _ h))
theorem inCX4 : ∀ w ∈ wsX40, w ∈ wsL_law := fun _ h => List.mem_append_left _ (List.mem_append_right _ h)
theorem inCX8 : ∀ w ∈ wsX80, w ∈ wsL_law := fun _ h => List.mem_append_right _ h
def okW (w : Cond) : Prop := (w.onTables && w.keeps) = true ∨ ∃ ty, w = .arrayClass ty
theorem okAll {l : List Cond} (h : l.all goodWord = true) : ∀ w ∈ l, okW w := fun w hw => good_of_word (List.all_eq_true.mp h w hw)
theorem ok_wsL_law_r1 : ∀ w ∈ wsL_law_r1, okW w := okAll (by decide +kernel)
theorem ok_wsL_law_r2 : ∀ w ∈ wsL_law_r2, okW w := okAll (by decide +kernel)
theorem ok_wsL_law_r3 : ∀ w ∈ wsL_law_r3, okW w := okAll (by decide +kernel)
theorem ok_wsL_law_r4 : ∀ w ∈ wsL_law_r4, okW w := okAll (by decide +kernel)
theorem ok_wsL_law_r5 : ∀ w ∈ wsL_law_r5, okW w := okAll (by decide +kernel)
theorem ok_wsL_law_r6 : ∀ w ∈ wsL_law_r6, okW w := okAll (by decide +kernel)
theorem ok_wsL_law_r7 : ∀ w ∈ wsL_law_r7, okW w := okAll (by decide +kernel)
theorem ok_wsL_law_r8 : ∀ w ∈ wsL_law_r8, okW w := okAll (by decide +kernel)
theorem ok_wsL_law_r9 : ∀ w ∈ wsL_law_r9, okW w := okAll (by decide +kernel)
theorem ok_wsL_law_r10 : ∀ w ∈ wsL_law_r10, okW w := okAll (by decide +kernel)
theorem ok_wsL_law_r11 : ∀ w ∈ wsL_law_r11, okW w := okAll (by decide +kernel)
theorem ok_wsL_law_r12 : ∀ w ∈ wsL_law_r12, okW w := okAll (by decide +kernel)
theorem ok_wsL_law_r13 : ∀ w ∈ wsL_law_r13, okW w := okAll (by decide +kernel)
theorem ok_wsL_law_r14 : ∀ w ∈ wsL_law_r14, okW w := okAll (by decide +kernel)
theorem ok_wsL_law_r15 : ∀ w ∈ wsL_law_r15, okW w := okAll (by decide +kernel)
theorem ok_wsL_law_r16 : ∀ w ∈ wsL_law_r16, okW w := okAll (by decide +kernel)
theorem ok_wsL_law_r17 : ∀ w ∈ wsL_law_r17, okW w := okAll (by decide +kernel)
theorem ok_wsL_law_r18 : ∀ w ∈ wsL_law_r18, okW w := okAll (by decide +kernel)
theorem ok_wsL_law_r19 : ∀ w ∈ wsL_law_r19, okW w := okAll (by decide +kernel)
theorem ok_wsL_law_r20 : ∀ w ∈ wsL_law_r20, okW w := okAll (by decide +kernel)
theorem ok_wsL_law_r21 : ∀ w ∈ wsL_law_r21, okW w := okAll (by decide +kernel)
theorem ok_wsL_law_r22 : ∀ w ∈ wsL_law_r22, okW w := okAll (by decide +kernel)
theorem ok_wsL_law_r23 : ∀ w ∈ wsL_law_r23, okW w := okAll (by decide +kernel)
theorem ok_wsL_law_r24 : ∀ w ∈ wsL_law_r24, okW w := okAll (by decide +kernel)
theorem ok_wsL_law_r25 : ∀ w ∈ wsL_law_r25, okW w := okAll (by decide +kernel)
theorem ok_wsL_law_r26 : ∀ w ∈ wsL_law_r26, okW w := okAll (by decide +kernel)
theorem ok_wsL_law_r27 : ∀ w ∈ wsL_law_r27, okW w := okAll (by decide +kernel)
theorem ok_wsL_law_r28 : ∀ w ∈ wsL_law_r28, okW w := okAll (by decide +kernel)
theorem ok_wsL_law_r29 : ∀ w ∈ wsL_law_r29, okW w := okAll (by decide +kernel)
theorem ok_wsL_law_r30 : ∀ w ∈ wsL_law_r30, okW w := okAll (by decide +kernel)
theorem ok_wsL_law_r31 : ∀ w ∈ wsL_law_r31, okW w := okAll (by decide +kernel)
theorem ok_wsL_law_r32 : ∀ w ∈ wsL_law_r32, okW w := okAll (by decide +kernel)
theorem ok_wsL_law_r33 : ∀ w ∈ wsL_law_r33, okW w := okAll (by decide +kernel)
theorem ok_wsL_law_r34 : ∀ w ∈ wsL_law_r34, okW w := okAll (by decide +kernel)
theorem ok_wsL_law_r35 : ∀ w ∈ wsL_law_r35, okW w := okAll (by decide +kernel)
theorem ok_wsL_law_r36 : ∀ w ∈ wsL_law_r36, okW w := okAll (by decide +kernel)
theorem ok_wsL_law_r37 : ∀ w ∈ wsL_law_r37, okW w := okAll (by decide +kernel)
theorem ok_wsL_law_r38 : ∀ w ∈ wsL_law_r38, okW w := okAll (by decide +kernel)
theorem ok_wsL_law_r39 : ∀ w ∈ wsL_law_r39, okW w := okAll (by decide +kernel)
theorem ok_wsX100 : ∀ w ∈ wsX100, okW w := okAll (by decide +kernel)
theorem ok_wsX110 : ∀ w ∈ wsX110, okW w := okAll (by decide +kernel)
theorem ok_wsX60 : ∀ w ∈ wsX60, okW w := okAll (by decide +kernel)
theorem ok_wsX10 : ∀ w ∈ wsX10, okW w := okAll (by decide +kernel)
theorem ok_wsX30 : ∀ w ∈ wsX30, okW w := okAll (by decide +kernel)
theorem ok_wsX90 : ∀ w ∈ wsX90, okW w := okAll (by decide +kernel)
theorem ok_wsX20 : ∀ w ∈ wsX20, okW w := okAll (by decide +kernel)
theorem ok_wsX70 : ∀ w ∈ wsX70, okW w := okAll (by decide +kernel)
theorem ok_wsX50 : ∀ w ∈ wsX50, okW w := okAll (by decide +kernel)
theorem ok_wsX00 : ∀ w ∈ wsX00, okW w := okAll (by decide +kernel)
theorem ok_wsX40 : ∀ w ∈ wsX40, okW w := okAll (by decide +kernel)
theorem ok_wsX80 : ∀ w ∈ wsX80, okW w := okAll (by decide +kernel)
theorem wsL_good : ∀ w ∈ wsL_law, okW w := fun w h => (List.mem_append.mp h).elim (fun h => (List.mem_append.mp h).elim (fun h => (List.mem_append.mp h).elim (fun h => (List.mem_append.mp h).elim (fun h => (List.mem_append.mp h).elim (fun h => (List.mem_append.mp h).elim (fun h => (List.mem_append.mp h).elim (fun h => (List.mem_append.mp h).elim (fun h => (List.mem_append.mp h).elim (fun h => (List.mem_append.mp h).elim (fun h => (List.mem_append.mp h).elim (fun h => (List.mem_append.mp h).elim (fun h => (List.mem_append.mp h).elim (fun h => ok_wsL_law_r1 w h) (fun h => (List.mem_append.mp h).elim (fun h => ok_wsL_law_r2 w h) (fun h => (List.mem_append.mp h).elim (fun h => ok_wsL_law_r3 w h) (fun h => (List.mem_append.mp h).elim (fun h => ok_wsL_law_r4 w h) (fun h => (List.mem_append.mp h).elim (fun h => ok_wsL_law_r5 w h) (fun h => (List.mem_append.mp h).elim (fun h => ok_wsL_law_r6 w h) (fun h => (List.mem_append.mp h).elim (fun h => ok_wsL_law_r7 w h) (fun h => (List.mem_append.mp h).elim (fun h => ok_wsL_law_r8 w h) (fun h => (List.mem_append.mp h).elim (fun h => ok_wsL_law_r9 w h) (fun h => (List.mem_append.mp h).elim (fun h => ok_wsL_law_r10 w h) (fun h => (List.mem_append.mp h).elim (fun h => ok_wsL_law_r11 w h) (fun h => (List.mem_append.mp h).elim (fun h => ok_wsL_law_r12 w h) (fun h => (List.mem_append.mp h).elim (fun h => ok_wsL_law_r13 w h) (fun h => (List.mem_append.mp h).elim (fun h => ok_wsL_law_r14 w h) (fun h => (List.mem_append.mp h).elim (fun h => ok_wsL_law_r15 w h) (fun h => (List.mem_append.mp h).elim (fun h => ok_wsL_law_r16 w h) (fun h => (List.mem_append.mp h).elim (fun h => ok_wsL_law_r17 w h) (fun h => (List.mem_append.mp h).elim (fun h => ok_wsL_law_r18 w h) (fun h => (List.mem_append.mp h).elim (fun h => ok_wsL_law_r19 w h) (fun h => (List.mem_append.mp h).elim (fun h => ok_wsL_law_r20 w h) (fun h => (List.mem_append.mp h).elim (fun h => ok_wsL_law_r21 w h) (fun h => (List.mem_append.mp h).elim (fun h => ok_wsL_law_r22 w h) (fun h => (List.mem_append.mp h).elim (fun h => ok_wsL_law_r23 w h) (fun h => (List.mem_append.mp h).elim (fun h => ok_wsL_law_r24 w h) (fun h => (List.mem_append.mp h).elim (fun h => ok_wsL_law_r25 w h) (fun h => (List.mem_append.mp h).elim (fun h => ok_wsL_law_r26 w h) (fun h => (List.mem_append.mp h).elim (fun h => ok_wsL_law_r27 w h) (fun h => (List.mem_append.mp h).elim (fun h => ok_wsL_law_r28 w h) (fun h => (List.mem_append.mp h).elim (fun h => ok_wsL_law_r29 w h) (fun h => (List.mem_append.mp h).elim (fun h => ok_wsL_law_r30 w h) (fun h => (List.mem_append.mp h).elim (fun h => ok_wsL_law_r31 w h) (fun h => (List.mem_append.mp h).elim (fun h => ok_wsL_law_r32 w h) (fun h => (List.mem_append.mp h).elim (fun h => ok_wsL_law_r33 w h) (fun h => (List.mem_append.mp h).elim (fun h => ok_wsL_law_r34 w h) (fun h => (List.mem_append.mp h).elim (fun h => ok_wsL_law_r35 w h) (fun h => (List.mem_append.mp h).elim (fun h => ok_wsL_law_r36 w h) (fun h => (List.mem_append.mp h).elim (fun h => ok_wsL_law_r37 w h) (fun h => (List.mem_append.mp h).elim (fun h => ok_wsL_law_r38 w h) (fun h => ok_wsL_law_r39 w h))))))))))))))))))))))))))))))))))))))) (fun h => ok_wsX100 w h)) (fun h => ok_wsX110 w h)) (fun h => ok_wsX60 w h)) (fun h => ok_wsX10 w h)) (fun h => ok_wsX30 w h)) (fun h => ok_wsX90 w h)) (fun h => ok_wsX20 w h)) (fun h => ok_wsX70 w h)) (fun h => ok_wsX50 w h)) (fun h => ok_wsX00 w h)) (fun h => ok_wsX40 w h)) (fun h => ok_wsX80 w h)
theorem gdV {Ts : List Cond} (hs : ∀ w ∈ wsL_law, w ∈ Ts) {own C : String} {idx maxL : Nat} {y : MethodName} {b : ByteArray} {ret : Option FieldType} (h1 : Cond.methodLink own idx y ∈ wsL_law) (h : Cond.instanceMethod y ∈ wsL_law ∧ Cond.selects C y y ∈ wsL_law ∧ Cond.initialized C ∈ wsL_law ∧ Cond.code y b maxL ret ∈ wsL_law) : GoodIn Ts (wsV own idx C y (Cond.code y b maxL ret :: wsL_law)) := by
  intro w hw
  have hm : w ∈ wsL_law := by
    rcases List.mem_append.mp hw with hw | hw
    · simp only [List.mem_cons, List.not_mem_nil, or_false] at hw
      rcases hw with rfl | rfl | rfl | rfl
      · exact h1
      · exact h.1
      · exact h.2.1
      · exact h.2.2.1
    · rcases List.mem_cons.mp hw with rfl | hw
      · exact h.2.2.2
      · exact hw
  exact ⟨hs w hm, wsL_good w hm⟩
theorem gdS {Ts : List Cond} (hs : ∀ w ∈ wsL_law, w ∈ Ts) {own : String} {idx maxL : Nat} {y : MethodName} {b : ByteArray} {ret : Option FieldType} (h1 : Cond.methodLink own idx y ∈ wsL_law) (h : Cond.static y ∈ wsL_law ∧ Cond.initialized y.cls ∈ wsL_law ∧ Cond.code y b maxL ret ∈ wsL_law) : GoodIn Ts (va_wsS own idx y (Cond.code y b maxL ret :: wsL_law)) := by
  intro w hw
  have hm : w ∈ wsL_law := by
    rcases List.mem_append.mp hw with hw | hw
    · simp only [List.mem_cons, List.not_mem_nil, or_false] at hw
      rcases hw with rfl | rfl | rfl
      · exact h1
      · exact h.1
      · exact h.2.1
    · rcases List.mem_cons.mp hw with rfl | hw
      · exact h.2.2
      · exact hw
  exact ⟨hs w hm, wsL_good w hm⟩
theorem gdI {Ts : List Cond} (hs : ∀ w ∈ wsL_law, w ∈ Ts) {maxL : Nat} {y : MethodName} {b : ByteArray} {ret : Option FieldType} (h : Cond.code y b maxL ret ∈ wsL_law) : GoodIn Ts (Cond.code y b maxL ret :: wsL_law) := by
  intro w hw
  have hm : w ∈ wsL_law := by
    rcases List.mem_cons.mp hw with rfl | hw
    · exact h
    · exact hw
  exact ⟨hs w hm, wsL_good w hm⟩
theorem uS {a : Cond} : ∀ w ∈ wsL_law, w ∈ a :: wsL_law := fun _ h => List.mem_cons_of_mem _ h
def uJ7_fill_53178 : List Cond := .code yJ7_fill_53178 cJ7_fill_53178 4 none :: wsL_law
theorem vJ7_fill_53178 : Cond.static yJ7_fill_53178 ∈ wsL_law ∧ Cond.initialized RJ7 ∈ wsL_law ∧ Cond.code yJ7_fill_53178 cJ7_fill_53178 4 none ∈ wsL_law := ⟨(inA_3 _ (List.mem_of_getElem? (i := 19) rfl)), (inA_3 _ (List.mem_of_getElem? (i := 20) rfl)), (inA_3 _ (List.mem_of_getElem? (i := 21) rfl))⟩
def uX0_init : List Cond := .code yX0_init cX0_init 1 none :: wsL_law
theorem vX0_init : Cond.code yX0_init cX0_init 1 none ∈ wsL_law := (inA_6 _ (List.mem_of_getElem? (i := 10) rfl))
def uX0_hasOutline : List Cond := .code yX0_hasOutline cX0_hasOutline 2 (some .boolean) :: wsL_law
theorem vX0_hasOutline : Cond.instanceMethod yX0_hasOutline ∈ wsL_law ∧ Cond.selects RX0 yX0_hasOutline yX0_hasOutline ∈ wsL_law ∧ Cond.initialized RX0 ∈ wsL_law ∧ Cond.code yX0_hasOutline cX0_hasOutline 2 (some .boolean) ∈ wsL_law := ⟨(inA_36 _ (List.mem_of_getElem? (i := 0) rfl)), (inA_36 _ (List.mem_of_getElem? (i := 1) rfl)), (inA_2 _ (List.mem_of_getElem? (i := 22) rfl)), (inA_36 _ (List.mem_of_getElem? (i := 2) rfl))⟩
def uX0_onEdge : List Cond := .code yX0_onEdge cX0_onEdge 1 (some .boolean) :: wsL_law
theorem vX0_onEdge : Cond.static yX0_onEdge ∈ wsL_law ∧ Cond.initialized RX0 ∈ wsL_law ∧ Cond.code yX0_onEdge cX0_onEdge 1 (some .boolean) ∈ wsL_law := ⟨(inA_36 _ (List.mem_of_getElem? (i := 16) rfl)), (inA_2 _ (List.mem_of_getElem? (i := 22) rfl)), (inA_36 _ (List.mem_of_getElem? (i := 17) rfl))⟩
def uX0_bit : List Cond := .code yX0_bit cX0_bit 4 (some .boolean) :: wsL_law
theorem vX0_bit : Cond.instanceMethod yX0_bit ∈ wsL_law ∧ Cond.selects RX0 yX0_bit yX0_bit ∈ wsL_law ∧ Cond.initialized RX0 ∈ wsL_law ∧ Cond.code yX0_bit cX0_bit 4 (some .boolean) ∈ wsL_law := ⟨(inA_20 _ (List.mem_of_getElem? (i := 16) rfl)), (inA_20 _ (List.mem_of_getElem? (i := 17) rfl)), (inA_2 _ (List.mem_of_getElem? (i := 22) rfl)), (inA_20 _ (List.mem_of_getElem? (i := 18) rfl))⟩
def uX0_has : List Cond := .code yX0_has cX0_has 4 (some .boolean) :: wsL_law
theorem vX0_has : Cond.instanceMethod yX0_has ∈ wsL_law ∧ Cond.selects RX0 yX0_has yX0_has ∈ wsL_law ∧ Cond.initialized RX0 ∈ wsL_law ∧ Cond.code yX0_has cX0_has 4 (some .boolean) ∈ wsL_law := ⟨(inA_36 _ (List.mem_of_getElem? (i := 12) rfl)), (inA_36 _ (List.mem_of_getElem? (i := 13) rfl)), (inA_2 _ (List.mem_of_getElem? (i := 22) rfl)), (inA_36 _ (List.mem_of_getElem? (i := 14) rfl))⟩
def uJ6_bitCount_0f7a4 : List Cond := .code yJ6_bitCount_0f7a4 cJ6_bitCount_0f7a4 1 (some .int) :: wsL_law
theorem vJ6_bitCount_0f7a4 : Cond.static yJ6_bitCount_0f7a4 ∈ wsL_law ∧ Cond.initialized RJ6 ∈ wsL_law ∧ Cond.code yJ6_bitCount_0f7a4 cJ6_bitCount_0f7a4 1 (some .int) ∈ wsL_law := ⟨(inA_16 _ (List.mem_of_getElem? (i := 2) rfl)), (inA_16 _ (List.mem_of_getElem? (i := 3) rfl)), (inA_16 _ (List.mem_of_getElem? (i := 4) rfl))⟩
def uX0_countCubes : List Cond := .code yX0_countCubes cX0_countCubes 4 (some .int) :: wsL_law
theorem vX0_countCubes : Cond.instanceMethod yX0_countCubes ∈ wsL_law ∧ Cond.selects RX0 yX0_countCubes yX0_countCubes ∈ wsL_law ∧ Cond.initialized RX0 ∈ wsL_law ∧ Cond.code yX0_countCubes cX0_countCubes 4 (some .int) ∈ wsL_law := ⟨(inA_20 _ (List.mem_of_getElem? (i := 12) rfl)), (inA_20 _ (List.mem_of_getElem? (i := 13) rfl)), (inA_2 _ (List.mem_of_getElem? (i := 22) rfl)), (inA_20 _ (List.mem_of_getElem? (i := 14) rfl))⟩
def uX0_isSeenAt : List Cond := .code yX0_isSeenAt cX0_isSeenAt 5 (some .boolean) :: wsL_law
theorem vX0_isSeenAt : Cond.instanceMethod yX0_isSeenAt ∈ wsL_law ∧ Cond.selects RX0 yX0_isSeenAt yX0_isSeenAt ∈ wsL_law ∧ Cond.initialized RX0 ∈ wsL_law ∧ Cond.code yX0_isSeenAt cX0_isSeenAt 5 (some .boolean) ∈ wsL_law := ⟨(inA_37 _ (List.mem_of_getElem? (i := 11) rfl)), (inA_37 _ (List.mem_of_getElem? (i := 12) rfl)), (inA_2 _ (List.mem_of_getElem? (i := 22) rfl)), (inA_37 _ (List.mem_of_getElem? (i := 13) rfl))⟩
def uX0_anyAlong : List Cond := .code yX0_anyAlong cX0_anyAlong 5 (some .boolean) :: wsL_law
theorem vX0_anyAlong : Cond.instanceMethod yX0_anyAlong ∈ wsL_law ∧ Cond.selects RX0 yX0_anyAlong yX0_anyAlong ∈ wsL_law ∧ Cond.initialized RX0 ∈ wsL_law ∧ Cond.code yX0_anyAlong cX0_anyAlong 5 (some .boolean) ∈ wsL_law := ⟨(inA_37 _ (List.mem_of_getElem? (i := 7) rfl)), (inA_37 _ (List.mem_of_getElem? (i := 8) rfl)), (inA_2 _ (List.mem_of_getElem? (i := 22) rfl)), (inA_37 _ (List.mem_of_getElem? (i := 9) rfl))⟩
def uX0_countEmpty : List Cond := .code yX0_countEmpty cX0_countEmpty 5 (some .int) :: wsL_law
theorem vX0_countEmpty : Cond.instanceMethod yX0_countEmpty ∈ wsL_law ∧ Cond.selects RX0 yX0_countEmpty yX0_countEmpty ∈ wsL_law ∧ Cond.initialized RX0 ∈ wsL_law ∧ Cond.code yX0_countEmpty cX0_countEmpty 5 (some .int) ∈ wsL_law := ⟨(inA_37 _ (List.mem_of_getElem? (i := 3) rfl)), (inA_37 _ (List.mem_of_getElem? (i := 4) rfl)), (inA_2 _ (List.mem_of_getElem? (i := 22) rfl)), (inA_37 _ (List.mem_of_getElem? (i := 5) rfl))⟩
def uX8_init : List Cond := .code yX8_init cX8_init 1 none :: wsL_law
theorem vX8_init : Cond.code yX8_init cX8_init 1 none ∈ wsL_law := (inA_4 _ (List.mem_of_getElem? (i := 9) rfl))
def uX1_init : List Cond := .code yX1_init cX1_init 1 none :: wsL_law
theorem vX1_init : Cond.code yX1_init cX1_init 1 none ∈ wsL_law := (inA_3 _ (List.mem_of_getElem? (i := 23) rfl))
def uX6_seen : List Cond := .code yX6_seen cX6_seen 5 (some .int) :: wsL_law
theorem vX6_seen : Cond.instanceMethod yX6_seen ∈ wsL_law ∧ Cond.selects RX6 yX6_seen yX6_seen ∈ wsL_law ∧ Cond.initialized RX6 ∈ wsL_law ∧ Cond.code yX6_seen cX6_seen 5 (some .int) ∈ wsL_law := ⟨(inA_11 _ (List.mem_of_getElem? (i := 15) rfl)), (inA_11 _ (List.mem_of_getElem? (i := 16) rfl)), (inA_1 _ (List.mem_of_getElem? (i := 14) rfl)), (inA_11 _ (List.mem_of_getElem? (i := 17) rfl))⟩
def uX6_hasSquare : List Cond := .code yX6_hasSquare cX6_hasSquare 3 (some .boolean) :: wsL_law
theorem vX6_hasSquare : Cond.instanceMethod yX6_hasSquare ∈ wsL_law ∧ Cond.selects RX6 yX6_hasSquare yX6_hasSquare ∈ wsL_law ∧ Cond.initialized RX6 ∈ wsL_law ∧ Cond.code yX6_hasSquare cX6_hasSquare 3 (some .boolean) ∈ wsL_law := ⟨(inA_10 _ (List.mem_of_getElem? (i := 10) rfl)), (inA_10 _ (List.mem_of_getElem? (i := 11) rfl)), (inA_1 _ (List.mem_of_getElem? (i := 14) rfl)), (inA_10 _ (List.mem_of_getElem? (i := 12) rfl))⟩
def uX6_placeOf : List Cond := .code yX6_placeOf cX6_placeOf 3 (some .int) :: wsL_law
theorem vX6_placeOf : Cond.instanceMethod yX6_placeOf ∈ wsL_law ∧ Cond.selects RX6 yX6_placeOf yX6_placeOf ∈ wsL_law ∧ Cond.initialized RX6 ∈ wsL_law ∧ Cond.code yX6_placeOf cX6_placeOf 3 (some .int) ∈ wsL_law := ⟨(inA_10 _ (List.mem_of_getElem? (i := 15) rfl)), (inA_10 _ (List.mem_of_getElem? (i := 16) rfl)), (inA_1 _ (List.mem_of_getElem? (i := 14) rfl)), (inA_10 _ (List.mem_of_getElem? (i := 17) rfl))⟩
def uX8_lookAround : List Cond := .code yX8_lookAround cX8_lookAround 12 none :: wsL_law
theorem vX8_lookAround : Cond.instanceMethod yX8_lookAround ∈ wsL_law ∧ Cond.selects RX8 yX8_lookAround yX8_lookAround ∈ wsL_law ∧ Cond.initialized RX8 ∈ wsL_law ∧ Cond.code yX8_lookAround cX8_lookAround 12 none ∈ wsL_law := ⟨(inA_15 _ (List.mem_of_getElem? (i := 11) rfl)), (inA_15 _ (List.mem_of_getElem? (i := 12) rfl)), (inA_4 _ (List.mem_of_getElem? (i := 3) rfl)), (inA_15 _ (List.mem_of_getElem? (i := 13) rfl))⟩
def uX1_measure : List Cond := .code yX1_measure cX1_measure 4 (some .int) :: wsL_law
theorem vX1_measure : Cond.instanceMethod yX1_measure ∈ wsL_law ∧ Cond.selects RX1 yX1_measure yX1_measure ∈ wsL_law ∧ Cond.initialized RX1 ∈ wsL_law ∧ Cond.code yX1_measure cX1_measure 4 (some .int) ∈ wsL_law := ⟨(inA_15 _ (List.mem_of_getElem? (i := 19) rfl)), (inA_15 _ (List.mem_of_getElem? (i := 20) rfl)), (inA_1 _ (List.mem_of_getElem? (i := 22) rfl)), (inA_15 _ (List.mem_of_getElem? (i := 21) rfl))⟩
def uX1_measureAll : List Cond := .code yX1_measureAll cX1_measureAll 6 none :: wsL_law
theorem vX1_measureAll : Cond.instanceMethod yX1_measureAll ∈ wsL_law ∧ Cond.selects RX1 yX1_measureAll yX1_measureAll ∈ wsL_law ∧ Cond.initialized RX1 ∈ wsL_law ∧ Cond.code yX1_measureAll cX1_measureAll 6 none ∈ wsL_law := ⟨(inA_15 _ (List.mem_of_getElem? (i := 5) rfl)), (inA_15 _ (List.mem_of_getElem? (i := 6) rfl)), (inA_1 _ (List.mem_of_getElem? (i := 22) rfl)), (inA_15 _ (List.mem_of_getElem? (i := 7) rfl))⟩
def uX2_init : List Cond := .code yX2_init cX2_init 1 none :: wsL_law
theorem vX2_init : Cond.code yX2_init cX2_init 1 none ∈ wsL_law := (inA_5 _ (List.mem_of_getElem? (i := 9) rfl))
def uX9_leftDepth : List Cond := .code yX9_leftDepth cX9_leftDepth 5 (some .int) :: wsL_law
theorem vX9_leftDepth : Cond.instanceMethod yX9_leftDepth ∈ wsL_law ∧ Cond.selects RX9 yX9_leftDepth yX9_leftDepth ∈ wsL_law ∧ Cond.initialized RX9 ∈ wsL_law ∧ Cond.code yX9_leftDepth cX9_leftDepth 5 (some .int) ∈ wsL_law := ⟨(inA_18 _ (List.mem_of_getElem? (i := 17) rfl)), (inA_18 _ (List.mem_of_getElem? (i := 18) rfl)), (inA_2 _ (List.mem_of_getElem? (i := 6) rfl)), (inA_18 _ (List.mem_of_getElem? (i := 19) rfl))⟩
def uX9_rightDepth : List Cond := .code yX9_rightDepth cX9_rightDepth 5 (some .int) :: wsL_law
theorem vX9_rightDepth : Cond.instanceMethod yX9_rightDepth ∈ wsL_law ∧ Cond.selects RX9 yX9_rightDepth yX9_rightDepth ∈ wsL_law ∧ Cond.initialized RX9 ∈ wsL_law ∧ Cond.code yX9_rightDepth cX9_rightDepth 5 (some .int) ∈ wsL_law := ⟨(inA_18 _ (List.mem_of_getElem? (i := 21) rfl)), (inA_18 _ (List.mem_of_getElem? (i := 22) rfl)), (inA_2 _ (List.mem_of_getElem? (i := 6) rfl)), (inA_18 _ (List.mem_of_getElem? (i := 23) rfl))⟩
def uX2_tell : List Cond := .code yX2_tell cX2_tell 8 (some .int) :: wsL_law
theorem vX2_tell : Cond.instanceMethod yX2_tell ∈ wsL_law ∧ Cond.selects RX2 yX2_tell yX2_tell ∈ wsL_law ∧ Cond.initialized RX2 ∈ wsL_law ∧ Cond.code yX2_tell cX2_tell 8 (some .int) ∈ wsL_law := ⟨(inA_18 _ (List.mem_of_getElem? (i := 9) rfl)), (inA_18 _ (List.mem_of_getElem? (i := 10) rfl)), (inA_2 _ (List.mem_of_getElem? (i := 10) rfl)), (inA_18 _ (List.mem_of_getElem? (i := 11) rfl))⟩
def uX2_tellAll : List Cond := .code yX2_tellAll cX2_tellAll 9 none :: wsL_law
theorem vX2_tellAll : Cond.instanceMethod yX2_tellAll ∈ wsL_law ∧ Cond.selects RX2 yX2_tellAll yX2_tellAll ∈ wsL_law ∧ Cond.initialized RX2 ∈ wsL_law ∧ Cond.code yX2_tellAll cX2_tellAll 9 none ∈ wsL_law := ⟨(inA_18 _ (List.mem_of_getElem? (i := 2) rfl)), (inA_18 _ (List.mem_of_getElem? (i := 3) rfl)), (inA_2 _ (List.mem_of_getElem? (i := 10) rfl)), (inA_18 _ (List.mem_of_getElem? (i := 4) rfl))⟩
def uX2_countTold : List Cond := .code yX2_countTold cX2_countTold 4 (some .int) :: wsL_law
theorem vX2_countTold : Cond.instanceMethod yX2_countTold ∈ wsL_law ∧ Cond.selects RX2 yX2_countTold yX2_countTold ∈ wsL_law ∧ Cond.initialized RX2 ∈ wsL_law ∧ Cond.code yX2_countTold cX2_countTold 4 (some .int) ∈ wsL_law := ⟨(inA_19 _ (List.mem_of_getElem? (i := 2) rfl)), (inA_19 _ (List.mem_of_getElem? (i := 3) rfl)), (inA_2 _ (List.mem_of_getElem? (i := 10) rfl)), (inA_19 _ (List.mem_of_getElem? (i := 4) rfl))⟩
def uX2_comesFrom : List Cond := .code yX2_comesFrom cX2_comesFrom 9 (some .int) :: wsL_law
theorem vX2_comesFrom : Cond.instanceMethod yX2_comesFrom ∈ wsL_law ∧ Cond.selects RX2 yX2_comesFrom yX2_comesFrom ∈ wsL_law ∧ Cond.initialized RX2 ∈ wsL_law ∧ Cond.code yX2_comesFrom cX2_comesFrom 9 (some .int) ∈ wsL_law := ⟨(inA_32 _ (List.mem_of_getElem? (i := 20) rfl)), (inA_32 _ (List.mem_of_getElem? (i := 21) rfl)), (inA_2 _ (List.mem_of_getElem? (i := 10) rfl)), (inA_32 _ (List.mem_of_getElem? (i := 22) rfl))⟩
def uX3_init : List Cond := .code yX3_init cX3_init 1 none :: wsL_law
theorem vX3_init : Cond.code yX3_init cX3_init 1 none ∈ wsL_law := (inA_4 _ (List.mem_of_getElem? (i := 16) rfl))
def uX3_forget : List Cond := .code yX3_forget cX3_forget 1 none :: wsL_law
theorem vX3_forget : Cond.instanceMethod yX3_forget ∈ wsL_law ∧ Cond.selects RX3 yX3_forget yX3_forget ∈ wsL_law ∧ Cond.initialized RX3 ∈ wsL_law ∧ Cond.code yX3_forget cX3_forget 1 none ∈ wsL_law := ⟨(inA_8 _ (List.mem_of_getElem? (i := 17) rfl)), (inA_8 _ (List.mem_of_getElem? (i := 18) rfl)), (inA_2 _ (List.mem_of_getElem? (i := 2) rfl)), (inA_8 _ (List.mem_of_getElem? (i := 19) rfl))⟩
def uX3_matching : List Cond := .code yX3_matching cX3_matching 8 (some .int) :: wsL_law
theorem vX3_matching : Cond.instanceMethod yX3_matching ∈ wsL_law ∧ Cond.selects RX3 yX3_matching yX3_matching ∈ wsL_law ∧ Cond.initialized RX3 ∈ wsL_law ∧ Cond.code yX3_matching cX3_matching 8 (some .int) ∈ wsL_law := ⟨(inA_25 _ (List.mem_of_getElem? (i := 17) rfl)), (inA_25 _ (List.mem_of_getElem? (i := 18) rfl)), (inA_2 _ (List.mem_of_getElem? (i := 2) rfl)), (inA_25 _ (List.mem_of_getElem? (i := 19) rfl))⟩
def uX3_leastRest : List Cond := .code yX3_leastRest cX3_leastRest 7 (some .int) :: wsL_law
theorem vX3_leastRest : Cond.instanceMethod yX3_leastRest ∈ wsL_law ∧ Cond.selects RX3 yX3_leastRest yX3_leastRest ∈ wsL_law ∧ Cond.initialized RX3 ∈ wsL_law ∧ Cond.code yX3_leastRest cX3_leastRest 7 (some .int) ∈ wsL_law := ⟨(inA_25 _ (List.mem_of_getElem? (i := 22) rfl)), (inA_25 _ (List.mem_of_getElem? (i := 23) rfl)), (inA_2 _ (List.mem_of_getElem? (i := 2) rfl)), (inA_26 _ (List.mem_of_getElem? (i := 0) rfl))⟩
def uX3_follow : List Cond := .code yX3_follow cX3_follow 10 none :: wsL_law
theorem vX3_follow : Cond.instanceMethod yX3_follow ∈ wsL_law ∧ Cond.selects RX3 yX3_follow yX3_follow ∈ wsL_law ∧ Cond.initialized RX3 ∈ wsL_law ∧ Cond.code yX3_follow cX3_follow 10 none ∈ wsL_law := ⟨(inA_26 _ (List.mem_of_getElem? (i := 4) rfl)), (inA_26 _ (List.mem_of_getElem? (i := 5) rfl)), (inA_2 _ (List.mem_of_getElem? (i := 2) rfl)), (inA_26 _ (List.mem_of_getElem? (i := 6) rfl))⟩
def uX3_walk : List Cond := .code yX3_walk cX3_walk 10 none :: wsL_law
theorem vX3_walk : Cond.instanceMethod yX3_walk ∈ wsL_law ∧ Cond.selects RX3 yX3_walk yX3_walk ∈ wsL_law ∧ Cond.initialized RX3 ∈ wsL_law ∧ Cond.code yX3_walk cX3_walk 10 none ∈ wsL_law := ⟨(inA_25 _ (List.mem_of_getElem? (i := 11) rfl)), (inA_25 _ (List.mem_of_getElem? (i := 12) rfl)), (inA_2 _ (List.mem_of_getElem? (i := 2) rfl)), (inA_25 _ (List.mem_of_getElem? (i := 13) rfl))⟩
def uX3_countHidden : List Cond := .code yX3_countHidden cX3_countHidden 5 (some .int) :: wsL_law
theorem vX3_countHidden : Cond.instanceMethod yX3_countHidden ∈ wsL_law ∧ Cond.selects RX3 yX3_countHidden yX3_countHidden ∈ wsL_law ∧ Cond.initialized RX3 ∈ wsL_law ∧ Cond.code yX3_countHidden cX3_countHidden 5 (some .int) ∈ wsL_law := ⟨(inA_27 _ (List.mem_of_getElem? (i := 15) rfl)), (inA_27 _ (List.mem_of_getElem? (i := 16) rfl)), (inA_2 _ (List.mem_of_getElem? (i := 2) rfl)), (inA_27 _ (List.mem_of_getElem? (i := 17) rfl))⟩
def uX4_init : List Cond := .code yX4_init cX4_init 1 none :: wsL_law
theorem vX4_init : Cond.code yX4_init cX4_init 1 none ∈ wsL_law := (inA_3 _ (List.mem_of_getElem? (i := 13) rfl))
def uX4_clear : List Cond := .code yX4_clear cX4_clear 2 none :: wsL_law
theorem vX4_clear : Cond.instanceMethod yX4_clear ∈ wsL_law ∧ Cond.selects RX4 yX4_clear yX4_clear ∈ wsL_law ∧ Cond.initialized RX4 ∈ wsL_law ∧ Cond.code yX4_clear cX4_clear 2 none ∈ wsL_law := ⟨(inA_8 _ (List.mem_of_getElem? (i := 4) rfl)), (inA_8 _ (List.mem_of_getElem? (i := 5) rfl)), (inA_3 _ (List.mem_of_getElem? (i := 8) rfl)), (inA_8 _ (List.mem_of_getElem? (i := 6) rfl))⟩
def uX4_become : List Cond := .code yX4_become cX4_become 2 none :: wsL_law
theorem vX4_become : Cond.instanceMethod yX4_become ∈ wsL_law ∧ Cond.selects RX4 yX4_become yX4_become ∈ wsL_law ∧ Cond.initialized RX4 ∈ wsL_law ∧ Cond.code yX4_become cX4_become 2 none ∈ wsL_law := ⟨(inA_38 _ (List.mem_of_getElem? (i := 9) rfl)), (inA_38 _ (List.mem_of_getElem? (i := 10) rfl)), (inA_3 _ (List.mem_of_getElem? (i := 8) rfl)), (inA_38 _ (List.mem_of_getElem? (i := 11) rfl))⟩
def uX5_init : List Cond := .code yX5_init cX5_init 1 none :: wsL_law
theorem vX5_init : Cond.code yX5_init cX5_init 1 none ∈ wsL_law := (inA_5 _ (List.mem_of_getElem? (i := 19) rfl))
def uX5_add : List Cond := .code yX5_add cX5_add 4 none :: wsL_law
theorem vX5_add : Cond.instanceMethod yX5_add ∈ wsL_law ∧ Cond.selects RX5 yX5_add yX5_add ∈ wsL_law ∧ Cond.initialized RX5 ∈ wsL_law ∧ Cond.code yX5_add cX5_add 4 none ∈ wsL_law := ⟨(inA_31 _ (List.mem_of_getElem? (i := 9) rfl)), (inA_31 _ (List.mem_of_getElem? (i := 10) rfl)), (inA_2 _ (List.mem_of_getElem? (i := 18) rfl)), (inA_31 _ (List.mem_of_getElem? (i := 11) rfl))⟩
def uX5_collect : List Cond := .code yX5_collect cX5_collect 7 none :: wsL_law
theorem vX5_collect : Cond.instanceMethod yX5_collect ∈ wsL_law ∧ Cond.selects RX5 yX5_collect yX5_collect ∈ wsL_law ∧ Cond.initialized RX5 ∈ wsL_law ∧ Cond.code yX5_collect cX5_collect 7 none ∈ wsL_law := ⟨(inA_31 _ (List.mem_of_getElem? (i := 1) rfl)), (inA_31 _ (List.mem_of_getElem? (i := 2) rfl)), (inA_2 _ (List.mem_of_getElem? (i := 18) rfl)), (inA_31 _ (List.mem_of_getElem? (i := 3) rfl))⟩
def uX5_half : List Cond := .code yX5_half cX5_half 1 (some .int) :: wsL_law
theorem vX5_half : Cond.static yX5_half ∈ wsL_law ∧ Cond.initialized RX5 ∈ wsL_law ∧ Cond.code yX5_half cX5_half 1 (some .int) ∈ wsL_law := ⟨(inA_31 _ (List.mem_of_getElem? (i := 18) rfl)), (inA_2 _ (List.mem_of_getElem? (i := 18) rfl)), (inA_31 _ (List.mem_of_getElem? (i := 19) rfl))⟩
def uX5_weigh : List Cond := .code yX5_weigh cX5_weigh 10 none :: wsL_law
theorem vX5_weigh : Cond.instanceMethod yX5_weigh ∈ wsL_law ∧ Cond.selects RX5 yX5_weigh yX5_weigh ∈ wsL_law ∧ Cond.initialized RX5 ∈ wsL_law ∧ Cond.code yX5_weigh cX5_weigh 10 none ∈ wsL_law := ⟨(inA_31 _ (List.mem_of_getElem? (i := 13) rfl)), (inA_31 _ (List.mem_of_getElem? (i := 14) rfl)), (inA_2 _ (List.mem_of_getElem? (i := 18) rfl)), (inA_31 _ (List.mem_of_getElem? (i := 15) rfl))⟩
def uX5_find : List Cond := .code yX5_find cX5_find 9 none :: wsL_law
theorem vX5_find : Cond.instanceMethod yX5_find ∈ wsL_law ∧ Cond.selects RX5 yX5_find yX5_find ∈ wsL_law ∧ Cond.initialized RX5 ∈ wsL_law ∧ Cond.code yX5_find cX5_find 9 none ∈ wsL_law := ⟨(inA_30 _ (List.mem_of_getElem? (i := 20) rfl)), (inA_30 _ (List.mem_of_getElem? (i := 21) rfl)), (inA_2 _ (List.mem_of_getElem? (i := 18) rfl)), (inA_30 _ (List.mem_of_getElem? (i := 22) rfl))⟩
def uX5_depthAt : List Cond := .code yX5_depthAt cX5_depthAt 3 (some .int) :: wsL_law
theorem vX5_depthAt : Cond.instanceMethod yX5_depthAt ∈ wsL_law ∧ Cond.selects RX5 yX5_depthAt yX5_depthAt ∈ wsL_law ∧ Cond.initialized RX5 ∈ wsL_law ∧ Cond.code yX5_depthAt cX5_depthAt 3 (some .int) ∈ wsL_law := ⟨(inA_31 _ (List.mem_of_getElem? (i := 21) rfl)), (inA_31 _ (List.mem_of_getElem? (i := 22) rfl)), (inA_2 _ (List.mem_of_getElem? (i := 18) rfl)), (inA_31 _ (List.mem_of_getElem? (i := 23) rfl))⟩
def uX6_init : List Cond := .code yX6_init cX6_init 1 none :: wsL_law
theorem vX6_init : Cond.code yX6_init cX6_init 1 none ∈ wsL_law := (inA_3 _ (List.mem_of_getElem? (i := 2) rfl))
def uX6_renew : List Cond := .code yX6_renew cX6_renew 3 none :: wsL_law
theorem vX6_renew : Cond.instanceMethod yX6_renew ∈ wsL_law ∧ Cond.selects RX6 yX6_renew yX6_renew ∈ wsL_law ∧ Cond.initialized RX6 ∈ wsL_law ∧ Cond.code yX6_renew cX6_renew 3 none ∈ wsL_law := ⟨(inA_8 _ (List.mem_of_getElem? (i := 0) rfl)), (inA_8 _ (List.mem_of_getElem? (i := 1) rfl)), (inA_1 _ (List.mem_of_getElem? (i := 14) rfl)), (inA_8 _ (List.mem_of_getElem? (i := 2) rfl))⟩
def uX6_become : List Cond := .code yX6_become cX6_become 2 none :: wsL_law
theorem vX6_become : Cond.instanceMethod yX6_become ∈ wsL_law ∧ Cond.selects RX6 yX6_become yX6_become ∈ wsL_law ∧ Cond.initialized RX6 ∈ wsL_law ∧ Cond.code yX6_become cX6_become 2 none ∈ wsL_law := ⟨(inA_38 _ (List.mem_of_getElem? (i := 4) rfl)), (inA_38 _ (List.mem_of_getElem? (i := 5) rfl)), (inA_1 _ (List.mem_of_getElem? (i := 14) rfl)), (inA_38 _ (List.mem_of_getElem? (i := 6) rfl))⟩
def uX6_hasPicture : List Cond := .code yX6_hasPicture cX6_hasPicture 2 (some .boolean) :: wsL_law
theorem vX6_hasPicture : Cond.instanceMethod yX6_hasPicture ∈ wsL_law ∧ Cond.selects RX6 yX6_hasPicture yX6_hasPicture ∈ wsL_law ∧ Cond.initialized RX6 ∈ wsL_law ∧ Cond.code yX6_hasPicture cX6_hasPicture 2 (some .boolean) ∈ wsL_law := ⟨(inA_9 _ (List.mem_of_getElem? (i := 22) rfl)), (inA_9 _ (List.mem_of_getElem? (i := 23) rfl)), (inA_1 _ (List.mem_of_getElem? (i := 14) rfl)), (inA_10 _ (List.mem_of_getElem? (i := 0) rfl))⟩
def uX6_hasHeight : List Cond := .code yX6_hasHeight cX6_hasHeight 2 (some .boolean) :: wsL_law
theorem vX6_hasHeight : Cond.instanceMethod yX6_hasHeight ∈ wsL_law ∧ Cond.selects RX6 yX6_hasHeight yX6_hasHeight ∈ wsL_law ∧ Cond.initialized RX6 ∈ wsL_law ∧ Cond.code yX6_hasHeight cX6_hasHeight 2 (some .boolean) ∈ wsL_law := ⟨(inA_10 _ (List.mem_of_getElem? (i := 2) rfl)), (inA_10 _ (List.mem_of_getElem? (i := 3) rfl)), (inA_1 _ (List.mem_of_getElem? (i := 14) rfl)), (inA_10 _ (List.mem_of_getElem? (i := 4) rfl))⟩
def uX6_hasRow : List Cond := .code yX6_hasRow cX6_hasRow 3 (some .boolean) :: wsL_law
theorem vX6_hasRow : Cond.instanceMethod yX6_hasRow ∈ wsL_law ∧ Cond.selects RX6 yX6_hasRow yX6_hasRow ∈ wsL_law ∧ Cond.initialized RX6 ∈ wsL_law ∧ Cond.code yX6_hasRow cX6_hasRow 3 (some .boolean) ∈ wsL_law := ⟨(inA_9 _ (List.mem_of_getElem? (i := 18) rfl)), (inA_9 _ (List.mem_of_getElem? (i := 19) rfl)), (inA_1 _ (List.mem_of_getElem? (i := 14) rfl)), (inA_9 _ (List.mem_of_getElem? (i := 20) rfl))⟩
def uX6_hasColumns : List Cond := .code yX6_hasColumns cX6_hasColumns 3 (some .boolean) :: wsL_law
theorem vX6_hasColumns : Cond.instanceMethod yX6_hasColumns ∈ wsL_law ∧ Cond.selects RX6 yX6_hasColumns yX6_hasColumns ∈ wsL_law ∧ Cond.initialized RX6 ∈ wsL_law ∧ Cond.code yX6_hasColumns cX6_hasColumns 3 (some .boolean) ∈ wsL_law := ⟨(inA_12 _ (List.mem_of_getElem? (i := 18) rfl)), (inA_12 _ (List.mem_of_getElem? (i := 19) rfl)), (inA_1 _ (List.mem_of_getElem? (i := 14) rfl)), (inA_12 _ (List.mem_of_getElem? (i := 20) rfl))⟩
def uX6_hasRows : List Cond := .code yX6_hasRows cX6_hasRows 3 (some .boolean) :: wsL_law
theorem vX6_hasRows : Cond.instanceMethod yX6_hasRows ∈ wsL_law ∧ Cond.selects RX6 yX6_hasRows yX6_hasRows ∈ wsL_law ∧ Cond.initialized RX6 ∈ wsL_law ∧ Cond.code yX6_hasRows cX6_hasRows 3 (some .boolean) ∈ wsL_law := ⟨(inA_33 _ (List.mem_of_getElem? (i := 20) rfl)), (inA_33 _ (List.mem_of_getElem? (i := 21) rfl)), (inA_1 _ (List.mem_of_getElem? (i := 14) rfl)), (inA_33 _ (List.mem_of_getElem? (i := 22) rfl))⟩
def uX6_pictureOf : List Cond := .code yX6_pictureOf cX6_pictureOf 2 (some (.object "TwoEyes$Picture")) :: wsL_law
theorem vX6_pictureOf : Cond.instanceMethod yX6_pictureOf ∈ wsL_law ∧ Cond.selects RX6 yX6_pictureOf yX6_pictureOf ∈ wsL_law ∧ Cond.initialized RX6 ∈ wsL_law ∧ Cond.code yX6_pictureOf cX6_pictureOf 2 (some (.object "TwoEyes$Picture")) ∈ wsL_law := ⟨(inA_10 _ (List.mem_of_getElem? (i := 6) rfl)), (inA_10 _ (List.mem_of_getElem? (i := 7) rfl)), (inA_1 _ (List.mem_of_getElem? (i := 14) rfl)), (inA_10 _ (List.mem_of_getElem? (i := 8) rfl))⟩
def uX6_countSquares : List Cond := .code yX6_countSquares cX6_countSquares 1 (some .int) :: wsL_law
theorem vX6_countSquares : Cond.instanceMethod yX6_countSquares ∈ wsL_law ∧ Cond.selects RX6 yX6_countSquares yX6_countSquares ∈ wsL_law ∧ Cond.initialized RX6 ∈ wsL_law ∧ Cond.code yX6_countSquares cX6_countSquares 1 (some .int) ∈ wsL_law := ⟨(inA_16 _ (List.mem_of_getElem? (i := 14) rfl)), (inA_16 _ (List.mem_of_getElem? (i := 15) rfl)), (inA_1 _ (List.mem_of_getElem? (i := 14) rfl)), (inA_16 _ (List.mem_of_getElem? (i := 16) rfl))⟩
def uX6_refusalToWrite : List Cond := .code yX6_refusalToWrite cX6_refusalToWrite 4 (some .int) :: wsL_law
theorem vX6_refusalToWrite : Cond.instanceMethod yX6_refusalToWrite ∈ wsL_law ∧ Cond.selects RX6 yX6_refusalToWrite yX6_refusalToWrite ∈ wsL_law ∧ Cond.initialized RX6 ∈ wsL_law ∧ Cond.code yX6_refusalToWrite cX6_refusalToWrite 4 (some .int) ∈ wsL_law := ⟨(inA_9 _ (List.mem_of_getElem? (i := 13) rfl)), (inA_9 _ (List.mem_of_getElem? (i := 14) rfl)), (inA_1 _ (List.mem_of_getElem? (i := 14) rfl)), (inA_9 _ (List.mem_of_getElem? (i := 15) rfl))⟩
def uX6_countLost : List Cond := .code yX6_countLost cX6_countLost 5 (some .int) :: wsL_law
theorem vX6_countLost : Cond.instanceMethod yX6_countLost ∈ wsL_law ∧ Cond.selects RX6 yX6_countLost yX6_countLost ∈ wsL_law ∧ Cond.initialized RX6 ∈ wsL_law ∧ Cond.code yX6_countLost cX6_countLost 5 (some .int) ∈ wsL_law := ⟨(inA_14 _ (List.mem_of_getElem? (i := 11) rfl)), (inA_14 _ (List.mem_of_getElem? (i := 12) rfl)), (inA_1 _ (List.mem_of_getElem? (i := 14) rfl)), (inA_14 _ (List.mem_of_getElem? (i := 13) rfl))⟩
def uX6_countTruths : List Cond := .code yX6_countTruths cX6_countTruths 4 (some .int) :: wsL_law
theorem vX6_countTruths : Cond.instanceMethod yX6_countTruths ∈ wsL_law ∧ Cond.selects RX6 yX6_countTruths yX6_countTruths ∈ wsL_law ∧ Cond.initialized RX6 ∈ wsL_law ∧ Cond.code yX6_countTruths cX6_countTruths 4 (some .int) ∈ wsL_law := ⟨(inA_20 _ (List.mem_of_getElem? (i := 21) rfl)), (inA_20 _ (List.mem_of_getElem? (i := 22) rfl)), (inA_1 _ (List.mem_of_getElem? (i := 14) rfl)), (inA_20 _ (List.mem_of_getElem? (i := 23) rfl))⟩
def uX6_anyMissing : List Cond := .code yX6_anyMissing cX6_anyMissing 4 (some .boolean) :: wsL_law
theorem vX6_anyMissing : Cond.instanceMethod yX6_anyMissing ∈ wsL_law ∧ Cond.selects RX6 yX6_anyMissing yX6_anyMissing ∈ wsL_law ∧ Cond.initialized RX6 ∈ wsL_law ∧ Cond.code yX6_anyMissing cX6_anyMissing 4 (some .boolean) ∈ wsL_law := ⟨(inA_34 _ (List.mem_of_getElem? (i := 0) rfl)), (inA_34 _ (List.mem_of_getElem? (i := 1) rfl)), (inA_1 _ (List.mem_of_getElem? (i := 14) rfl)), (inA_34 _ (List.mem_of_getElem? (i := 2) rfl))⟩
def uX6_drawBoard : List Cond := .code yX6_drawBoard cX6_drawBoard 12 none :: wsL_law
theorem vX6_drawBoard : Cond.instanceMethod yX6_drawBoard ∈ wsL_law ∧ Cond.selects RX6 yX6_drawBoard yX6_drawBoard ∈ wsL_law ∧ Cond.initialized RX6 ∈ wsL_law ∧ Cond.code yX6_drawBoard cX6_drawBoard 12 none ∈ wsL_law := ⟨(inA_34 _ (List.mem_of_getElem? (i := 4) rfl)), (inA_34 _ (List.mem_of_getElem? (i := 5) rfl)), (inA_1 _ (List.mem_of_getElem? (i := 14) rfl)), (inA_34 _ (List.mem_of_getElem? (i := 6) rfl))⟩
def uX7_init : List Cond := .code yX7_init cX7_init 1 none :: wsL_law
theorem vX7_init : Cond.code yX7_init cX7_init 1 none ∈ wsL_law := (inA_5 _ (List.mem_of_getElem? (i := 14) rfl))
def uX7_hangs : List Cond := .code yX7_hangs cX7_hangs 3 (some .boolean) :: wsL_law
theorem vX7_hangs : Cond.static yX7_hangs ∈ wsL_law ∧ Cond.initialized RX7 ∈ wsL_law ∧ Cond.code yX7_hangs cX7_hangs 3 (some .boolean) ∈ wsL_law := ⟨(inA_19 _ (List.mem_of_getElem? (i := 18) rfl)), (inA_2 _ (List.mem_of_getElem? (i := 14) rfl)), (inA_19 _ (List.mem_of_getElem? (i := 19) rfl))⟩
def uX7_join : List Cond := .code yX7_join cX7_join 6 none :: wsL_law
theorem vX7_join : Cond.instanceMethod yX7_join ∈ wsL_law ∧ Cond.selects RX7 yX7_join yX7_join ∈ wsL_law ∧ Cond.initialized RX7 ∈ wsL_law ∧ Cond.code yX7_join cX7_join 6 none ∈ wsL_law := ⟨(inA_20 _ (List.mem_of_getElem? (i := 0) rfl)), (inA_20 _ (List.mem_of_getElem? (i := 1) rfl)), (inA_2 _ (List.mem_of_getElem? (i := 14) rfl)), (inA_20 _ (List.mem_of_getElem? (i := 2) rfl))⟩
def uX7_gather : List Cond := .code yX7_gather cX7_gather 7 none :: wsL_law
theorem vX7_gather : Cond.instanceMethod yX7_gather ∈ wsL_law ∧ Cond.selects RX7 yX7_gather yX7_gather ∈ wsL_law ∧ Cond.initialized RX7 ∈ wsL_law ∧ Cond.code yX7_gather cX7_gather 7 none ∈ wsL_law := ⟨(inA_19 _ (List.mem_of_getElem? (i := 10) rfl)), (inA_19 _ (List.mem_of_getElem? (i := 11) rfl)), (inA_2 _ (List.mem_of_getElem? (i := 14) rfl)), (inA_19 _ (List.mem_of_getElem? (i := 12) rfl))⟩
def uX7_countAnchors : List Cond := .code yX7_countAnchors cX7_countAnchors 4 (some .int) :: wsL_law
theorem vX7_countAnchors : Cond.instanceMethod yX7_countAnchors ∈ wsL_law ∧ Cond.selects RX7 yX7_countAnchors yX7_countAnchors ∈ wsL_law ∧ Cond.initialized RX7 ∈ wsL_law ∧ Cond.code yX7_countAnchors cX7_countAnchors 4 (some .int) ∈ wsL_law := ⟨(inA_20 _ (List.mem_of_getElem? (i := 8) rfl)), (inA_20 _ (List.mem_of_getElem? (i := 9) rfl)), (inA_2 _ (List.mem_of_getElem? (i := 14) rfl)), (inA_20 _ (List.mem_of_getElem? (i := 10) rfl))⟩
def uX7_countOf : List Cond := .code yX7_countOf cX7_countOf 5 (some .int) :: wsL_law
theorem vX7_countOf : Cond.instanceMethod yX7_countOf ∈ wsL_law ∧ Cond.selects RX7 yX7_countOf yX7_countOf ∈ wsL_law ∧ Cond.initialized RX7 ∈ wsL_law ∧ Cond.code yX7_countOf cX7_countOf 5 (some .int) ∈ wsL_law := ⟨(inA_30 _ (List.mem_of_getElem? (i := 3) rfl)), (inA_30 _ (List.mem_of_getElem? (i := 4) rfl)), (inA_2 _ (List.mem_of_getElem? (i := 14) rfl)), (inA_30 _ (List.mem_of_getElem? (i := 5) rfl))⟩
def uX9_init : List Cond := .code yX9_init cX9_init 1 none :: wsL_law
theorem vX9_init : Cond.code yX9_init cX9_init 1 none ∈ wsL_law := (inA_4 _ (List.mem_of_getElem? (i := 23) rfl))
def uX9_forget : List Cond := .code yX9_forget cX9_forget 1 none :: wsL_law
theorem vX9_forget : Cond.instanceMethod yX9_forget ∈ wsL_law ∧ Cond.selects RX9 yX9_forget yX9_forget ∈ wsL_law ∧ Cond.initialized RX9 ∈ wsL_law ∧ Cond.code yX9_forget cX9_forget 1 none ∈ wsL_law := ⟨(inA_8 _ (List.mem_of_getElem? (i := 21) rfl)), (inA_8 _ (List.mem_of_getElem? (i := 22) rfl)), (inA_2 _ (List.mem_of_getElem? (i := 6) rfl)), (inA_8 _ (List.mem_of_getElem? (i := 23) rfl))⟩
def uX9_voteOf : List Cond := .code yX9_voteOf cX9_voteOf 6 (some .int) :: wsL_law
theorem vX9_voteOf : Cond.instanceMethod yX9_voteOf ∈ wsL_law ∧ Cond.selects RX9 yX9_voteOf yX9_voteOf ∈ wsL_law ∧ Cond.initialized RX9 ∈ wsL_law ∧ Cond.code yX9_voteOf cX9_voteOf 6 (some .int) ∈ wsL_law := ⟨(inA_17 _ (List.mem_of_getElem? (i := 5) rfl)), (inA_17 _ (List.mem_of_getElem? (i := 6) rfl)), (inA_2 _ (List.mem_of_getElem? (i := 6) rfl)), (inA_17 _ (List.mem_of_getElem? (i := 7) rfl))⟩
def uX9_vote : List Cond := .code yX9_vote cX9_vote 8 none :: wsL_law
theorem vX9_vote : Cond.instanceMethod yX9_vote ∈ wsL_law ∧ Cond.selects RX9 yX9_vote yX9_vote ∈ wsL_law ∧ Cond.initialized RX9 ∈ wsL_law ∧ Cond.code yX9_vote cX9_vote 8 none ∈ wsL_law := ⟨(inA_17 _ (List.mem_of_getElem? (i := 0) rfl)), (inA_17 _ (List.mem_of_getElem? (i := 1) rfl)), (inA_2 _ (List.mem_of_getElem? (i := 6) rfl)), (inA_17 _ (List.mem_of_getElem? (i := 2) rfl))⟩
def uX9_goOn : List Cond := .code yX9_goOn cX9_goOn 10 none :: wsL_law
theorem vX9_goOn : Cond.instanceMethod yX9_goOn ∈ wsL_law ∧ Cond.selects RX9 yX9_goOn yX9_goOn ∈ wsL_law ∧ Cond.initialized RX9 ∈ wsL_law ∧ Cond.code yX9_goOn cX9_goOn 10 none ∈ wsL_law := ⟨(inA_17 _ (List.mem_of_getElem? (i := 13) rfl)), (inA_17 _ (List.mem_of_getElem? (i := 14) rfl)), (inA_2 _ (List.mem_of_getElem? (i := 6) rfl)), (inA_17 _ (List.mem_of_getElem? (i := 15) rfl))⟩
def uX9_start : List Cond := .code yX9_start cX9_start 5 none :: wsL_law
theorem vX9_start : Cond.instanceMethod yX9_start ∈ wsL_law ∧ Cond.selects RX9 yX9_start yX9_start ∈ wsL_law ∧ Cond.initialized RX9 ∈ wsL_law ∧ Cond.code yX9_start cX9_start 5 none ∈ wsL_law := ⟨(inA_17 _ (List.mem_of_getElem? (i := 22) rfl)), (inA_17 _ (List.mem_of_getElem? (i := 23) rfl)), (inA_2 _ (List.mem_of_getElem? (i := 6) rfl)), (inA_18 _ (List.mem_of_getElem? (i := 0) rfl))⟩
def uX9_goAlong : List Cond := .code yX9_goAlong cX9_goAlong 12 none :: wsL_law
theorem vX9_goAlong : Cond.instanceMethod yX9_goAlong ∈ wsL_law ∧ Cond.selects RX9 yX9_goAlong yX9_goAlong ∈ wsL_law ∧ Cond.initialized RX9 ∈ wsL_law ∧ Cond.code yX9_goAlong cX9_goAlong 12 none ∈ wsL_law := ⟨(inA_16 _ (List.mem_of_getElem? (i := 18) rfl)), (inA_16 _ (List.mem_of_getElem? (i := 19) rfl)), (inA_2 _ (List.mem_of_getElem? (i := 6) rfl)), (inA_16 _ (List.mem_of_getElem? (i := 20) rfl))⟩
def uX9_addAll : List Cond := .code yX9_addAll cX9_addAll 7 none :: wsL_law
theorem vX9_addAll : Cond.instanceMethod yX9_addAll ∈ wsL_law ∧ Cond.selects RX9 yX9_addAll yX9_addAll ∈ wsL_law ∧ Cond.initialized RX9 ∈ wsL_law ∧ Cond.code yX9_addAll cX9_addAll 7 none ∈ wsL_law := ⟨(inA_16 _ (List.mem_of_getElem? (i := 9) rfl)), (inA_16 _ (List.mem_of_getElem? (i := 10) rfl)), (inA_2 _ (List.mem_of_getElem? (i := 6) rfl)), (inA_16 _ (List.mem_of_getElem? (i := 11) rfl))⟩
def uX10_init : List Cond := .code yX10_init cX10_init 1 none :: wsL_law
theorem vX10_init : Cond.code yX10_init cX10_init 1 none ∈ wsL_law := (inA_1 _ (List.mem_of_getElem? (i := 8) rfl))
def uX10_forgetAll : List Cond := .code yX10_forgetAll cX10_forgetAll 1 none :: wsL_law
theorem vX10_forgetAll : Cond.instanceMethod yX10_forgetAll ∈ wsL_law ∧ Cond.selects RX10 yX10_forgetAll yX10_forgetAll ∈ wsL_law ∧ Cond.initialized RX10 ∈ wsL_law ∧ Cond.code yX10_forgetAll cX10_forgetAll 1 none ∈ wsL_law := ⟨(inA_8 _ (List.mem_of_getElem? (i := 9) rfl)), (inA_8 _ (List.mem_of_getElem? (i := 10) rfl)), (inA_1 _ (List.mem_of_getElem? (i := 2) rfl)), (inA_8 _ (List.mem_of_getElem? (i := 11) rfl))⟩
def uX10_size : List Cond := .code yX10_size cX10_size 3 (some .int) :: wsL_law
theorem vX10_size : Cond.instanceMethod yX10_size ∈ wsL_law ∧ Cond.selects RX10 yX10_size yX10_size ∈ wsL_law ∧ Cond.initialized RX10 ∈ wsL_law ∧ Cond.code yX10_size cX10_size 3 (some .int) ∈ wsL_law := ⟨(inA_7 _ (List.mem_of_getElem? (i := 20) rfl)), (inA_7 _ (List.mem_of_getElem? (i := 21) rfl)), (inA_1 _ (List.mem_of_getElem? (i := 2) rfl)), (inA_7 _ (List.mem_of_getElem? (i := 22) rfl))⟩
def uX10_shade : List Cond := .code yX10_shade cX10_shade 6 (some .int) :: wsL_law
theorem vX10_shade : Cond.instanceMethod yX10_shade ∈ wsL_law ∧ Cond.selects RX10 yX10_shade yX10_shade ∈ wsL_law ∧ Cond.initialized RX10 ∈ wsL_law ∧ Cond.code yX10_shade cX10_shade 6 (some .int) ∈ wsL_law := ⟨(inA_9 _ (List.mem_of_getElem? (i := 8) rfl)), (inA_9 _ (List.mem_of_getElem? (i := 9) rfl)), (inA_1 _ (List.mem_of_getElem? (i := 2) rfl)), (inA_9 _ (List.mem_of_getElem? (i := 10) rfl))⟩
def uX10_lose : List Cond := .code yX10_lose cX10_lose 5 (some .int) :: wsL_law
theorem vX10_lose : Cond.instanceMethod yX10_lose ∈ wsL_law ∧ Cond.selects RX10 yX10_lose yX10_lose ∈ wsL_law ∧ Cond.initialized RX10 ∈ wsL_law ∧ Cond.code yX10_lose cX10_lose 5 (some .int) ∈ wsL_law := ⟨(inA_11 _ (List.mem_of_getElem? (i := 11) rfl)), (inA_11 _ (List.mem_of_getElem? (i := 12) rfl)), (inA_1 _ (List.mem_of_getElem? (i := 2) rfl)), (inA_11 _ (List.mem_of_getElem? (i := 13) rfl))⟩
def uX10_row : List Cond := .code yX10_row cX10_row 5 (some .int) :: wsL_law
theorem vX10_row : Cond.instanceMethod yX10_row ∈ wsL_law ∧ Cond.selects RX10 yX10_row yX10_row ∈ wsL_law ∧ Cond.initialized RX10 ∈ wsL_law ∧ Cond.code yX10_row cX10_row 5 (some .int) ∈ wsL_law := ⟨(inA_12 _ (List.mem_of_getElem? (i := 0) rfl)), (inA_12 _ (List.mem_of_getElem? (i := 1) rfl)), (inA_1 _ (List.mem_of_getElem? (i := 2) rfl)), (inA_12 _ (List.mem_of_getElem? (i := 2) rfl))⟩
def uX10_copy : List Cond := .code yX10_copy cX10_copy 10 (some .int) :: wsL_law
theorem vX10_copy : Cond.instanceMethod yX10_copy ∈ wsL_law ∧ Cond.selects RX10 yX10_copy yX10_copy ∈ wsL_law ∧ Cond.initialized RX10 ∈ wsL_law ∧ Cond.code yX10_copy cX10_copy 10 (some .int) ∈ wsL_law := ⟨(inA_12 _ (List.mem_of_getElem? (i := 10) rfl)), (inA_12 _ (List.mem_of_getElem? (i := 11) rfl)), (inA_1 _ (List.mem_of_getElem? (i := 2) rfl)), (inA_12 _ (List.mem_of_getElem? (i := 12) rfl))⟩
def uX10_told : List Cond := .code yX10_told cX10_told 4 (some .int) :: wsL_law
theorem vX10_told : Cond.instanceMethod yX10_told ∈ wsL_law ∧ Cond.selects RX10 yX10_told yX10_told ∈ wsL_law ∧ Cond.initialized RX10 ∈ wsL_law ∧ Cond.code yX10_told cX10_told 4 (some .int) ∈ wsL_law := ⟨(inA_13 _ (List.mem_of_getElem? (i := 2) rfl)), (inA_13 _ (List.mem_of_getElem? (i := 3) rfl)), (inA_1 _ (List.mem_of_getElem? (i := 2) rfl)), (inA_13 _ (List.mem_of_getElem? (i := 4) rfl))⟩
def uX10_rule : List Cond := .code yX10_rule cX10_rule 4 (some .int) :: wsL_law
theorem vX10_rule : Cond.instanceMethod yX10_rule ∈ wsL_law ∧ Cond.selects RX10 yX10_rule yX10_rule ∈ wsL_law ∧ Cond.initialized RX10 ∈ wsL_law ∧ Cond.code yX10_rule cX10_rule 4 (some .int) ∈ wsL_law := ⟨(inA_13 _ (List.mem_of_getElem? (i := 20) rfl)), (inA_13 _ (List.mem_of_getElem? (i := 21) rfl)), (inA_1 _ (List.mem_of_getElem? (i := 2) rfl)), (inA_13 _ (List.mem_of_getElem? (i := 22) rfl))⟩
def uX10_refreshCosts : List Cond := .code yX10_refreshCosts cX10_refreshCosts 1 none :: wsL_law
theorem vX10_refreshCosts : Cond.instanceMethod yX10_refreshCosts ∈ wsL_law ∧ Cond.selects RX10 yX10_refreshCosts yX10_refreshCosts ∈ wsL_law ∧ Cond.initialized RX10 ∈ wsL_law ∧ Cond.code yX10_refreshCosts cX10_refreshCosts 1 none ∈ wsL_law := ⟨(inA_15 _ (List.mem_of_getElem? (i := 1) rfl)), (inA_15 _ (List.mem_of_getElem? (i := 2) rfl)), (inA_1 _ (List.mem_of_getElem? (i := 2) rfl)), (inA_15 _ (List.mem_of_getElem? (i := 3) rfl))⟩
def uX10_refreshSums : List Cond := .code yX10_refreshSums cX10_refreshSums 1 none :: wsL_law
theorem vX10_refreshSums : Cond.instanceMethod yX10_refreshSums ∈ wsL_law ∧ Cond.selects RX10 yX10_refreshSums yX10_refreshSums ∈ wsL_law ∧ Cond.initialized RX10 ∈ wsL_law ∧ Cond.code yX10_refreshSums cX10_refreshSums 1 none ∈ wsL_law := ⟨(inA_14 _ (List.mem_of_getElem? (i := 20) rfl)), (inA_14 _ (List.mem_of_getElem? (i := 21) rfl)), (inA_1 _ (List.mem_of_getElem? (i := 2) rfl)), (inA_14 _ (List.mem_of_getElem? (i := 22) rfl))⟩
def uX10_refreshDepths : List Cond := .code yX10_refreshDepths cX10_refreshDepths 1 none :: wsL_law
theorem vX10_refreshDepths : Cond.instanceMethod yX10_refreshDepths ∈ wsL_law ∧ Cond.selects RX10 yX10_refreshDepths yX10_refreshDepths ∈ wsL_law ∧ Cond.initialized RX10 ∈ wsL_law ∧ Cond.code yX10_refreshDepths cX10_refreshDepths 1 none ∈ wsL_law := ⟨(inA_14 _ (List.mem_of_getElem? (i := 16) rfl)), (inA_14 _ (List.mem_of_getElem? (i := 17) rfl)), (inA_1 _ (List.mem_of_getElem? (i := 2) rfl)), (inA_14 _ (List.mem_of_getElem? (i := 18) rfl))⟩
def uX10_refreshSegments : List Cond := .code yX10_refreshSegments cX10_refreshSegments 1 none :: wsL_law
theorem vX10_refreshSegments : Cond.instanceMethod yX10_refreshSegments ∈ wsL_law ∧ Cond.selects RX10 yX10_refreshSegments yX10_refreshSegments ∈ wsL_law ∧ Cond.initialized RX10 ∈ wsL_law ∧ Cond.code yX10_refreshSegments cX10_refreshSegments 1 none ∈ wsL_law := ⟨(inA_19 _ (List.mem_of_getElem? (i := 6) rfl)), (inA_19 _ (List.mem_of_getElem? (i := 7) rfl)), (inA_1 _ (List.mem_of_getElem? (i := 2) rfl)), (inA_19 _ (List.mem_of_getElem? (i := 8) rfl))⟩
def uX10_many : List Cond := .code yX10_many cX10_many 2 (some .int) :: wsL_law
theorem vX10_many : Cond.instanceMethod yX10_many ∈ wsL_law ∧ Cond.selects RX10 yX10_many yX10_many ∈ wsL_law ∧ Cond.initialized RX10 ∈ wsL_law ∧ Cond.code yX10_many cX10_many 2 (some .int) ∈ wsL_law := ⟨(inA_14 _ (List.mem_of_getElem? (i := 5) rfl)), (inA_14 _ (List.mem_of_getElem? (i := 6) rfl)), (inA_1 _ (List.mem_of_getElem? (i := 2) rfl)), (inA_14 _ (List.mem_of_getElem? (i := 7) rfl))⟩
def uX10_isDepth : List Cond := .code yX10_isDepth cX10_isDepth 2 (some .boolean) :: wsL_law
theorem vX10_isDepth : Cond.instanceMethod yX10_isDepth ∈ wsL_law ∧ Cond.selects RX10 yX10_isDepth yX10_isDepth ∈ wsL_law ∧ Cond.initialized RX10 ∈ wsL_law ∧ Cond.code yX10_isDepth cX10_isDepth 2 (some .boolean) ∈ wsL_law := ⟨(inA_24 _ (List.mem_of_getElem? (i := 13) rfl)), (inA_24 _ (List.mem_of_getElem? (i := 14) rfl)), (inA_1 _ (List.mem_of_getElem? (i := 2) rfl)), (inA_24 _ (List.mem_of_getElem? (i := 15) rfl))⟩
def uX10_cost : List Cond := .code yX10_cost cX10_cost 4 (some .int) :: wsL_law
theorem vX10_cost : Cond.instanceMethod yX10_cost ∈ wsL_law ∧ Cond.selects RX10 yX10_cost yX10_cost ∈ wsL_law ∧ Cond.initialized RX10 ∈ wsL_law ∧ Cond.code yX10_cost cX10_cost 4 (some .int) ∈ wsL_law := ⟨(inA_24 _ (List.mem_of_getElem? (i := 8) rfl)), (inA_24 _ (List.mem_of_getElem? (i := 9) rfl)), (inA_1 _ (List.mem_of_getElem? (i := 2) rfl)), (inA_24 _ (List.mem_of_getElem? (i := 10) rfl))⟩
def uX10_refreshPath : List Cond := .code yX10_refreshPath cX10_refreshPath 2 none :: wsL_law
theorem vX10_refreshPath : Cond.instanceMethod yX10_refreshPath ∈ wsL_law ∧ Cond.selects RX10 yX10_refreshPath yX10_refreshPath ∈ wsL_law ∧ Cond.initialized RX10 ∈ wsL_law ∧ Cond.code yX10_refreshPath cX10_refreshPath 2 none ∈ wsL_law := ⟨(inA_25 _ (List.mem_of_getElem? (i := 7) rfl)), (inA_25 _ (List.mem_of_getElem? (i := 8) rfl)), (inA_1 _ (List.mem_of_getElem? (i := 2) rfl)), (inA_25 _ (List.mem_of_getElem? (i := 9) rfl))⟩
def uX10_path : List Cond := .code yX10_path cX10_path 2 (some .int) :: wsL_law
theorem vX10_path : Cond.instanceMethod yX10_path ∈ wsL_law ∧ Cond.selects RX10 yX10_path yX10_path ∈ wsL_law ∧ Cond.initialized RX10 ∈ wsL_law ∧ Cond.code yX10_path cX10_path 2 (some .int) ∈ wsL_law := ⟨(inA_25 _ (List.mem_of_getElem? (i := 1) rfl)), (inA_25 _ (List.mem_of_getElem? (i := 2) rfl)), (inA_1 _ (List.mem_of_getElem? (i := 2) rfl)), (inA_25 _ (List.mem_of_getElem? (i := 3) rfl))⟩
def uX10_matched : List Cond := .code yX10_matched cX10_matched 3 (some .int) :: wsL_law
theorem vX10_matched : Cond.instanceMethod yX10_matched ∈ wsL_law ∧ Cond.selects RX10 yX10_matched yX10_matched ∈ wsL_law ∧ Cond.initialized RX10 ∈ wsL_law ∧ Cond.code yX10_matched cX10_matched 3 (some .int) ∈ wsL_law := ⟨(inA_27 _ (List.mem_of_getElem? (i := 2) rfl)), (inA_27 _ (List.mem_of_getElem? (i := 3) rfl)), (inA_1 _ (List.mem_of_getElem? (i := 2) rfl)), (inA_27 _ (List.mem_of_getElem? (i := 4) rfl))⟩
def uX10_hidden : List Cond := .code yX10_hidden cX10_hidden 3 (some .int) :: wsL_law
theorem vX10_hidden : Cond.instanceMethod yX10_hidden ∈ wsL_law ∧ Cond.selects RX10 yX10_hidden yX10_hidden ∈ wsL_law ∧ Cond.initialized RX10 ∈ wsL_law ∧ Cond.code yX10_hidden cX10_hidden 3 (some .int) ∈ wsL_law := ⟨(inA_27 _ (List.mem_of_getElem? (i := 11) rfl)), (inA_27 _ (List.mem_of_getElem? (i := 12) rfl)), (inA_1 _ (List.mem_of_getElem? (i := 2) rfl)), (inA_27 _ (List.mem_of_getElem? (i := 13) rfl))⟩
def uX10_run : List Cond := .code yX10_run cX10_run 5 (some .int) :: wsL_law
theorem vX10_run : Cond.instanceMethod yX10_run ∈ wsL_law ∧ Cond.selects RX10 yX10_run yX10_run ∈ wsL_law ∧ Cond.initialized RX10 ∈ wsL_law ∧ Cond.code yX10_run cX10_run 5 (some .int) ∈ wsL_law := ⟨(inA_27 _ (List.mem_of_getElem? (i := 23) rfl)), (inA_28 _ (List.mem_of_getElem? (i := 0) rfl)), (inA_1 _ (List.mem_of_getElem? (i := 2) rfl)), (inA_28 _ (List.mem_of_getElem? (i := 1) rfl))⟩
def uX10_sum : List Cond := .code yX10_sum cX10_sum 4 (some .int) :: wsL_law
theorem vX10_sum : Cond.instanceMethod yX10_sum ∈ wsL_law ∧ Cond.selects RX10 yX10_sum yX10_sum ∈ wsL_law ∧ Cond.initialized RX10 ∈ wsL_law ∧ Cond.code yX10_sum cX10_sum 4 (some .int) ∈ wsL_law := ⟨(inA_28 _ (List.mem_of_getElem? (i := 9) rfl)), (inA_28 _ (List.mem_of_getElem? (i := 10) rfl)), (inA_1 _ (List.mem_of_getElem? (i := 2) rfl)), (inA_28 _ (List.mem_of_getElem? (i := 11) rfl))⟩
def uX10_depth : List Cond := .code yX10_depth cX10_depth 5 (some .int) :: wsL_law
theorem vX10_depth : Cond.instanceMethod yX10_depth ∈ wsL_law ∧ Cond.selects RX10 yX10_depth yX10_depth ∈ wsL_law ∧ Cond.initialized RX10 ∈ wsL_law ∧ Cond.code yX10_depth cX10_depth 5 (some .int) ∈ wsL_law := ⟨(inA_28 _ (List.mem_of_getElem? (i := 18) rfl)), (inA_28 _ (List.mem_of_getElem? (i := 19) rfl)), (inA_1 _ (List.mem_of_getElem? (i := 2) rfl)), (inA_28 _ (List.mem_of_getElem? (i := 20) rfl))⟩
def uX10_agreed : List Cond := .code yX10_agreed cX10_agreed 3 (some .int) :: wsL_law
theorem vX10_agreed : Cond.instanceMethod yX10_agreed ∈ wsL_law ∧ Cond.selects RX10 yX10_agreed yX10_agreed ∈ wsL_law ∧ Cond.initialized RX10 ∈ wsL_law ∧ Cond.code yX10_agreed cX10_agreed 3 (some .int) ∈ wsL_law := ⟨(inA_29 _ (List.mem_of_getElem? (i := 5) rfl)), (inA_29 _ (List.mem_of_getElem? (i := 6) rfl)), (inA_1 _ (List.mem_of_getElem? (i := 2) rfl)), (inA_29 _ (List.mem_of_getElem? (i := 7) rfl))⟩
def uX10_segment : List Cond := .code yX10_segment cX10_segment 3 (some .int) :: wsL_law
theorem vX10_segment : Cond.instanceMethod yX10_segment ∈ wsL_law ∧ Cond.selects RX10 yX10_segment yX10_segment ∈ wsL_law ∧ Cond.initialized RX10 ∈ wsL_law ∧ Cond.code yX10_segment cX10_segment 3 (some .int) ∈ wsL_law := ⟨(inA_29 _ (List.mem_of_getElem? (i := 14) rfl)), (inA_29 _ (List.mem_of_getElem? (i := 15) rfl)), (inA_1 _ (List.mem_of_getElem? (i := 2) rfl)), (inA_29 _ (List.mem_of_getElem? (i := 16) rfl))⟩
def uX10_extent : List Cond := .code yX10_extent cX10_extent 4 (some .int) :: wsL_law
theorem vX10_extent : Cond.instanceMethod yX10_extent ∈ wsL_law ∧ Cond.selects RX10 yX10_extent yX10_extent ∈ wsL_law ∧ Cond.initialized RX10 ∈ wsL_law ∧ Cond.code yX10_extent cX10_extent 4 (some .int) ∈ wsL_law := ⟨(inA_29 _ (List.mem_of_getElem? (i := 23) rfl)), (inA_30 _ (List.mem_of_getElem? (i := 0) rfl)), (inA_1 _ (List.mem_of_getElem? (i := 2) rfl)), (inA_30 _ (List.mem_of_getElem? (i := 1) rfl))⟩
def uX10_plane : List Cond := .code yX10_plane cX10_plane 6 (some .int) :: wsL_law
theorem vX10_plane : Cond.instanceMethod yX10_plane ∈ wsL_law ∧ Cond.selects RX10 yX10_plane yX10_plane ∈ wsL_law ∧ Cond.initialized RX10 ∈ wsL_law ∧ Cond.code yX10_plane cX10_plane 6 (some .int) ∈ wsL_law := ⟨(inA_30 _ (List.mem_of_getElem? (i := 12) rfl)), (inA_30 _ (List.mem_of_getElem? (i := 13) rfl)), (inA_1 _ (List.mem_of_getElem? (i := 2) rfl)), (inA_30 _ (List.mem_of_getElem? (i := 14) rfl))⟩
def uX10_view : List Cond := .code yX10_view cX10_view 5 (some .int) :: wsL_law
theorem vX10_view : Cond.instanceMethod yX10_view ∈ wsL_law ∧ Cond.selects RX10 yX10_view yX10_view ∈ wsL_law ∧ Cond.initialized RX10 ∈ wsL_law ∧ Cond.code yX10_view cX10_view 5 (some .int) ∈ wsL_law := ⟨(inA_32 _ (List.mem_of_getElem? (i := 16) rfl)), (inA_32 _ (List.mem_of_getElem? (i := 17) rfl)), (inA_1 _ (List.mem_of_getElem? (i := 2) rfl)), (inA_32 _ (List.mem_of_getElem? (i := 18) rfl))⟩
def uX10_holes : List Cond := .code yX10_holes cX10_holes 5 (some .int) :: wsL_law
theorem vX10_holes : Cond.instanceMethod yX10_holes ∈ wsL_law ∧ Cond.selects RX10 yX10_holes yX10_holes ∈ wsL_law ∧ Cond.initialized RX10 ∈ wsL_law ∧ Cond.code yX10_holes cX10_holes 5 (some .int) ∈ wsL_law := ⟨(inA_33 _ (List.mem_of_getElem? (i := 8) rfl)), (inA_33 _ (List.mem_of_getElem? (i := 9) rfl)), (inA_1 _ (List.mem_of_getElem? (i := 2) rfl)), (inA_33 _ (List.mem_of_getElem? (i := 10) rfl))⟩
def uX10_draw : List Cond := .code yX10_draw cX10_draw 7 (some .int) :: wsL_law
theorem vX10_draw : Cond.instanceMethod yX10_draw ∈ wsL_law ∧ Cond.selects RX10 yX10_draw yX10_draw ∈ wsL_law ∧ Cond.initialized RX10 ∈ wsL_law ∧ Cond.code yX10_draw cX10_draw 7 (some .int) ∈ wsL_law := ⟨(inA_33 _ (List.mem_of_getElem? (i := 16) rfl)), (inA_33 _ (List.mem_of_getElem? (i := 17) rfl)), (inA_1 _ (List.mem_of_getElem? (i := 2) rfl)), (inA_33 _ (List.mem_of_getElem? (i := 18) rfl))⟩
def uX10_truth : List Cond := .code yX10_truth cX10_truth 3 (some .int) :: wsL_law
theorem vX10_truth : Cond.instanceMethod yX10_truth ∈ wsL_law ∧ Cond.selects RX10 yX10_truth yX10_truth ∈ wsL_law ∧ Cond.initialized RX10 ∈ wsL_law ∧ Cond.code yX10_truth cX10_truth 3 (some .int) ∈ wsL_law := ⟨(inA_34 _ (List.mem_of_getElem? (i := 15) rfl)), (inA_34 _ (List.mem_of_getElem? (i := 16) rfl)), (inA_1 _ (List.mem_of_getElem? (i := 2) rfl)), (inA_34 _ (List.mem_of_getElem? (i := 17) rfl))⟩
def uX10_countMatchedByTruth : List Cond := .code yX10_countMatchedByTruth cX10_countMatchedByTruth 5 (some .int) :: wsL_law
theorem vX10_countMatchedByTruth : Cond.instanceMethod yX10_countMatchedByTruth ∈ wsL_law ∧ Cond.selects RX10 yX10_countMatchedByTruth yX10_countMatchedByTruth ∈ wsL_law ∧ Cond.initialized RX10 ∈ wsL_law ∧ Cond.code yX10_countMatchedByTruth cX10_countMatchedByTruth 5 (some .int) ∈ wsL_law := ⟨(inA_35 _ (List.mem_of_getElem? (i := 4) rfl)), (inA_35 _ (List.mem_of_getElem? (i := 5) rfl)), (inA_1 _ (List.mem_of_getElem? (i := 2) rfl)), (inA_35 _ (List.mem_of_getElem? (i := 6) rfl))⟩
def uX10_verdict : List Cond := .code yX10_verdict cX10_verdict 2 (some .int) :: wsL_law
theorem vX10_verdict : Cond.static yX10_verdict ∈ wsL_law ∧ Cond.initialized RX10 ∈ wsL_law ∧ Cond.code yX10_verdict cX10_verdict 2 (some .int) ∈ wsL_law := ⟨(inA_35 _ (List.mem_of_getElem? (i := 8) rfl)), (inA_1 _ (List.mem_of_getElem? (i := 2) rfl)), (inA_35 _ (List.mem_of_getElem? (i := 9) rfl))⟩
def uX10_score : List Cond := .code yX10_score cX10_score 5 (some .int) :: wsL_law
theorem vX10_score : Cond.instanceMethod yX10_score ∈ wsL_law ∧ Cond.selects RX10 yX10_score yX10_score ∈ wsL_law ∧ Cond.initialized RX10 ∈ wsL_law ∧ Cond.code yX10_score cX10_score 5 (some .int) ∈ wsL_law := ⟨(inA_35 _ (List.mem_of_getElem? (i := 0) rfl)), (inA_35 _ (List.mem_of_getElem? (i := 1) rfl)), (inA_1 _ (List.mem_of_getElem? (i := 2) rfl)), (inA_35 _ (List.mem_of_getElem? (i := 2) rfl))⟩
def uX10_outline : List Cond := .code yX10_outline cX10_outline 4 (some .int) :: wsL_law
theorem vX10_outline : Cond.instanceMethod yX10_outline ∈ wsL_law ∧ Cond.selects RX10 yX10_outline yX10_outline ∈ wsL_law ∧ Cond.initialized RX10 ∈ wsL_law ∧ Cond.code yX10_outline cX10_outline 4 (some .int) ∈ wsL_law := ⟨(inA_35 _ (List.mem_of_getElem? (i := 19) rfl)), (inA_35 _ (List.mem_of_getElem? (i := 20) rfl)), (inA_1 _ (List.mem_of_getElem? (i := 2) rfl)), (inA_35 _ (List.mem_of_getElem? (i := 21) rfl))⟩
def uX10_cube : List Cond := .code yX10_cube cX10_cube 4 (some .boolean) :: wsL_law
theorem vX10_cube : Cond.instanceMethod yX10_cube ∈ wsL_law ∧ Cond.selects RX10 yX10_cube yX10_cube ∈ wsL_law ∧ Cond.initialized RX10 ∈ wsL_law ∧ Cond.code yX10_cube cX10_cube 4 (some .boolean) ∈ wsL_law := ⟨(inA_36 _ (List.mem_of_getElem? (i := 8) rfl)), (inA_36 _ (List.mem_of_getElem? (i := 9) rfl)), (inA_1 _ (List.mem_of_getElem? (i := 2) rfl)), (inA_36 _ (List.mem_of_getElem? (i := 10) rfl))⟩
def uX10_empty : List Cond := .code yX10_empty cX10_empty 2 (some .int) :: wsL_law
theorem vX10_empty : Cond.instanceMethod yX10_empty ∈ wsL_law ∧ Cond.selects RX10 yX10_empty yX10_empty ∈ wsL_law ∧ Cond.initialized RX10 ∈ wsL_law ∧ Cond.code yX10_empty cX10_empty 2 (some .int) ∈ wsL_law := ⟨(inA_36 _ (List.mem_of_getElem? (i := 23) rfl)), (inA_37 _ (List.mem_of_getElem? (i := 0) rfl)), (inA_1 _ (List.mem_of_getElem? (i := 2) rfl)), (inA_37 _ (List.mem_of_getElem? (i := 1) rfl))⟩
def uX10_keep : List Cond := .code yX10_keep cX10_keep 1 (some .int) :: wsL_law
theorem vX10_keep : Cond.instanceMethod yX10_keep ∈ wsL_law ∧ Cond.selects RX10 yX10_keep yX10_keep ∈ wsL_law ∧ Cond.initialized RX10 ∈ wsL_law ∧ Cond.code yX10_keep cX10_keep 1 (some .int) ∈ wsL_law := ⟨(inA_38 _ (List.mem_of_getElem? (i := 0) rfl)), (inA_38 _ (List.mem_of_getElem? (i := 1) rfl)), (inA_1 _ (List.mem_of_getElem? (i := 2) rfl)), (inA_38 _ (List.mem_of_getElem? (i := 2) rfl))⟩
def uX10_back : List Cond := .code yX10_back cX10_back 1 (some .int) :: wsL_law
theorem vX10_back : Cond.instanceMethod yX10_back ∈ wsL_law ∧ Cond.selects RX10 yX10_back yX10_back ∈ wsL_law ∧ Cond.initialized RX10 ∈ wsL_law ∧ Cond.code yX10_back cX10_back 1 (some .int) ∈ wsL_law := ⟨(inA_38 _ (List.mem_of_getElem? (i := 21) rfl)), (inA_38 _ (List.mem_of_getElem? (i := 22) rfl)), (inA_1 _ (List.mem_of_getElem? (i := 2) rfl)), (inA_38 _ (List.mem_of_getElem? (i := 23) rfl))⟩
def uX11_blank : List Cond := .code yX11_blank cX11_blank 4 none :: wsL_law
theorem vX11_blank : Cond.instanceMethod yX11_blank ∈ wsL_law ∧ Cond.selects RX11 yX11_blank yX11_blank ∈ wsL_law ∧ Cond.initialized RX11 ∈ wsL_law ∧ Cond.code yX11_blank cX11_blank 4 none ∈ wsL_law := ⟨(inA_7 _ (List.mem_of_getElem? (i := 15) rfl)), (inA_7 _ (List.mem_of_getElem? (i := 16) rfl)), (inA_1 _ (List.mem_of_getElem? (i := 5) rfl)), (inA_7 _ (List.mem_of_getElem? (i := 17) rfl))⟩
def uX11_init : List Cond := .code yX11_init cX11_init 2 none :: wsL_law
theorem vX11_init : Cond.code yX11_init cX11_init 2 none ∈ wsL_law := (inA_6 _ (List.mem_of_getElem? (i := 16) rfl))
def uX11_in : List Cond := .code yX11_in cX11_in 3 (some .boolean) :: wsL_law
theorem vX11_in : Cond.static yX11_in ∈ wsL_law ∧ Cond.initialized RX11 ∈ wsL_law ∧ Cond.code yX11_in cX11_in 3 (some .boolean) ∈ wsL_law := ⟨(inA_9 _ (List.mem_of_getElem? (i := 5) rfl)), (inA_1 _ (List.mem_of_getElem? (i := 5) rfl)), (inA_9 _ (List.mem_of_getElem? (i := 6) rfl))⟩
def uX11_isRow : List Cond := .code yX11_isRow cX11_isRow 3 (some .boolean) :: wsL_law
theorem vX11_isRow : Cond.instanceMethod yX11_isRow ∈ wsL_law ∧ Cond.selects RX11 yX11_isRow yX11_isRow ∈ wsL_law ∧ Cond.initialized RX11 ∈ wsL_law ∧ Cond.code yX11_isRow cX11_isRow 3 (some .boolean) ∈ wsL_law := ⟨(inA_11 _ (List.mem_of_getElem? (i := 3) rfl)), (inA_11 _ (List.mem_of_getElem? (i := 4) rfl)), (inA_1 _ (List.mem_of_getElem? (i := 5) rfl)), (inA_11 _ (List.mem_of_getElem? (i := 5) rfl))⟩
def uX11_isSquare : List Cond := .code yX11_isSquare cX11_isSquare 3 (some .boolean) :: wsL_law
theorem vX11_isSquare : Cond.instanceMethod yX11_isSquare ∈ wsL_law ∧ Cond.selects RX11 yX11_isSquare yX11_isSquare ∈ wsL_law ∧ Cond.initialized RX11 ∈ wsL_law ∧ Cond.code yX11_isSquare cX11_isSquare 3 (some .boolean) ∈ wsL_law := ⟨(inA_13 _ (List.mem_of_getElem? (i := 12) rfl)), (inA_13 _ (List.mem_of_getElem? (i := 13) rfl)), (inA_1 _ (List.mem_of_getElem? (i := 5) rfl)), (inA_13 _ (List.mem_of_getElem? (i := 14) rfl))⟩
def uX11_at : List Cond := .code yX11_at cX11_at 4 (some .int) :: wsL_law
theorem vX11_at : Cond.instanceMethod yX11_at ∈ wsL_law ∧ Cond.selects RX11 yX11_at yX11_at ∈ wsL_law ∧ Cond.initialized RX11 ∈ wsL_law ∧ Cond.code yX11_at cX11_at 4 (some .int) ∈ wsL_law := ⟨(inA_11 _ (List.mem_of_getElem? (i := 7) rfl)), (inA_11 _ (List.mem_of_getElem? (i := 8) rfl)), (inA_1 _ (List.mem_of_getElem? (i := 5) rfl)), (inA_11 _ (List.mem_of_getElem? (i := 9) rfl))⟩
def uX11_isLost : List Cond := .code yX11_isLost cX11_isLost 4 (some .boolean) :: wsL_law
theorem vX11_isLost : Cond.instanceMethod yX11_isLost ∈ wsL_law ∧ Cond.selects RX11 yX11_isLost yX11_isLost ∈ wsL_law ∧ Cond.initialized RX11 ∈ wsL_law ∧ Cond.code yX11_isLost cX11_isLost 4 (some .boolean) ∈ wsL_law := ⟨(inA_13 _ (List.mem_of_getElem? (i := 16) rfl)), (inA_13 _ (List.mem_of_getElem? (i := 17) rfl)), (inA_1 _ (List.mem_of_getElem? (i := 5) rfl)), (inA_13 _ (List.mem_of_getElem? (i := 18) rfl))⟩
def uX11_size : List Cond := .code yX11_size cX11_size 3 (some .int) :: wsL_law
theorem vX11_size : Cond.instanceMethod yX11_size ∈ wsL_law ∧ Cond.selects RX11 yX11_size yX11_size ∈ wsL_law ∧ Cond.initialized RX11 ∈ wsL_law ∧ Cond.code yX11_size cX11_size 3 (some .int) ∈ wsL_law := ⟨(inA_9 _ (List.mem_of_getElem? (i := 1) rfl)), (inA_9 _ (List.mem_of_getElem? (i := 2) rfl)), (inA_1 _ (List.mem_of_getElem? (i := 5) rfl)), (inA_9 _ (List.mem_of_getElem? (i := 3) rfl))⟩
def uX11_refuse : List Cond := .code yX11_refuse cX11_refuse 4 (some .int) :: wsL_law
theorem vX11_refuse : Cond.instanceMethod yX11_refuse ∈ wsL_law ∧ Cond.selects RX11 yX11_refuse yX11_refuse ∈ wsL_law ∧ Cond.initialized RX11 ∈ wsL_law ∧ Cond.code yX11_refuse cX11_refuse 4 (some .int) ∈ wsL_law := ⟨(inA_10 _ (List.mem_of_getElem? (i := 23) rfl)), (inA_11 _ (List.mem_of_getElem? (i := 0) rfl)), (inA_1 _ (List.mem_of_getElem? (i := 5) rfl)), (inA_11 _ (List.mem_of_getElem? (i := 1) rfl))⟩
def uX11_shade : List Cond := .code yX11_shade cX11_shade 6 (some .int) :: wsL_law
theorem vX11_shade : Cond.instanceMethod yX11_shade ∈ wsL_law ∧ Cond.selects RX11 yX11_shade yX11_shade ∈ wsL_law ∧ Cond.initialized RX11 ∈ wsL_law ∧ Cond.code yX11_shade cX11_shade 6 (some .int) ∈ wsL_law := ⟨(inA_10 _ (List.mem_of_getElem? (i := 19) rfl)), (inA_10 _ (List.mem_of_getElem? (i := 20) rfl)), (inA_1 _ (List.mem_of_getElem? (i := 5) rfl)), (inA_10 _ (List.mem_of_getElem? (i := 21) rfl))⟩
def uX11_lose : List Cond := .code yX11_lose cX11_lose 6 (some .int) :: wsL_law
theorem vX11_lose : Cond.instanceMethod yX11_lose ∈ wsL_law ∧ Cond.selects RX11 yX11_lose yX11_lose ∈ wsL_law ∧ Cond.initialized RX11 ∈ wsL_law ∧ Cond.code yX11_lose cX11_lose 6 (some .int) ∈ wsL_law := ⟨(inA_11 _ (List.mem_of_getElem? (i := 20) rfl)), (inA_11 _ (List.mem_of_getElem? (i := 21) rfl)), (inA_1 _ (List.mem_of_getElem? (i := 5) rfl)), (inA_11 _ (List.mem_of_getElem? (i := 22) rfl))⟩
def uX11_row : List Cond := .code yX11_row cX11_row 5 (some .int) :: wsL_law
theorem vX11_row : Cond.instanceMethod yX11_row ∈ wsL_law ∧ Cond.selects RX11 yX11_row yX11_row ∈ wsL_law ∧ Cond.initialized RX11 ∈ wsL_law ∧ Cond.code yX11_row cX11_row 5 (some .int) ∈ wsL_law := ⟨(inA_12 _ (List.mem_of_getElem? (i := 6) rfl)), (inA_12 _ (List.mem_of_getElem? (i := 7) rfl)), (inA_1 _ (List.mem_of_getElem? (i := 5) rfl)), (inA_12 _ (List.mem_of_getElem? (i := 8) rfl))⟩
def uX11_copy : List Cond := .code yX11_copy cX11_copy 12 (some .int) :: wsL_law
theorem vX11_copy : Cond.instanceMethod yX11_copy ∈ wsL_law ∧ Cond.selects RX11 yX11_copy yX11_copy ∈ wsL_law ∧ Cond.initialized RX11 ∈ wsL_law ∧ Cond.code yX11_copy cX11_copy 12 (some .int) ∈ wsL_law := ⟨(inA_12 _ (List.mem_of_getElem? (i := 22) rfl)), (inA_12 _ (List.mem_of_getElem? (i := 23) rfl)), (inA_1 _ (List.mem_of_getElem? (i := 5) rfl)), (inA_13 _ (List.mem_of_getElem? (i := 0) rfl))⟩
def uX11_told : List Cond := .code yX11_told cX11_told 4 (some .int) :: wsL_law
theorem vX11_told : Cond.instanceMethod yX11_told ∈ wsL_law ∧ Cond.selects RX11 yX11_told yX11_told ∈ wsL_law ∧ Cond.initialized RX11 ∈ wsL_law ∧ Cond.code yX11_told cX11_told 4 (some .int) ∈ wsL_law := ⟨(inA_13 _ (List.mem_of_getElem? (i := 8) rfl)), (inA_13 _ (List.mem_of_getElem? (i := 9) rfl)), (inA_1 _ (List.mem_of_getElem? (i := 5) rfl)), (inA_13 _ (List.mem_of_getElem? (i := 10) rfl))⟩
def uX11_rule : List Cond := .code yX11_rule cX11_rule 5 (some .int) :: wsL_law
theorem vX11_rule : Cond.instanceMethod yX11_rule ∈ wsL_law ∧ Cond.selects RX11 yX11_rule yX11_rule ∈ wsL_law ∧ Cond.initialized RX11 ∈ wsL_law ∧ Cond.code yX11_rule cX11_rule 5 (some .int) ∈ wsL_law := ⟨(inA_14 _ (List.mem_of_getElem? (i := 1) rfl)), (inA_14 _ (List.mem_of_getElem? (i := 2) rfl)), (inA_1 _ (List.mem_of_getElem? (i := 5) rfl)), (inA_14 _ (List.mem_of_getElem? (i := 3) rfl))⟩
def uX11_lostMany : List Cond := .code yX11_lostMany cX11_lostMany 5 (some .int) :: wsL_law
theorem vX11_lostMany : Cond.instanceMethod yX11_lostMany ∈ wsL_law ∧ Cond.selects RX11 yX11_lostMany yX11_lostMany ∈ wsL_law ∧ Cond.initialized RX11 ∈ wsL_law ∧ Cond.code yX11_lostMany cX11_lostMany 5 (some .int) ∈ wsL_law := ⟨(inA_23 _ (List.mem_of_getElem? (i := 4) rfl)), (inA_23 _ (List.mem_of_getElem? (i := 5) rfl)), (inA_1 _ (List.mem_of_getElem? (i := 5) rfl)), (inA_23 _ (List.mem_of_getElem? (i := 6) rfl))⟩
def uX11_agreedAt : List Cond := .code yX11_agreedAt cX11_agreedAt 4 (some .int) :: wsL_law
theorem vX11_agreedAt : Cond.instanceMethod yX11_agreedAt ∈ wsL_law ∧ Cond.selects RX11 yX11_agreedAt yX11_agreedAt ∈ wsL_law ∧ Cond.initialized RX11 ∈ wsL_law ∧ Cond.code yX11_agreedAt cX11_agreedAt 4 (some .int) ∈ wsL_law := ⟨(inA_23 _ (List.mem_of_getElem? (i := 12) rfl)), (inA_23 _ (List.mem_of_getElem? (i := 13) rfl)), (inA_1 _ (List.mem_of_getElem? (i := 5) rfl)), (inA_23 _ (List.mem_of_getElem? (i := 14) rfl))⟩
def uX11_toldMany : List Cond := .code yX11_toldMany cX11_toldMany 3 (some .int) :: wsL_law
theorem vX11_toldMany : Cond.instanceMethod yX11_toldMany ∈ wsL_law ∧ Cond.selects RX11 yX11_toldMany yX11_toldMany ∈ wsL_law ∧ Cond.initialized RX11 ∈ wsL_law ∧ Cond.code yX11_toldMany cX11_toldMany 3 (some .int) ∈ wsL_law := ⟨(inA_23 _ (List.mem_of_getElem? (i := 8) rfl)), (inA_23 _ (List.mem_of_getElem? (i := 9) rfl)), (inA_1 _ (List.mem_of_getElem? (i := 5) rfl)), (inA_23 _ (List.mem_of_getElem? (i := 10) rfl))⟩
def uX11_anchors : List Cond := .code yX11_anchors cX11_anchors 3 (some .int) :: wsL_law
theorem vX11_anchors : Cond.instanceMethod yX11_anchors ∈ wsL_law ∧ Cond.selects RX11 yX11_anchors yX11_anchors ∈ wsL_law ∧ Cond.initialized RX11 ∈ wsL_law ∧ Cond.code yX11_anchors cX11_anchors 3 (some .int) ∈ wsL_law := ⟨(inA_23 _ (List.mem_of_getElem? (i := 16) rfl)), (inA_23 _ (List.mem_of_getElem? (i := 17) rfl)), (inA_1 _ (List.mem_of_getElem? (i := 5) rfl)), (inA_23 _ (List.mem_of_getElem? (i := 18) rfl))⟩
def uX11_truthMany : List Cond := .code yX11_truthMany cX11_truthMany 3 (some .int) :: wsL_law
theorem vX11_truthMany : Cond.instanceMethod yX11_truthMany ∈ wsL_law ∧ Cond.selects RX11 yX11_truthMany yX11_truthMany ∈ wsL_law ∧ Cond.initialized RX11 ∈ wsL_law ∧ Cond.code yX11_truthMany cX11_truthMany 3 (some .int) ∈ wsL_law := ⟨(inA_24 _ (List.mem_of_getElem? (i := 4) rfl)), (inA_24 _ (List.mem_of_getElem? (i := 5) rfl)), (inA_1 _ (List.mem_of_getElem? (i := 5) rfl)), (inA_24 _ (List.mem_of_getElem? (i := 6) rfl))⟩
def uX11_acrossOf : List Cond := .code yX11_acrossOf cX11_acrossOf 1 (some .int) :: wsL_law
theorem vX11_acrossOf : Cond.static yX11_acrossOf ∈ wsL_law ∧ Cond.initialized RX11 ∈ wsL_law ∧ Cond.code yX11_acrossOf cX11_acrossOf 1 (some .int) ∈ wsL_law := ⟨(inA_21 _ (List.mem_of_getElem? (i := 14) rfl)), (inA_1 _ (List.mem_of_getElem? (i := 5) rfl)), (inA_21 _ (List.mem_of_getElem? (i := 15) rfl))⟩
def uX11_downOf : List Cond := .code yX11_downOf cX11_downOf 1 (some .int) :: wsL_law
theorem vX11_downOf : Cond.static yX11_downOf ∈ wsL_law ∧ Cond.initialized RX11 ∈ wsL_law ∧ Cond.code yX11_downOf cX11_downOf 1 (some .int) ∈ wsL_law := ⟨(inA_21 _ (List.mem_of_getElem? (i := 17) rfl)), (inA_1 _ (List.mem_of_getElem? (i := 5) rfl)), (inA_21 _ (List.mem_of_getElem? (i := 18) rfl))⟩
def uX11_isKnown : List Cond := .code yX11_isKnown cX11_isKnown 4 (some .boolean) :: wsL_law
theorem vX11_isKnown : Cond.instanceMethod yX11_isKnown ∈ wsL_law ∧ Cond.selects RX11 yX11_isKnown yX11_isKnown ∈ wsL_law ∧ Cond.initialized RX11 ∈ wsL_law ∧ Cond.code yX11_isKnown cX11_isKnown 4 (some .boolean) ∈ wsL_law := ⟨(inA_21 _ (List.mem_of_getElem? (i := 20) rfl)), (inA_21 _ (List.mem_of_getElem? (i := 21) rfl)), (inA_1 _ (List.mem_of_getElem? (i := 5) rfl)), (inA_21 _ (List.mem_of_getElem? (i := 22) rfl))⟩
def uX11_costAt : List Cond := .code yX11_costAt cX11_costAt 12 (some .int) :: wsL_law
theorem vX11_costAt : Cond.instanceMethod yX11_costAt ∈ wsL_law ∧ Cond.selects RX11 yX11_costAt yX11_costAt ∈ wsL_law ∧ Cond.initialized RX11 ∈ wsL_law ∧ Cond.code yX11_costAt cX11_costAt 12 (some .int) ∈ wsL_law := ⟨(inA_21 _ (List.mem_of_getElem? (i := 10) rfl)), (inA_21 _ (List.mem_of_getElem? (i := 11) rfl)), (inA_1 _ (List.mem_of_getElem? (i := 5) rfl)), (inA_21 _ (List.mem_of_getElem? (i := 12) rfl))⟩
def uX11_voteAt : List Cond := .code yX11_voteAt cX11_voteAt 4 (some .int) :: wsL_law
theorem vX11_voteAt : Cond.instanceMethod yX11_voteAt ∈ wsL_law ∧ Cond.selects RX11 yX11_voteAt yX11_voteAt ∈ wsL_law ∧ Cond.initialized RX11 ∈ wsL_law ∧ Cond.code yX11_voteAt cX11_voteAt 4 (some .int) ∈ wsL_law := ⟨(inA_22 _ (List.mem_of_getElem? (i := 4) rfl)), (inA_22 _ (List.mem_of_getElem? (i := 5) rfl)), (inA_1 _ (List.mem_of_getElem? (i := 5) rfl)), (inA_22 _ (List.mem_of_getElem? (i := 6) rfl))⟩
def uX11_goesOn : List Cond := .code yX11_goesOn cX11_goesOn 6 (some .int) :: wsL_law
theorem vX11_goesOn : Cond.instanceMethod yX11_goesOn ∈ wsL_law ∧ Cond.selects RX11 yX11_goesOn yX11_goesOn ∈ wsL_law ∧ Cond.initialized RX11 ∈ wsL_law ∧ Cond.code yX11_goesOn cX11_goesOn 6 (some .int) ∈ wsL_law := ⟨(inA_22 _ (List.mem_of_getElem? (i := 8) rfl)), (inA_22 _ (List.mem_of_getElem? (i := 9) rfl)), (inA_1 _ (List.mem_of_getElem? (i := 5) rfl)), (inA_22 _ (List.mem_of_getElem? (i := 10) rfl))⟩
def uX11_layRuns : List Cond := .code yX11_layRuns cX11_layRuns 14 none :: wsL_law
theorem vX11_layRuns : Cond.instanceMethod yX11_layRuns ∈ wsL_law ∧ Cond.selects RX11 yX11_layRuns yX11_layRuns ∈ wsL_law ∧ Cond.initialized RX11 ∈ wsL_law ∧ Cond.code yX11_layRuns cX11_layRuns 14 none ∈ wsL_law := ⟨(inA_22 _ (List.mem_of_getElem? (i := 0) rfl)), (inA_22 _ (List.mem_of_getElem? (i := 1) rfl)), (inA_1 _ (List.mem_of_getElem? (i := 5) rfl)), (inA_22 _ (List.mem_of_getElem? (i := 2) rfl))⟩
def uX11_layDepths : List Cond := .code yX11_layDepths cX11_layDepths 7 none :: wsL_law
theorem vX11_layDepths : Cond.instanceMethod yX11_layDepths ∈ wsL_law ∧ Cond.selects RX11 yX11_layDepths yX11_layDepths ∈ wsL_law ∧ Cond.initialized RX11 ∈ wsL_law ∧ Cond.code yX11_layDepths cX11_layDepths 7 none ∈ wsL_law := ⟨(inA_22 _ (List.mem_of_getElem? (i := 12) rfl)), (inA_22 _ (List.mem_of_getElem? (i := 13) rfl)), (inA_1 _ (List.mem_of_getElem? (i := 5) rfl)), (inA_22 _ (List.mem_of_getElem? (i := 14) rfl))⟩
def uX11_hang : List Cond := .code yX11_hang cX11_hang 4 (some .boolean) :: wsL_law
theorem vX11_hang : Cond.instanceMethod yX11_hang ∈ wsL_law ∧ Cond.selects RX11 yX11_hang yX11_hang ∈ wsL_law ∧ Cond.initialized RX11 ∈ wsL_law ∧ Cond.code yX11_hang cX11_hang 4 (some .boolean) ∈ wsL_law := ⟨(inA_23 _ (List.mem_of_getElem? (i := 0) rfl)), (inA_23 _ (List.mem_of_getElem? (i := 1) rfl)), (inA_1 _ (List.mem_of_getElem? (i := 5) rfl)), (inA_23 _ (List.mem_of_getElem? (i := 2) rfl))⟩
def uX11_bringTogether : List Cond := .code yX11_bringTogether cX11_bringTogether 4 (some .boolean) :: wsL_law
theorem vX11_bringTogether : Cond.instanceMethod yX11_bringTogether ∈ wsL_law ∧ Cond.selects RX11 yX11_bringTogether yX11_bringTogether ∈ wsL_law ∧ Cond.initialized RX11 ∈ wsL_law ∧ Cond.code yX11_bringTogether cX11_bringTogether 4 (some .boolean) ∈ wsL_law := ⟨(inA_22 _ (List.mem_of_getElem? (i := 20) rfl)), (inA_22 _ (List.mem_of_getElem? (i := 21) rfl)), (inA_1 _ (List.mem_of_getElem? (i := 5) rfl)), (inA_22 _ (List.mem_of_getElem? (i := 22) rfl))⟩
def uX11_layAnchors : List Cond := .code yX11_layAnchors cX11_layAnchors 4 none :: wsL_law
theorem vX11_layAnchors : Cond.instanceMethod yX11_layAnchors ∈ wsL_law ∧ Cond.selects RX11 yX11_layAnchors yX11_layAnchors ∈ wsL_law ∧ Cond.initialized RX11 ∈ wsL_law ∧ Cond.code yX11_layAnchors cX11_layAnchors 4 none ∈ wsL_law := ⟨(inA_22 _ (List.mem_of_getElem? (i := 16) rfl)), (inA_22 _ (List.mem_of_getElem? (i := 17) rfl)), (inA_1 _ (List.mem_of_getElem? (i := 5) rfl)), (inA_22 _ (List.mem_of_getElem? (i := 18) rfl))⟩
def uX11_reckon : List Cond := .code yX11_reckon cX11_reckon 3 none :: wsL_law
theorem vX11_reckon : Cond.instanceMethod yX11_reckon ∈ wsL_law ∧ Cond.selects RX11 yX11_reckon yX11_reckon ∈ wsL_law ∧ Cond.initialized RX11 ∈ wsL_law ∧ Cond.code yX11_reckon cX11_reckon 3 none ∈ wsL_law := ⟨(inA_21 _ (List.mem_of_getElem? (i := 6) rfl)), (inA_21 _ (List.mem_of_getElem? (i := 7) rfl)), (inA_1 _ (List.mem_of_getElem? (i := 5) rfl)), (inA_21 _ (List.mem_of_getElem? (i := 8) rfl))⟩
def uX11_isCube : List Cond := .code yX11_isCube cX11_isCube 4 (some .boolean) :: wsL_law
theorem vX11_isCube : Cond.instanceMethod yX11_isCube ∈ wsL_law ∧ Cond.selects RX11 yX11_isCube yX11_isCube ∈ wsL_law ∧ Cond.initialized RX11 ∈ wsL_law ∧ Cond.code yX11_isCube cX11_isCube 4 (some .boolean) ∈ wsL_law := ⟨(inA_24 _ (List.mem_of_getElem? (i := 0) rfl)), (inA_24 _ (List.mem_of_getElem? (i := 1) rfl)), (inA_1 _ (List.mem_of_getElem? (i := 5) rfl)), (inA_24 _ (List.mem_of_getElem? (i := 2) rfl))⟩
def uX11_cubes : List Cond := .code yX11_cubes cX11_cubes 3 (some .int) :: wsL_law
theorem vX11_cubes : Cond.instanceMethod yX11_cubes ∈ wsL_law ∧ Cond.selects RX11 yX11_cubes yX11_cubes ∈ wsL_law ∧ Cond.initialized RX11 ∈ wsL_law ∧ Cond.code yX11_cubes cX11_cubes 3 (some .int) ∈ wsL_law := ⟨(inA_23 _ (List.mem_of_getElem? (i := 20) rfl)), (inA_23 _ (List.mem_of_getElem? (i := 21) rfl)), (inA_1 _ (List.mem_of_getElem? (i := 5) rfl)), (inA_23 _ (List.mem_of_getElem? (i := 22) rfl))⟩
def uX11_many : List Cond := .code yX11_many cX11_many 2 (some .int) :: wsL_law
theorem vX11_many : Cond.instanceMethod yX11_many ∈ wsL_law ∧ Cond.selects RX11 yX11_many yX11_many ∈ wsL_law ∧ Cond.initialized RX11 ∈ wsL_law ∧ Cond.code yX11_many cX11_many 2 (some .int) ∈ wsL_law := ⟨(inA_21 _ (List.mem_of_getElem? (i := 2) rfl)), (inA_21 _ (List.mem_of_getElem? (i := 3) rfl)), (inA_1 _ (List.mem_of_getElem? (i := 5) rfl)), (inA_21 _ (List.mem_of_getElem? (i := 4) rfl))⟩
def uX11_isDeep : List Cond := .code yX11_isDeep cX11_isDeep 4 (some .boolean) :: wsL_law
theorem vX11_isDeep : Cond.instanceMethod yX11_isDeep ∈ wsL_law ∧ Cond.selects RX11 yX11_isDeep yX11_isDeep ∈ wsL_law ∧ Cond.initialized RX11 ∈ wsL_law ∧ Cond.code yX11_isDeep cX11_isDeep 4 (some .boolean) ∈ wsL_law := ⟨(inA_24 _ (List.mem_of_getElem? (i := 21) rfl)), (inA_24 _ (List.mem_of_getElem? (i := 22) rfl)), (inA_1 _ (List.mem_of_getElem? (i := 5) rfl)), (inA_24 _ (List.mem_of_getElem? (i := 23) rfl))⟩
def uX11_cost : List Cond := .code yX11_cost cX11_cost 5 (some .int) :: wsL_law
theorem vX11_cost : Cond.instanceMethod yX11_cost ∈ wsL_law ∧ Cond.selects RX11 yX11_cost yX11_cost ∈ wsL_law ∧ Cond.initialized RX11 ∈ wsL_law ∧ Cond.code yX11_cost cX11_cost 5 (some .int) ∈ wsL_law := ⟨(inA_24 _ (List.mem_of_getElem? (i := 17) rfl)), (inA_24 _ (List.mem_of_getElem? (i := 18) rfl)), (inA_1 _ (List.mem_of_getElem? (i := 5) rfl)), (inA_24 _ (List.mem_of_getElem? (i := 19) rfl))⟩
def uX11_payMatch : List Cond := .code yX11_payMatch cX11_payMatch 5 (some .int) :: wsL_law
theorem vX11_payMatch : Cond.instanceMethod yX11_payMatch ∈ wsL_law ∧ Cond.selects RX11 yX11_payMatch yX11_payMatch ∈ wsL_law ∧ Cond.initialized RX11 ∈ wsL_law ∧ Cond.code yX11_payMatch cX11_payMatch 5 (some .int) ∈ wsL_law := ⟨(inA_26 _ (List.mem_of_getElem? (i := 16) rfl)), (inA_26 _ (List.mem_of_getElem? (i := 17) rfl)), (inA_1 _ (List.mem_of_getElem? (i := 5) rfl)), (inA_26 _ (List.mem_of_getElem? (i := 18) rfl))⟩
def uX11_goPath : List Cond := .code yX11_goPath cX11_goPath 5 none :: wsL_law
theorem vX11_goPath : Cond.instanceMethod yX11_goPath ∈ wsL_law ∧ Cond.selects RX11 yX11_goPath yX11_goPath ∈ wsL_law ∧ Cond.initialized RX11 ∈ wsL_law ∧ Cond.code yX11_goPath cX11_goPath 5 none ∈ wsL_law := ⟨(inA_26 _ (List.mem_of_getElem? (i := 20) rfl)), (inA_26 _ (List.mem_of_getElem? (i := 21) rfl)), (inA_1 _ (List.mem_of_getElem? (i := 5) rfl)), (inA_26 _ (List.mem_of_getElem? (i := 22) rfl))⟩
def uX11_layPath : List Cond := .code yX11_layPath cX11_layPath 7 none :: wsL_law
theorem vX11_layPath : Cond.instanceMethod yX11_layPath ∈ wsL_law ∧ Cond.selects RX11 yX11_layPath yX11_layPath ∈ wsL_law ∧ Cond.initialized RX11 ∈ wsL_law ∧ Cond.code yX11_layPath cX11_layPath 7 none ∈ wsL_law := ⟨(inA_26 _ (List.mem_of_getElem? (i := 12) rfl)), (inA_26 _ (List.mem_of_getElem? (i := 13) rfl)), (inA_1 _ (List.mem_of_getElem? (i := 5) rfl)), (inA_26 _ (List.mem_of_getElem? (i := 14) rfl))⟩
def uX11_path : List Cond := .code yX11_path cX11_path 2 (some .int) :: wsL_law
theorem vX11_path : Cond.instanceMethod yX11_path ∈ wsL_law ∧ Cond.selects RX11 yX11_path yX11_path ∈ wsL_law ∧ Cond.initialized RX11 ∈ wsL_law ∧ Cond.code yX11_path cX11_path 2 (some .int) ∈ wsL_law := ⟨(inA_26 _ (List.mem_of_getElem? (i := 8) rfl)), (inA_26 _ (List.mem_of_getElem? (i := 9) rfl)), (inA_1 _ (List.mem_of_getElem? (i := 5) rfl)), (inA_26 _ (List.mem_of_getElem? (i := 10) rfl))⟩
def uX11_matched : List Cond := .code yX11_matched cX11_matched 3 (some .int) :: wsL_law
theorem vX11_matched : Cond.instanceMethod yX11_matched ∈ wsL_law ∧ Cond.selects RX11 yX11_matched yX11_matched ∈ wsL_law ∧ Cond.initialized RX11 ∈ wsL_law ∧ Cond.code yX11_matched cX11_matched 3 (some .int) ∈ wsL_law := ⟨(inA_27 _ (List.mem_of_getElem? (i := 7) rfl)), (inA_27 _ (List.mem_of_getElem? (i := 8) rfl)), (inA_1 _ (List.mem_of_getElem? (i := 5) rfl)), (inA_27 _ (List.mem_of_getElem? (i := 9) rfl))⟩
def uX11_hidden : List Cond := .code yX11_hidden cX11_hidden 3 (some .int) :: wsL_law
theorem vX11_hidden : Cond.instanceMethod yX11_hidden ∈ wsL_law ∧ Cond.selects RX11 yX11_hidden yX11_hidden ∈ wsL_law ∧ Cond.initialized RX11 ∈ wsL_law ∧ Cond.code yX11_hidden cX11_hidden 3 (some .int) ∈ wsL_law := ⟨(inA_27 _ (List.mem_of_getElem? (i := 19) rfl)), (inA_27 _ (List.mem_of_getElem? (i := 20) rfl)), (inA_1 _ (List.mem_of_getElem? (i := 5) rfl)), (inA_27 _ (List.mem_of_getElem? (i := 21) rfl))⟩
def uX11_run : List Cond := .code yX11_run cX11_run 5 (some .int) :: wsL_law
theorem vX11_run : Cond.instanceMethod yX11_run ∈ wsL_law ∧ Cond.selects RX11 yX11_run yX11_run ∈ wsL_law ∧ Cond.initialized RX11 ∈ wsL_law ∧ Cond.code yX11_run cX11_run 5 (some .int) ∈ wsL_law := ⟨(inA_28 _ (List.mem_of_getElem? (i := 5) rfl)), (inA_28 _ (List.mem_of_getElem? (i := 6) rfl)), (inA_1 _ (List.mem_of_getElem? (i := 5) rfl)), (inA_28 _ (List.mem_of_getElem? (i := 7) rfl))⟩
def uX11_sum : List Cond := .code yX11_sum cX11_sum 4 (some .int) :: wsL_law
theorem vX11_sum : Cond.instanceMethod yX11_sum ∈ wsL_law ∧ Cond.selects RX11 yX11_sum yX11_sum ∈ wsL_law ∧ Cond.initialized RX11 ∈ wsL_law ∧ Cond.code yX11_sum cX11_sum 4 (some .int) ∈ wsL_law := ⟨(inA_28 _ (List.mem_of_getElem? (i := 14) rfl)), (inA_28 _ (List.mem_of_getElem? (i := 15) rfl)), (inA_1 _ (List.mem_of_getElem? (i := 5) rfl)), (inA_28 _ (List.mem_of_getElem? (i := 16) rfl))⟩
def uX11_depth : List Cond := .code yX11_depth cX11_depth 4 (some .int) :: wsL_law
theorem vX11_depth : Cond.instanceMethod yX11_depth ∈ wsL_law ∧ Cond.selects RX11 yX11_depth yX11_depth ∈ wsL_law ∧ Cond.initialized RX11 ∈ wsL_law ∧ Cond.code yX11_depth cX11_depth 4 (some .int) ∈ wsL_law := ⟨(inA_29 _ (List.mem_of_getElem? (i := 1) rfl)), (inA_29 _ (List.mem_of_getElem? (i := 2) rfl)), (inA_1 _ (List.mem_of_getElem? (i := 5) rfl)), (inA_29 _ (List.mem_of_getElem? (i := 3) rfl))⟩
def uX11_agreed : List Cond := .code yX11_agreed cX11_agreed 3 (some .int) :: wsL_law
theorem vX11_agreed : Cond.instanceMethod yX11_agreed ∈ wsL_law ∧ Cond.selects RX11 yX11_agreed yX11_agreed ∈ wsL_law ∧ Cond.initialized RX11 ∈ wsL_law ∧ Cond.code yX11_agreed cX11_agreed 3 (some .int) ∈ wsL_law := ⟨(inA_29 _ (List.mem_of_getElem? (i := 10) rfl)), (inA_29 _ (List.mem_of_getElem? (i := 11) rfl)), (inA_1 _ (List.mem_of_getElem? (i := 5) rfl)), (inA_29 _ (List.mem_of_getElem? (i := 12) rfl))⟩
def uX11_segment : List Cond := .code yX11_segment cX11_segment 4 (some .int) :: wsL_law
theorem vX11_segment : Cond.instanceMethod yX11_segment ∈ wsL_law ∧ Cond.selects RX11 yX11_segment yX11_segment ∈ wsL_law ∧ Cond.initialized RX11 ∈ wsL_law ∧ Cond.code yX11_segment cX11_segment 4 (some .int) ∈ wsL_law := ⟨(inA_29 _ (List.mem_of_getElem? (i := 19) rfl)), (inA_29 _ (List.mem_of_getElem? (i := 20) rfl)), (inA_1 _ (List.mem_of_getElem? (i := 5) rfl)), (inA_29 _ (List.mem_of_getElem? (i := 21) rfl))⟩
def uX11_extent : List Cond := .code yX11_extent cX11_extent 6 (some .int) :: wsL_law
theorem vX11_extent : Cond.instanceMethod yX11_extent ∈ wsL_law ∧ Cond.selects RX11 yX11_extent yX11_extent ∈ wsL_law ∧ Cond.initialized RX11 ∈ wsL_law ∧ Cond.code yX11_extent cX11_extent 6 (some .int) ∈ wsL_law := ⟨(inA_30 _ (List.mem_of_getElem? (i := 7) rfl)), (inA_30 _ (List.mem_of_getElem? (i := 8) rfl)), (inA_1 _ (List.mem_of_getElem? (i := 5) rfl)), (inA_30 _ (List.mem_of_getElem? (i := 9) rfl))⟩
def uX11_half : List Cond := .code yX11_half cX11_half 1 (some .int) :: wsL_law
theorem vX11_half : Cond.static yX11_half ∈ wsL_law ∧ Cond.initialized RX11 ∈ wsL_law ∧ Cond.code yX11_half cX11_half 1 (some .int) ∈ wsL_law := ⟨(inA_32 _ (List.mem_of_getElem? (i := 13) rfl)), (inA_1 _ (List.mem_of_getElem? (i := 5) rfl)), (inA_32 _ (List.mem_of_getElem? (i := 14) rfl))⟩
def uX11_planeDepth : List Cond := .code yX11_planeDepth cX11_planeDepth 6 (some .int) :: wsL_law
theorem vX11_planeDepth : Cond.instanceMethod yX11_planeDepth ∈ wsL_law ∧ Cond.selects RX11 yX11_planeDepth yX11_planeDepth ∈ wsL_law ∧ Cond.initialized RX11 ∈ wsL_law ∧ Cond.code yX11_planeDepth cX11_planeDepth 6 (some .int) ∈ wsL_law := ⟨(inA_32 _ (List.mem_of_getElem? (i := 9) rfl)), (inA_32 _ (List.mem_of_getElem? (i := 10) rfl)), (inA_1 _ (List.mem_of_getElem? (i := 5) rfl)), (inA_32 _ (List.mem_of_getElem? (i := 11) rfl))⟩
def uX11_planeCost : List Cond := .code yX11_planeCost cX11_planeCost 9 (some .int) :: wsL_law
theorem vX11_planeCost : Cond.instanceMethod yX11_planeCost ∈ wsL_law ∧ Cond.selects RX11 yX11_planeCost yX11_planeCost ∈ wsL_law ∧ Cond.initialized RX11 ∈ wsL_law ∧ Cond.code yX11_planeCost cX11_planeCost 9 (some .int) ∈ wsL_law := ⟨(inA_32 _ (List.mem_of_getElem? (i := 5) rfl)), (inA_32 _ (List.mem_of_getElem? (i := 6) rfl)), (inA_1 _ (List.mem_of_getElem? (i := 5) rfl)), (inA_32 _ (List.mem_of_getElem? (i := 7) rfl))⟩
def uX11_plane : List Cond := .code yX11_plane cX11_plane 13 (some .int) :: wsL_law
theorem vX11_plane : Cond.instanceMethod yX11_plane ∈ wsL_law ∧ Cond.selects RX11 yX11_plane yX11_plane ∈ wsL_law ∧ Cond.initialized RX11 ∈ wsL_law ∧ Cond.code yX11_plane cX11_plane 13 (some .int) ∈ wsL_law := ⟨(inA_32 _ (List.mem_of_getElem? (i := 1) rfl)), (inA_32 _ (List.mem_of_getElem? (i := 2) rfl)), (inA_1 _ (List.mem_of_getElem? (i := 5) rfl)), (inA_32 _ (List.mem_of_getElem? (i := 3) rfl))⟩
def uX11_seen : List Cond := .code yX11_seen cX11_seen 8 (some .int) :: wsL_law
theorem vX11_seen : Cond.instanceMethod yX11_seen ∈ wsL_law ∧ Cond.selects RX11 yX11_seen yX11_seen ∈ wsL_law ∧ Cond.initialized RX11 ∈ wsL_law ∧ Cond.code yX11_seen cX11_seen 8 (some .int) ∈ wsL_law := ⟨(inA_33 _ (List.mem_of_getElem? (i := 4) rfl)), (inA_33 _ (List.mem_of_getElem? (i := 5) rfl)), (inA_1 _ (List.mem_of_getElem? (i := 5) rfl)), (inA_33 _ (List.mem_of_getElem? (i := 6) rfl))⟩
def uX11_view : List Cond := .code yX11_view cX11_view 4 (some .int) :: wsL_law
theorem vX11_view : Cond.instanceMethod yX11_view ∈ wsL_law ∧ Cond.selects RX11 yX11_view yX11_view ∈ wsL_law ∧ Cond.initialized RX11 ∈ wsL_law ∧ Cond.code yX11_view cX11_view 4 (some .int) ∈ wsL_law := ⟨(inA_33 _ (List.mem_of_getElem? (i := 0) rfl)), (inA_33 _ (List.mem_of_getElem? (i := 1) rfl)), (inA_1 _ (List.mem_of_getElem? (i := 5) rfl)), (inA_33 _ (List.mem_of_getElem? (i := 2) rfl))⟩
def uX11_holes : List Cond := .code yX11_holes cX11_holes 4 (some .int) :: wsL_law
theorem vX11_holes : Cond.instanceMethod yX11_holes ∈ wsL_law ∧ Cond.selects RX11 yX11_holes yX11_holes ∈ wsL_law ∧ Cond.initialized RX11 ∈ wsL_law ∧ Cond.code yX11_holes cX11_holes 4 (some .int) ∈ wsL_law := ⟨(inA_33 _ (List.mem_of_getElem? (i := 12) rfl)), (inA_33 _ (List.mem_of_getElem? (i := 13) rfl)), (inA_1 _ (List.mem_of_getElem? (i := 5) rfl)), (inA_33 _ (List.mem_of_getElem? (i := 14) rfl))⟩
def uX11_draw : List Cond := .code yX11_draw cX11_draw 12 (some .int) :: wsL_law
theorem vX11_draw : Cond.instanceMethod yX11_draw ∈ wsL_law ∧ Cond.selects RX11 yX11_draw yX11_draw ∈ wsL_law ∧ Cond.initialized RX11 ∈ wsL_law ∧ Cond.code yX11_draw cX11_draw 12 (some .int) ∈ wsL_law := ⟨(inA_34 _ (List.mem_of_getElem? (i := 10) rfl)), (inA_34 _ (List.mem_of_getElem? (i := 11) rfl)), (inA_1 _ (List.mem_of_getElem? (i := 5) rfl)), (inA_34 _ (List.mem_of_getElem? (i := 12) rfl))⟩
def uX11_truth : List Cond := .code yX11_truth cX11_truth 3 (some .int) :: wsL_law
theorem vX11_truth : Cond.instanceMethod yX11_truth ∈ wsL_law ∧ Cond.selects RX11 yX11_truth yX11_truth ∈ wsL_law ∧ Cond.initialized RX11 ∈ wsL_law ∧ Cond.code yX11_truth cX11_truth 3 (some .int) ∈ wsL_law := ⟨(inA_34 _ (List.mem_of_getElem? (i := 20) rfl)), (inA_34 _ (List.mem_of_getElem? (i := 21) rfl)), (inA_1 _ (List.mem_of_getElem? (i := 5) rfl)), (inA_34 _ (List.mem_of_getElem? (i := 22) rfl))⟩
def uX11_scoreOf : List Cond := .code yX11_scoreOf cX11_scoreOf 7 (some .int) :: wsL_law
theorem vX11_scoreOf : Cond.instanceMethod yX11_scoreOf ∈ wsL_law ∧ Cond.selects RX11 yX11_scoreOf yX11_scoreOf ∈ wsL_law ∧ Cond.initialized RX11 ∈ wsL_law ∧ Cond.code yX11_scoreOf cX11_scoreOf 7 (some .int) ∈ wsL_law := ⟨(inA_35 _ (List.mem_of_getElem? (i := 15) rfl)), (inA_35 _ (List.mem_of_getElem? (i := 16) rfl)), (inA_1 _ (List.mem_of_getElem? (i := 5) rfl)), (inA_35 _ (List.mem_of_getElem? (i := 17) rfl))⟩
def uX11_score : List Cond := .code yX11_score cX11_score 5 (some .int) :: wsL_law
theorem vX11_score : Cond.instanceMethod yX11_score ∈ wsL_law ∧ Cond.selects RX11 yX11_score yX11_score ∈ wsL_law ∧ Cond.initialized RX11 ∈ wsL_law ∧ Cond.code yX11_score cX11_score 5 (some .int) ∈ wsL_law := ⟨(inA_35 _ (List.mem_of_getElem? (i := 11) rfl)), (inA_35 _ (List.mem_of_getElem? (i := 12) rfl)), (inA_1 _ (List.mem_of_getElem? (i := 5) rfl)), (inA_35 _ (List.mem_of_getElem? (i := 13) rfl))⟩
def uX11_outline : List Cond := .code yX11_outline cX11_outline 4 (some .int) :: wsL_law
theorem vX11_outline : Cond.instanceMethod yX11_outline ∈ wsL_law ∧ Cond.selects RX11 yX11_outline yX11_outline ∈ wsL_law ∧ Cond.initialized RX11 ∈ wsL_law ∧ Cond.code yX11_outline cX11_outline 4 (some .int) ∈ wsL_law := ⟨(inA_36 _ (List.mem_of_getElem? (i := 4) rfl)), (inA_36 _ (List.mem_of_getElem? (i := 5) rfl)), (inA_1 _ (List.mem_of_getElem? (i := 5) rfl)), (inA_36 _ (List.mem_of_getElem? (i := 6) rfl))⟩
def uX11_cube : List Cond := .code yX11_cube cX11_cube 4 (some .boolean) :: wsL_law
theorem vX11_cube : Cond.instanceMethod yX11_cube ∈ wsL_law ∧ Cond.selects RX11 yX11_cube yX11_cube ∈ wsL_law ∧ Cond.initialized RX11 ∈ wsL_law ∧ Cond.code yX11_cube cX11_cube 4 (some .boolean) ∈ wsL_law := ⟨(inA_36 _ (List.mem_of_getElem? (i := 19) rfl)), (inA_36 _ (List.mem_of_getElem? (i := 20) rfl)), (inA_1 _ (List.mem_of_getElem? (i := 5) rfl)), (inA_36 _ (List.mem_of_getElem? (i := 21) rfl))⟩
def uX11_hasCube : List Cond := .code yX11_hasCube cX11_hasCube 7 (some .boolean) :: wsL_law
theorem vX11_hasCube : Cond.instanceMethod yX11_hasCube ∈ wsL_law ∧ Cond.selects RX11 yX11_hasCube yX11_hasCube ∈ wsL_law ∧ Cond.initialized RX11 ∈ wsL_law ∧ Cond.code yX11_hasCube cX11_hasCube 7 (some .boolean) ∈ wsL_law := ⟨(inA_37 _ (List.mem_of_getElem? (i := 20) rfl)), (inA_37 _ (List.mem_of_getElem? (i := 21) rfl)), (inA_1 _ (List.mem_of_getElem? (i := 5) rfl)), (inA_37 _ (List.mem_of_getElem? (i := 22) rfl))⟩
def uX11_empty : List Cond := .code yX11_empty cX11_empty 5 (some .int) :: wsL_law
theorem vX11_empty : Cond.instanceMethod yX11_empty ∈ wsL_law ∧ Cond.selects RX11 yX11_empty yX11_empty ∈ wsL_law ∧ Cond.initialized RX11 ∈ wsL_law ∧ Cond.code yX11_empty cX11_empty 5 (some .int) ∈ wsL_law := ⟨(inA_37 _ (List.mem_of_getElem? (i := 16) rfl)), (inA_37 _ (List.mem_of_getElem? (i := 17) rfl)), (inA_1 _ (List.mem_of_getElem? (i := 5) rfl)), (inA_37 _ (List.mem_of_getElem? (i := 18) rfl))⟩
def uX11_keep : List Cond := .code yX11_keep cX11_keep 2 (some .int) :: wsL_law
theorem vX11_keep : Cond.instanceMethod yX11_keep ∈ wsL_law ∧ Cond.selects RX11 yX11_keep yX11_keep ∈ wsL_law ∧ Cond.initialized RX11 ∈ wsL_law ∧ Cond.code yX11_keep cX11_keep 2 (some .int) ∈ wsL_law := ⟨(inA_38 _ (List.mem_of_getElem? (i := 14) rfl)), (inA_38 _ (List.mem_of_getElem? (i := 15) rfl)), (inA_1 _ (List.mem_of_getElem? (i := 5) rfl)), (inA_38 _ (List.mem_of_getElem? (i := 16) rfl))⟩
def uX11_back : List Cond := .code yX11_back cX11_back 2 (some .int) :: wsL_law
theorem vX11_back : Cond.instanceMethod yX11_back ∈ wsL_law ∧ Cond.selects RX11 yX11_back yX11_back ∈ wsL_law ∧ Cond.initialized RX11 ∈ wsL_law ∧ Cond.code yX11_back cX11_back 2 (some .int) ∈ wsL_law := ⟨(inA_39 _ (List.mem_of_getElem? (i := 1) rfl)), (inA_39 _ (List.mem_of_getElem? (i := 2) rfl)), (inA_1 _ (List.mem_of_getElem? (i := 5) rfl)), (inA_39 _ (List.mem_of_getElem? (i := 3) rfl))⟩
def uJ9_abs_0f7a4 : List Cond := .code yJ9_abs_0f7a4 cJ9_abs_0f7a4 1 (some .int) :: wsL_law
def uJ9_max_7cf53 : List Cond := .code yJ9_max_7cf53 cJ9_max_7cf53 2 (some .int) :: wsL_law
def uJ9_min_7cf53 : List Cond := .code yJ9_min_7cf53 cJ9_min_7cf53 2 (some .int) :: wsL_law
