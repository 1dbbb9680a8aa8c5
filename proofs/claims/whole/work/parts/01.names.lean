/-! ===== BEGIN words of one list among another's, by their places ===== -/
theorem goodIn_r {big : List Cond} (ws : List Cond) (ps : List Nat) (hp : ws = ps.filterMap (fun i => big[i]?)) (h : ws.all goodWord = true) : GoodIn big ws := by
  intro w hw
  have h1 := List.all_eq_true.mp h w hw
  rw [hp] at hw
  obtain ⟨i, -, hi⟩ := List.mem_filterMap.mp hw
  have hm : w ∈ big := by first | exact List.mem_of_getElem? hi | exact List.getElem?_mem hi
  exact ⟨hm, good_of_word h1⟩
theorem goodIn_app {big a b : List Cond} (ha : GoodIn big a) (hb : GoodIn big b) : GoodIn big (a ++ b) := fun w h => (List.mem_append.mp h).elim (ha w) (hb w)
theorem goodIn_ca {big a b : List Cond} {c : Cond} (ha : GoodIn big (c :: a)) (hb : GoodIn big b) : GoodIn big (c :: (a ++ b)) := fun w h => (List.mem_cons.mp h).elim (fun e => ha w (List.mem_cons.mpr (Or.inl e))) (fun h => (List.mem_append.mp h).elim (fun h => ha w (List.mem_cons.mpr (Or.inr h))) (hb w))
theorem goodIn_sub {big ws : List Cond} (hm : ∀ w ∈ ws, w ∈ big) (h : ws.all goodWord = true) : GoodIn big ws := fun w hw => ⟨hm w hw, good_of_word (List.all_eq_true.mp h w hw)⟩
/-! ===== END ===== -/


/-! ===== BEGIN printed: names, fields, word lists, decode rows ===== -/
def RX0 : String := "KnockWall$Code"
def TX0 : u_T := fun k => match k with
  | 0 => ("KnockWall$Code", "letters", "[B", true)
  | 1 => ("KnockWall$Code", "words", "LKnockWall$Names;", true)
  | 2 => ("KnockWall$Code", "weights", "[I", true)
  | 3 => ("KnockWall$Code", "shorts", "LKnockWall$Names;", true)
  | 4 => ("KnockWall$Code", "longs", "LKnockWall$Names;", true)
  | 5 => ("KnockWall$Code", "night", "LKnockWall$Night;", true)
  | 6 => ("KnockWall$Code", "guards", "I", false)
  | 7 => ("KnockWall$Code", "less", "I", false)
  | 8 => ("KnockWall$Code", "more", "I", false)
  | 9 => ("KnockWall$Code", "knock", "I", false)
  | 10 => ("KnockWall$Code", "pause", "I", false)
  | 11 => ("KnockWall$Code", "gap", "I", false)
  | 12 => ("KnockWall$Code", "tableTold", "Z", false)
  | 13 => ("KnockWall$Code", "slipTold", "Z", false)
  | _ => ("KnockWall$Code", "timeTold", "Z", false)
def tyX0 : Nat → FieldType := fun k => match k with
  | 0 => .array .byte
  | 1 => .object "KnockWall$Names"
  | 2 => .array .int
  | 3 => .object "KnockWall$Names"
  | 4 => .object "KnockWall$Names"
  | 5 => .object "KnockWall$Night"
  | 6 => .int
  | 7 => .int
  | 8 => .int
  | 9 => .int
  | 10 => .int
  | 11 => .int
  | 12 => .boolean
  | 13 => .boolean
  | _ => .boolean
abbrev wsX00 : List Cond := u_ws RX0 TX0 15
theorem nmX0 : ∀ a, a < 15 → ∀ b, b < 15 → a ≠ b → (TX0 a).2.1 ≠ (TX0 b).2.1 := by decide +kernel
theorem tyX0_ok : ∀ k, k < 15 → parseFieldDescriptor (TX0 k).2.2.1 = some (tyX0 k) := by decide +kernel
abbrev cX0_init : ByteArray := prog_2_method_1_code
def yX0_init : MethodName := ⟨RX0, "<init>", "()V"⟩
abbrev cX0_clear : ByteArray := prog_2_method_2_code
def yX0_clear : MethodName := ⟨RX0, "clear", "()V"⟩
abbrev cX0_slips : ByteArray := prog_2_method_3_code
def yX0_slips : MethodName := ⟨RX0, "slips", "(I)I"⟩
abbrev cX0_takeTable : ByteArray := prog_2_method_4_code
def yX0_takeTable : MethodName := ⟨RX0, "takeTable", "(LKnockWall$Tape;)Z"⟩
abbrev cX0_hasAllLetters : ByteArray := prog_2_method_5_code
def yX0_hasAllLetters : MethodName := ⟨RX0, "hasAllLetters", "()Z"⟩
abbrev cX0_tableLetters : ByteArray := prog_2_method_6_code
def yX0_tableLetters : MethodName := ⟨RX0, "tableLetters", "()I"⟩
def RX1 : String := "KnockWall$Hearing"
def TX1 : u_T := fun k => match k with
  | 0 => ("KnockWall$Hearing", "chances", "[J", true)
  | 1 => ("KnockWall$Hearing", "total", "J", false)
  | 2 => ("KnockWall$Hearing", "top", "I", false)
  | 3 => ("KnockWall$Hearing", "depths", "[[J", true)
  | _ => ("KnockWall$Hearing", "knocked", "[[I", true)
def tyX1 : Nat → FieldType := fun k => match k with
  | 0 => .array .long
  | 1 => .long
  | 2 => .int
  | 3 => .array (.array .long)
  | _ => .array (.array .int)
abbrev wsX10 : List Cond := u_ws RX1 TX1 5
theorem nmX1 : ∀ a, a < 5 → ∀ b, b < 5 → a ≠ b → (TX1 a).2.1 ≠ (TX1 b).2.1 := by decide +kernel
theorem tyX1_ok : ∀ k, k < 5 → parseFieldDescriptor (TX1 k).2.2.1 = some (tyX1 k) := by decide +kernel
abbrev cX1_init : ByteArray := prog_3_method_1_code
def yX1_init : MethodName := ⟨RX1, "<init>", "()V"⟩
abbrev cX1_weigh : ByteArray := prog_3_method_2_code
def yX1_weigh : MethodName := ⟨RX1, "weigh", "(LKnockWall$Code;LKnockWall$Image;)V"⟩
abbrev cX1_chanceOf : ByteArray := prog_3_method_3_code
def yX1_chanceOf : MethodName := ⟨RX1, "chanceOf", "(LKnockWall$Code;LKnockWall$Image;I)J"⟩
abbrev cX1_topOf : ByteArray := prog_3_method_4_code
def yX1_topOf : MethodName := ⟨RX1, "topOf", "([JI)I"⟩
abbrev cX1_readRight : ByteArray := prog_3_method_5_code
def yX1_readRight : MethodName := ⟨RX1, "readRight", "(LKnockWall$Code;LKnockWall$Image;II)J"⟩
abbrev cX1_goodWays : ByteArray := prog_3_method_6_code
def yX1_goodWays : MethodName := ⟨RX1, "goodWays", "(LKnockWall$Hearing;LKnockWall$Code;IIII)J"⟩
abbrev cX1_listen : ByteArray := prog_3_method_7_code
def yX1_listen : MethodName := ⟨RX1, "listen", "(LKnockWall$Code;[III)V"⟩
def RX2 : String := "KnockWall$Image"
def TX2 : u_T := fun k => match k with
  | 0 => ("KnockWall$Image", "letters", "[B", true)
  | 1 => ("KnockWall$Image", "places", "[B", true)
  | 2 => ("KnockWall$Image", "heardCounts", "[I", true)
  | 3 => ("KnockWall$Image", "heardSize", "I", false)
  | 4 => ("KnockWall$Image", "knowers", "[I", true)
  | _ => ("KnockWall$Image", "kept", "Z", false)
def tyX2 : Nat → FieldType := fun k => match k with
  | 0 => .array .byte
  | 1 => .array .byte
  | 2 => .array .int
  | 3 => .int
  | 4 => .array .int
  | _ => .boolean
abbrev wsX20 : List Cond := u_ws RX2 TX2 6
theorem nmX2 : ∀ a, a < 6 → ∀ b, b < 6 → a ≠ b → (TX2 a).2.1 ≠ (TX2 b).2.1 := by decide +kernel
theorem tyX2_ok : ∀ k, k < 6 → parseFieldDescriptor (TX2 k).2.2.1 = some (tyX2 k) := by decide +kernel
abbrev cX2_init : ByteArray := prog_4_method_1_code
def yX2_init : MethodName := ⟨RX2, "<init>", "()V"⟩
abbrev cX2_startWith : ByteArray := prog_4_method_2_code
def yX2_startWith : MethodName := ⟨RX2, "startWith", "([B)V"⟩
abbrev cX2_put : ByteArray := prog_4_method_3_code
def yX2_put : MethodName := ⟨RX2, "put", "(IB)V"⟩
abbrev cX2_copyFrom : ByteArray := prog_4_method_4_code
def yX2_copyFrom : MethodName := ⟨RX2, "copyFrom", "(LKnockWall$Image;)V"⟩
abbrev cX2_placeOf : ByteArray := prog_4_method_5_code
def yX2_placeOf : MethodName := ⟨RX2, "placeOf", "(I)I"⟩
abbrev cX2_knocksOf : ByteArray := prog_4_method_6_code
def yX2_knocksOf : MethodName := ⟨RX2, "knocksOf", "(I)I"⟩
abbrev cX2_knocksOfName : ByteArray := prog_4_method_7_code
def yX2_knocksOfName : MethodName := ⟨RX2, "knocksOfName", "(LKnockWall$Names;I)I"⟩
abbrev cX2_countOfName : ByteArray := prog_4_method_8_code
def yX2_countOfName : MethodName := ⟨RX2, "countOfName", "(LKnockWall$Names;II)I"⟩
def RX3 : String := "KnockWall$Mouths"
def TX3 : u_T := fun k => match k with
  | 0 => ("KnockWall$Mouths", "ways", "[J", true)
  | _ => ("KnockWall$Mouths", "next", "[J", true)
def tyX3 : Nat → FieldType := fun k => match k with
  | 0 => .array .long
  | _ => .array .long
abbrev wsX30 : List Cond := u_ws RX3 TX3 2
theorem nmX3 : ∀ a, a < 2 → ∀ b, b < 2 → a ≠ b → (TX3 a).2.1 ≠ (TX3 b).2.1 := by decide +kernel
theorem tyX3_ok : ∀ k, k < 2 → parseFieldDescriptor (TX3 k).2.2.1 = some (tyX3 k) := by decide +kernel
abbrev cX3_init : ByteArray := prog_5_method_1_code
def yX3_init : MethodName := ⟨RX3, "<init>", "()V"⟩
abbrev cX3_pass : ByteArray := prog_5_method_2_code
def yX3_pass : MethodName := ⟨RX3, "pass", "(LKnockWall$Code;II)V"⟩
abbrev cX3_mostWays : ByteArray := prog_5_method_3_code
def yX3_mostWays : MethodName := ⟨RX3, "mostWays", "()I"⟩
def RX4 : String := "KnockWall$Names"
def TX4 : u_T := fun k => match k with
  | 0 => ("KnockWall$Names", "most", "I", true)
  | 1 => ("KnockWall$Names", "width", "I", true)
  | 2 => ("KnockWall$Names", "letters", "[B", true)
  | 3 => ("KnockWall$Names", "lengths", "[I", true)
  | 4 => ("KnockWall$Names", "masks", "[I", true)
  | _ => ("KnockWall$Names", "size", "I", false)
def tyX4 : Nat → FieldType := fun k => match k with
  | 0 => .int
  | 1 => .int
  | 2 => .array .byte
  | 3 => .array .int
  | 4 => .array .int
  | _ => .int
abbrev wsX40 : List Cond := u_ws RX4 TX4 6
theorem nmX4 : ∀ a, a < 6 → ∀ b, b < 6 → a ≠ b → (TX4 a).2.1 ≠ (TX4 b).2.1 := by decide +kernel
theorem tyX4_ok : ∀ k, k < 6 → parseFieldDescriptor (TX4 k).2.2.1 = some (tyX4 k) := by decide +kernel
abbrev cX4_init : ByteArray := prog_6_method_1_code
def yX4_init : MethodName := ⟨RX4, "<init>", "(II)V"⟩
abbrev cX4_add : ByteArray := prog_6_method_2_code
def yX4_add : MethodName := ⟨RX4, "add", "(LKnockWall$Tape;)V"⟩
abbrev cX4_lengthOf : ByteArray := prog_6_method_3_code
def yX4_lengthOf : MethodName := ⟨RX4, "lengthOf", "(I)I"⟩
abbrev cX4_letterAt : ByteArray := prog_6_method_4_code
def yX4_letterAt : MethodName := ⟨RX4, "letterAt", "(II)I"⟩
abbrev cX4_allLetters : ByteArray := prog_6_method_5_code
def yX4_allLetters : MethodName := ⟨RX4, "allLetters", "()I"⟩
abbrev cX4_firstLike : ByteArray := prog_6_method_6_code
def yX4_firstLike : MethodName := ⟨RX4, "firstLike", "(LKnockWall$Tape;II)I"⟩
abbrev cX4_isLike : ByteArray := prog_6_method_7_code
def yX4_isLike : MethodName := ⟨RX4, "isLike", "(ILKnockWall$Tape;I)Z"⟩
def RX5 : String := "KnockWall$Night"
def TX5 : u_T := fun k => match k with
  | _ => ("KnockWall$Night", "watched", "[B", true)
def tyX5 : Nat → FieldType := fun k => match k with
  | _ => .array .byte
abbrev wsX50 : List Cond := u_ws RX5 TX5 1
theorem nmX5 : ∀ a, a < 1 → ∀ b, b < 1 → a ≠ b → (TX5 a).2.1 ≠ (TX5 b).2.1 := by decide +kernel
theorem tyX5_ok : ∀ k, k < 1 → parseFieldDescriptor (TX5 k).2.2.1 = some (tyX5 k) := by decide +kernel
abbrev cX5_init : ByteArray := prog_7_method_1_code
def yX5_init : MethodName := ⟨RX5, "<init>", "()V"⟩
abbrev cX5_clear : ByteArray := prog_7_method_2_code
def yX5_clear : MethodName := ⟨RX5, "clear", "()V"⟩
abbrev cX5_watch : ByteArray := prog_7_method_3_code
def yX5_watch : MethodName := ⟨RX5, "watch", "(II)V"⟩
abbrev cX5_watchedMinutes : ByteArray := prog_7_method_4_code
def yX5_watchedMinutes : MethodName := ⟨RX5, "watchedMinutes", "()I"⟩
abbrev cX5_firstFrom : ByteArray := prog_7_method_5_code
def yX5_firstFrom : MethodName := ⟨RX5, "firstFrom", "(II)I"⟩
abbrev cX5_firstRow : ByteArray := prog_7_method_6_code
def yX5_firstRow : MethodName := ⟨RX5, "firstRow", "(II)I"⟩
abbrev cX5_rowsHeld : ByteArray := prog_7_method_7_code
def yX5_rowsHeld : MethodName := ⟨RX5, "rowsHeld", "(I)I"⟩
abbrev cX5_longestRow : ByteArray := prog_7_method_8_code
def yX5_longestRow : MethodName := ⟨RX5, "longestRow", "()I"⟩
def RX6 : String := "KnockWall$Reader"
def TX6 : u_T := fun k => match k with
  | 0 => ("KnockWall$Reader", "kind", "I", false)
  | _ => ("KnockWall$Reader", "where", "I", false)
def tyX6 : Nat → FieldType := fun k => match k with
  | 0 => .int
  | _ => .int
abbrev wsX60 : List Cond := u_ws RX6 TX6 2
theorem nmX6 : ∀ a, a < 2 → ∀ b, b < 2 → a ≠ b → (TX6 a).2.1 ≠ (TX6 b).2.1 := by decide +kernel
theorem tyX6_ok : ∀ k, k < 2 → parseFieldDescriptor (TX6 k).2.2.1 = some (tyX6 k) := by decide +kernel
abbrev cX6_init : ByteArray := prog_8_method_1_code
def yX6_init : MethodName := ⟨RX6, "<init>", "()V"⟩
abbrev cX6_readLines : ByteArray := prog_8_method_2_code
def yX6_readLines : MethodName := ⟨RX6, "readLines", "(LKnockWall$Tape;LKnockWall$Code;)I"⟩
abbrev cX6_takeLine : ByteArray := prog_8_method_3_code
def yX6_takeLine : MethodName := ⟨RX6, "takeLine", "(LKnockWall$Tape;LKnockWall$Code;)Z"⟩
abbrev cX6_takeTableLine : ByteArray := prog_8_method_4_code
def yX6_takeTableLine : MethodName := ⟨RX6, "takeTableLine", "(LKnockWall$Tape;LKnockWall$Code;)Z"⟩
abbrev cX6_takeWordLine : ByteArray := prog_8_method_5_code
def yX6_takeWordLine : MethodName := ⟨RX6, "takeWordLine", "(LKnockWall$Tape;LKnockWall$Code;)Z"⟩
abbrev cX6_takeShortLine : ByteArray := prog_8_method_6_code
def yX6_takeShortLine : MethodName := ⟨RX6, "takeShortLine", "(LKnockWall$Tape;LKnockWall$Code;)Z"⟩
abbrev cX6_takeSlipLine : ByteArray := prog_8_method_7_code
def yX6_takeSlipLine : MethodName := ⟨RX6, "takeSlipLine", "(LKnockWall$Tape;LKnockWall$Code;)Z"⟩
abbrev cX6_takeTimeLine : ByteArray := prog_8_method_8_code
def yX6_takeTimeLine : MethodName := ⟨RX6, "takeTimeLine", "(LKnockWall$Tape;LKnockWall$Code;)Z"⟩
abbrev cX6_takeGuardLine : ByteArray := prog_8_method_9_code
def yX6_takeGuardLine : MethodName := ⟨RX6, "takeGuardLine", "(LKnockWall$Tape;LKnockWall$Code;)Z"⟩
abbrev cX6_takeName : ByteArray := prog_8_method_10_code
def yX6_takeName : MethodName := ⟨RX6, "takeName", "(LKnockWall$Tape;II)Z"⟩
abbrev cX6_takeNumber : ByteArray := prog_8_method_11_code
def yX6_takeNumber : MethodName := ⟨RX6, "takeNumber", "(LKnockWall$Tape;II)Z"⟩
abbrev cX6_takeSign : ByteArray := prog_8_method_12_code
def yX6_takeSign : MethodName := ⟨RX6, "takeSign", "(LKnockWall$Tape;)Z"⟩
abbrev cX6_isToken : ByteArray := prog_8_method_13_code
def yX6_isToken : MethodName := ⟨RX6, "isToken", "(LKnockWall$Tape;I)Z"⟩
abbrev cX6_fail : ByteArray := prog_8_method_14_code
def yX6_fail : MethodName := ⟨RX6, "fail", "(II)Z"⟩
def RX7 : String := "KnockWall$Saying"
def TX7 : u_T := fun k => match k with
  | 0 => ("KnockWall$Saying", "letters", "I", false)
  | 1 => ("KnockWall$Saying", "names", "I", false)
  | 2 => ("KnockWall$Saying", "knocks", "I", false)
  | 3 => ("KnockWall$Saying", "time", "I", false)
  | 4 => ("KnockWall$Saying", "shortKnocks", "I", false)
  | 5 => ("KnockWall$Saying", "shortTime", "I", false)
  | _ => ("KnockWall$Saying", "shortNames", "I", false)
def tyX7 : Nat → FieldType := fun k => match k with
  | 0 => .int
  | 1 => .int
  | 2 => .int
  | 3 => .int
  | 4 => .int
  | 5 => .int
  | _ => .int
abbrev wsX70 : List Cond := u_ws RX7 TX7 7
theorem nmX7 : ∀ a, a < 7 → ∀ b, b < 7 → a ≠ b → (TX7 a).2.1 ≠ (TX7 b).2.1 := by decide +kernel
theorem tyX7_ok : ∀ k, k < 7 → parseFieldDescriptor (TX7 k).2.2.1 = some (tyX7 k) := by decide +kernel
abbrev cX7_init : ByteArray := prog_9_method_1_code
def yX7_init : MethodName := ⟨RX7, "<init>", "()V"⟩
abbrev cX7_measure : ByteArray := prog_9_method_2_code
def yX7_measure : MethodName := ⟨RX7, "measure", "(LKnockWall$Tape;LKnockWall$Code;LKnockWall$Image;)V"⟩
abbrev cX7_addName : ByteArray := prog_9_method_3_code
def yX7_addName : MethodName := ⟨RX7, "addName", "(LKnockWall$Tape;IILKnockWall$Code;LKnockWall$Image;)V"⟩
abbrev cX7_timeOf : ByteArray := prog_9_method_4_code
def yX7_timeOf : MethodName := ⟨RX7, "timeOf", "(IILKnockWall$Code;)I"⟩
def RX8 : String := "KnockWall$Sheet"
def TX8 : u_T := fun k => match k with
  | 0 => ("KnockWall$Sheet", "cells", "[I", true)
  | 1 => ("KnockWall$Sheet", "lane", "I", false)
  | _ => ("KnockWall$Sheet", "size", "I", false)
def tyX8 : Nat → FieldType := fun k => match k with
  | 0 => .array .int
  | 1 => .int
  | _ => .int
abbrev wsX80 : List Cond := u_ws RX8 TX8 3
theorem nmX8 : ∀ a, a < 3 → ∀ b, b < 3 → a ≠ b → (TX8 a).2.1 ≠ (TX8 b).2.1 := by decide +kernel
theorem tyX8_ok : ∀ k, k < 3 → parseFieldDescriptor (TX8 k).2.2.1 = some (tyX8 k) := by decide +kernel
abbrev cX8_init : ByteArray := prog_10_method_1_code
def yX8_init : MethodName := ⟨RX8, "<init>", "()V"⟩
abbrev cX8_renew : ByteArray := prog_10_method_2_code
def yX8_renew : MethodName := ⟨RX8, "renew", "(II)V"⟩
abbrev cX8_faultOf : ByteArray := prog_10_method_3_code
def yX8_faultOf : MethodName := ⟨RX8, "faultOf", "(II)I"⟩
abbrev cX8_faultAt : ByteArray := prog_10_method_4_code
def yX8_faultAt : MethodName := ⟨RX8, "faultAt", "(I)I"⟩
abbrev cX8_cellAt : ByteArray := prog_10_method_5_code
def yX8_cellAt : MethodName := ⟨RX8, "cellAt", "(I)I"⟩
abbrev cX8_put : ByteArray := prog_10_method_6_code
def yX8_put : MethodName := ⟨RX8, "put", "(II)V"⟩
def RX9 : String := "KnockWall$Tape"
def TX9 : u_T := fun k => match k with
  | 0 => ("KnockWall$Tape", "bytes", "[B", true)
  | 1 => ("KnockWall$Tape", "size", "I", false)
  | 2 => ("KnockWall$Tape", "at", "I", false)
  | 3 => ("KnockWall$Tape", "token", "I", false)
  | 4 => ("KnockWall$Tape", "from", "I", false)
  | _ => ("KnockWall$Tape", "value", "I", false)
def tyX9 : Nat → FieldType := fun k => match k with
  | 0 => .array .byte
  | 1 => .int
  | 2 => .int
  | 3 => .int
  | 4 => .int
  | _ => .int
abbrev wsX90 : List Cond := u_ws RX9 TX9 6
theorem nmX9 : ∀ a, a < 6 → ∀ b, b < 6 → a ≠ b → (TX9 a).2.1 ≠ (TX9 b).2.1 := by decide +kernel
theorem tyX9_ok : ∀ k, k < 6 → parseFieldDescriptor (TX9 k).2.2.1 = some (tyX9 k) := by decide +kernel
abbrev cX9_init : ByteArray := prog_11_method_1_code
def yX9_init : MethodName := ⟨RX9, "<init>", "()V"⟩
abbrev cX9_append : ByteArray := prog_11_method_2_code
def yX9_append : MethodName := ⟨RX9, "append", "(J)Z"⟩
abbrev cX9_nextToken : ByteArray := prog_11_method_3_code
def yX9_nextToken : MethodName := ⟨RX9, "nextToken", "()V"⟩
abbrev cX9_nextNumber : ByteArray := prog_11_method_4_code
def yX9_nextNumber : MethodName := ⟨RX9, "nextNumber", "()V"⟩
abbrev cX9_isName : ByteArray := prog_11_method_5_code
def yX9_isName : MethodName := ⟨RX9, "isName", "(Ljava/lang/String;)Z"⟩
abbrev cX9_firstWrong : ByteArray := prog_11_method_6_code
def yX9_firstWrong : MethodName := ⟨RX9, "firstWrong", "(LKnockWall$Image;)I"⟩
abbrev cX9_isLetter : ByteArray := prog_11_method_7_code
def yX9_isLetter : MethodName := ⟨RX9, "isLetter", "(I)Z"⟩
def RX10 : String := "KnockWall$Tongue"
def TX10 : u_T := fun k => match k with
  | 0 => ("KnockWall$Tongue", "often", "[I", true)
  | 1 => ("KnockWall$Tongue", "sorted", "[B", true)
  | _ => ("KnockWall$Tongue", "ideal", "[B", true)
def tyX10 : Nat → FieldType := fun k => match k with
  | 0 => .array .int
  | 1 => .array .byte
  | _ => .array .byte
abbrev wsX100 : List Cond := u_ws RX10 TX10 3
theorem nmX10 : ∀ a, a < 3 → ∀ b, b < 3 → a ≠ b → (TX10 a).2.1 ≠ (TX10 b).2.1 := by decide +kernel
theorem tyX10_ok : ∀ k, k < 3 → parseFieldDescriptor (TX10 k).2.2.1 = some (tyX10 k) := by decide +kernel
abbrev cX10_init : ByteArray := prog_12_method_1_code
def yX10_init : MethodName := ⟨RX10, "<init>", "()V"⟩
abbrev cX10_learn : ByteArray := prog_12_method_2_code
def yX10_learn : MethodName := ⟨RX10, "learn", "(LKnockWall$Code;LKnockWall$Image;)V"⟩
abbrev cX10_addTo : ByteArray := prog_12_method_3_code
def yX10_addTo : MethodName := ⟨RX10, "addTo", "(II)V"⟩
abbrev cX10_oftenOf : ByteArray := prog_12_method_4_code
def yX10_oftenOf : MethodName := ⟨RX10, "oftenOf", "(I)I"⟩
abbrev cX10_sortIn : ByteArray := prog_12_method_5_code
def yX10_sortIn : MethodName := ⟨RX10, "sortIn", "(BI)V"⟩
abbrev cX10_meanBy : ByteArray := prog_12_method_6_code
def yX10_meanBy : MethodName := ⟨RX10, "meanBy", "([B)I"⟩
def RX11 : String := "KnockWall"
def TX11 : u_T := fun k => match k with
  | 0 => ("KnockWall", "tape", "LKnockWall$Tape;", true)
  | 1 => ("KnockWall", "reader", "LKnockWall$Reader;", true)
  | 2 => ("KnockWall", "now", "LKnockWall$Image;", true)
  | 3 => ("KnockWall", "images", "[LKnockWall$Image;", true)
  | 4 => ("KnockWall", "sheets", "[LKnockWall$Sheet;", true)
  | 5 => ("KnockWall", "saying", "LKnockWall$Saying;", true)
  | 6 => ("KnockWall", "tongue", "LKnockWall$Tongue;", true)
  | 7 => ("KnockWall", "hearing", "LKnockWall$Hearing;", true)
  | 8 => ("KnockWall", "mouth", "LKnockWall$Mouths;", true)
  | 9 => ("KnockWall", "wordKnocks", "[I", true)
  | 10 => ("KnockWall", "plan", "LKnockWall$Code;", false)
  | 11 => ("KnockWall", "spare", "LKnockWall$Code;", false)
  | 12 => ("KnockWall", "latestFault", "I", false)
  | _ => ("KnockWall", "latestTorn", "I", false)
def tyX11 : Nat → FieldType := fun k => match k with
  | 0 => .object "KnockWall$Tape"
  | 1 => .object "KnockWall$Reader"
  | 2 => .object "KnockWall$Image"
  | 3 => .array (.object "KnockWall$Image")
  | 4 => .array (.object "KnockWall$Sheet")
  | 5 => .object "KnockWall$Saying"
  | 6 => .object "KnockWall$Tongue"
  | 7 => .object "KnockWall$Hearing"
  | 8 => .object "KnockWall$Mouths"
  | 9 => .array .int
  | 10 => .object "KnockWall$Code"
  | 11 => .object "KnockWall$Code"
  | 12 => .int
  | _ => .int
abbrev wsX110 : List Cond := u_ws RX11 TX11 14
theorem nmX11 : ∀ a, a < 14 → ∀ b, b < 14 → a ≠ b → (TX11 a).2.1 ≠ (TX11 b).2.1 := by decide +kernel
theorem tyX11_ok : ∀ k, k < 14 → parseFieldDescriptor (TX11 k).2.2.1 = some (tyX11 k) := by decide +kernel
abbrev cX11_init : ByteArray := prog_1_method_1_code
def yX11_init : MethodName := ⟨RX11, "<init>", "()V"⟩
abbrev cX11_feed : ByteArray := prog_1_method_2_code
def yX11_feed : MethodName := ⟨RX11, "feed", "(J)I"⟩
abbrev cX11_end : ByteArray := prog_1_method_3_code
def yX11_end : MethodName := ⟨RX11, "end", "(I)I"⟩
abbrev cX11_code : ByteArray := prog_1_method_4_code
def yX11_code : MethodName := ⟨RX11, "code", "()I"⟩
abbrev cX11_fault : ByteArray := prog_1_method_5_code
def yX11_fault : MethodName := ⟨RX11, "fault", "()I"⟩
abbrev cX11_told : ByteArray := prog_1_method_6_code
def yX11_told : MethodName := ⟨RX11, "told", "(I)I"⟩
abbrev cX11_table : ByteArray := prog_1_method_7_code
def yX11_table : MethodName := ⟨RX11, "table", "(I)I"⟩
abbrev cX11_place : ByteArray := prog_1_method_8_code
def yX11_place : MethodName := ⟨RX11, "place", "(I)I"⟩
abbrev cX11_word : ByteArray := prog_1_method_9_code
def yX11_word : MethodName := ⟨RX11, "word", "(II)I"⟩
abbrev cX11_swap : ByteArray := prog_1_method_10_code
def yX11_swap : MethodName := ⟨RX11, "swap", "(II)I"⟩
abbrev cX11_takes : ByteArray := prog_1_method_11_code
def yX11_takes : MethodName := ⟨RX11, "takes", "(I)I"⟩
abbrev cX11_wrong : ByteArray := prog_1_method_12_code
def yX11_wrong : MethodName := ⟨RX11, "wrong", "()I"⟩
abbrev cX11_mean : ByteArray := prog_1_method_13_code
def yX11_mean : MethodName := ⟨RX11, "mean", "(I)I"⟩
abbrev cX11_best : ByteArray := prog_1_method_14_code
def yX11_best : MethodName := ⟨RX11, "best", "(I)I"⟩
abbrev cX11_adopt : ByteArray := prog_1_method_15_code
def yX11_adopt : MethodName := ⟨RX11, "adopt", "()I"⟩
abbrev cX11_hear : ByteArray := prog_1_method_16_code
def yX11_hear : MethodName := ⟨RX11, "hear", "(I)I"⟩
abbrev cX11_hush : ByteArray := prog_1_method_17_code
def yX11_hush : MethodName := ⟨RX11, "hush", "()I"⟩
abbrev cX11_heard : ByteArray := prog_1_method_18_code
def yX11_heard : MethodName := ⟨RX11, "heard", "(I)I"⟩
abbrev cX11_chance : ByteArray := prog_1_method_19_code
def yX11_chance : MethodName := ⟨RX11, "chance", "(II)J"⟩
abbrev cX11_likeliest : ByteArray := prog_1_method_20_code
def yX11_likeliest : MethodName := ⟨RX11, "likeliest", "()I"⟩
abbrev cX11_sure : ByteArray := prog_1_method_21_code
def yX11_sure : MethodName := ⟨RX11, "sure", "(I)J"⟩
abbrev cX11_fits : ByteArray := prog_1_method_22_code
def yX11_fits : MethodName := ⟨RX11, "fits", "()I"⟩
abbrev cX11_right : ByteArray := prog_1_method_23_code
def yX11_right : MethodName := ⟨RX11, "right", "(III)J"⟩
abbrev cX11_mouths : ByteArray := prog_1_method_24_code
def yX11_mouths : MethodName := ⟨RX11, "mouths", "(IIII)J"⟩
abbrev cX11_letter : ByteArray := prog_1_method_25_code
def yX11_letter : MethodName := ⟨RX11, "letter", "(IIII)J"⟩
abbrev cX11_becomes : ByteArray := prog_1_method_26_code
def yX11_becomes : MethodName := ⟨RX11, "becomes", "(II)I"⟩
abbrev cX11_pipe : ByteArray := prog_1_method_27_code
def yX11_pipe : MethodName := ⟨RX11, "pipe", "(III)J"⟩
abbrev cX11_turns : ByteArray := prog_1_method_28_code
def yX11_turns : MethodName := ⟨RX11, "turns", "(I)I"⟩
abbrev cX11_still : ByteArray := prog_1_method_29_code
def yX11_still : MethodName := ⟨RX11, "still", "(II)I"⟩
abbrev cX11_begin : ByteArray := prog_1_method_30_code
def yX11_begin : MethodName := ⟨RX11, "begin", "(II)I"⟩
abbrev cX11_nights : ByteArray := prog_1_method_31_code
def yX11_nights : MethodName := ⟨RX11, "nights", "(I)I"⟩
abbrev cX11_longest : ByteArray := prog_1_method_32_code
def yX11_longest : MethodName := ⟨RX11, "longest", "(I)I"⟩
abbrev cX11_teach : ByteArray := prog_1_method_33_code
def yX11_teach : MethodName := ⟨RX11, "teach", "(I)I"⟩
abbrev cX11_said : ByteArray := prog_1_method_34_code
def yX11_said : MethodName := ⟨RX11, "said", "(III)I"⟩
abbrev cX11_knows : ByteArray := prog_1_method_35_code
def yX11_knows : MethodName := ⟨RX11, "knows", "(I)I"⟩
abbrev cX11_ask : ByteArray := prog_1_method_36_code
def yX11_ask : MethodName := ⟨RX11, "ask", "(III)I"⟩
abbrev cX11_heardBy : ByteArray := prog_1_method_37_code
def yX11_heardBy : MethodName := ⟨RX11, "heardBy", "(I)I"⟩
abbrev cX11_keep : ByteArray := prog_1_method_38_code
def yX11_keep : MethodName := ⟨RX11, "keep", "(I)I"⟩
abbrev cX11_back : ByteArray := prog_1_method_39_code
def yX11_back : MethodName := ⟨RX11, "back", "(I)I"⟩
abbrev cX11_sheet : ByteArray := prog_1_method_40_code
def yX11_sheet : MethodName := ⟨RX11, "sheet", "(III)I"⟩
abbrev cX11_lay : ByteArray := prog_1_method_41_code
def yX11_lay : MethodName := ⟨RX11, "lay", "(III)I"⟩
abbrev cX11_read : ByteArray := prog_1_method_42_code
def yX11_read : MethodName := ⟨RX11, "read", "(IIII)I"⟩
abbrev cX11_torn : ByteArray := prog_1_method_43_code
def yX11_torn : MethodName := ⟨RX11, "torn", "()I"⟩
abbrev cX11_count : ByteArray := prog_1_method_44_code
def yX11_count : MethodName := ⟨RX11, "count", "(I)I"⟩
abbrev cX11_isWord : ByteArray := prog_1_method_45_code
def yX11_isWord : MethodName := ⟨RX11, "isWord", "(I)Z"⟩
abbrev cX11_canWeigh : ByteArray := prog_1_method_46_code
def yX11_canWeigh : MethodName := ⟨RX11, "canWeigh", "()Z"⟩
abbrev cX11_isPlace : ByteArray := prog_1_method_47_code
def yX11_isPlace : MethodName := ⟨RX11, "isPlace", "(I)Z"⟩
abbrev cX11_isHalf : ByteArray := prog_1_method_48_code
def yX11_isHalf : MethodName := ⟨RX11, "isHalf", "(I)Z"⟩
abbrev cX11_isHearable : ByteArray := prog_1_method_49_code
def yX11_isHearable : MethodName := ⟨RX11, "isHearable", "(I)Z"⟩
abbrev cX11_isKnockable : ByteArray := prog_1_method_50_code
def yX11_isKnockable : MethodName := ⟨RX11, "isKnockable", "(I)Z"⟩
abbrev cX11_isMinute : ByteArray := prog_1_method_51_code
def yX11_isMinute : MethodName := ⟨RX11, "isMinute", "(I)Z"⟩
abbrev cX11_isRowLength : ByteArray := prog_1_method_52_code
def yX11_isRowLength : MethodName := ⟨RX11, "isRowLength", "(I)Z"⟩
abbrev cX11_isCell : ByteArray := prog_1_method_53_code
def yX11_isCell : MethodName := ⟨RX11, "isCell", "(I)Z"⟩
abbrev cX11_isImage : ByteArray := prog_1_method_54_code
def yX11_isImage : MethodName := ⟨RX11, "isImage", "(I)Z"⟩
abbrev cX11_isSheet : ByteArray := prog_1_method_55_code
def yX11_isSheet : MethodName := ⟨RX11, "isSheet", "(I)Z"⟩
abbrev cX11_isLane : ByteArray := prog_1_method_56_code
def yX11_isLane : MethodName := ⟨RX11, "isLane", "(I)Z"⟩
abbrev cX11_imagesKept : ByteArray := prog_1_method_57_code
def yX11_imagesKept : MethodName := ⟨RX11, "imagesKept", "()I"⟩
abbrev cX11_justOne : ByteArray := prog_1_method_58_code
def yX11_justOne : MethodName := ⟨RX11, "justOne", "(II)J"⟩
abbrev cX11_power : ByteArray := prog_1_method_59_code
def yX11_power : MethodName := ⟨RX11, "power", "(JI)J"⟩
abbrev cX11_lowest : ByteArray := prog_1_method_60_code
def yX11_lowest : MethodName := ⟨RX11, "lowest", "(JJI)J"⟩
abbrev cX11_leastLesson : ByteArray := prog_1_method_61_code
def yX11_leastLesson : MethodName := ⟨RX11, "leastLesson", "(LKnockWall$Names;[IIIJ)J"⟩
def RX12 : String := "KnockWallModel"
def TX12 : u_T := fun k => match k with
  | 0 => ("KnockWallModel", "tape", "[I", true)
  | 1 => ("KnockWallModel", "taped", "I", false)
  | 2 => ("KnockWallModel", "fault", "I", false)
  | 3 => ("KnockWallModel", "broken", "I", false)
  | 4 => ("KnockWallModel", "brokenAt", "I", false)
  | 5 => ("KnockWallModel", "spot", "I", false)
  | 6 => ("KnockWallModel", "here", "I", false)
  | 7 => ("KnockWallModel", "token", "I", false)
  | 8 => ("KnockWallModel", "value", "I", false)
  | 9 => ("KnockWallModel", "cuts", "[I", true)
  | 10 => ("KnockWallModel", "letters", "[I", true)
  | 11 => ("KnockWallModel", "plain", "[I", true)
  | 12 => ("KnockWallModel", "rules", "[I", true)
  | 13 => ("KnockWallModel", "words", "[I", true)
  | 14 => ("KnockWallModel", "shorts", "[I", true)
  | 15 => ("KnockWallModel", "guards", "[I", true)
  | 16 => ("KnockWallModel", "readRules", "[I", true)
  | 17 => ("KnockWallModel", "readTable", "[I", true)
  | 18 => ("KnockWallModel", "readWords", "[I", true)
  | 19 => ("KnockWallModel", "readShorts", "[I", true)
  | 20 => ("KnockWallModel", "readGuards", "[I", true)
  | 21 => ("KnockWallModel", "toldOnes", "I", false)
  | 22 => ("KnockWallModel", "state", "[I", true)
  | 23 => ("KnockWallModel", "isAwake", "Z", false)
  | 24 => ("KnockWallModel", "sums", "[I", true)
  | 25 => ("KnockWallModel", "tongue", "[I", true)
  | 26 => ("KnockWallModel", "bestTable", "[I", true)
  | 27 => ("KnockWallModel", "may", "[I", true)
  | 28 => ("KnockWallModel", "mouth", "[J", true)
  | 29 => ("KnockWallModel", "mouthThen", "[J", true)
  | 30 => ("KnockWallModel", "isKept", "[Z", true)
  | 31 => ("KnockWallModel", "lanes", "[I", true)
  | 32 => ("KnockWallModel", "lengths", "[I", true)
  | 33 => ("KnockWallModel", "cells", "[I", true)
  | _ => ("KnockWallModel", "torn", "I", false)
def tyX12 : Nat → FieldType := fun k => match k with
  | 0 => .array .int
  | 1 => .int
  | 2 => .int
  | 3 => .int
  | 4 => .int
  | 5 => .int
  | 6 => .int
  | 7 => .int
  | 8 => .int
  | 9 => .array .int
  | 10 => .array .int
  | 11 => .array .int
  | 12 => .array .int
  | 13 => .array .int
  | 14 => .array .int
  | 15 => .array .int
  | 16 => .array .int
  | 17 => .array .int
  | 18 => .array .int
  | 19 => .array .int
  | 20 => .array .int
  | 21 => .int
  | 22 => .array .int
  | 23 => .boolean
  | 24 => .array .int
  | 25 => .array .int
  | 26 => .array .int
  | 27 => .array .int
  | 28 => .array .long
  | 29 => .array .long
  | 30 => .array .boolean
  | 31 => .array .int
  | 32 => .array .int
  | 33 => .array .int
  | _ => .int
abbrev wsX120 : List Cond := u_ws RX12 TX12 35
theorem nmX12 : ∀ a, a < 35 → ∀ b, b < 35 → a ≠ b → (TX12 a).2.1 ≠ (TX12 b).2.1 := by decide +kernel
theorem tyX12_ok : ∀ k, k < 35 → parseFieldDescriptor (TX12 k).2.2.1 = some (tyX12 k) := by decide +kernel
abbrev cX12_init : ByteArray := prog_14_method_1_code
def yX12_init : MethodName := ⟨RX12, "<init>", "()V"⟩
abbrev cX12_in : ByteArray := prog_14_method_3_code
def yX12_in : MethodName := ⟨RX12, "in", "(JJJ)Z"⟩
abbrev cX12_feed : ByteArray := prog_14_method_4_code
def yX12_feed : MethodName := ⟨RX12, "feed", "(J)I"⟩
abbrev cX12_end : ByteArray := prog_14_method_5_code
def yX12_end : MethodName := ⟨RX12, "end", "(I)I"⟩
abbrev cX12_byteAt : ByteArray := prog_14_method_6_code
def yX12_byteAt : MethodName := ⟨RX12, "byteAt", "(I)I"⟩
abbrev cX12_fails : ByteArray := prog_14_method_7_code
def yX12_fails : MethodName := ⟨RX12, "fails", "(I)V"⟩
abbrev cX12_nameHere : ByteArray := prog_14_method_8_code
def yX12_nameHere : MethodName := ⟨RX12, "nameHere", "()I"⟩
abbrev cX12_next : ByteArray := prog_14_method_9_code
def yX12_next : MethodName := ⟨RX12, "next", "()V"⟩
abbrev cX12_number : ByteArray := prog_14_method_10_code
def yX12_number : MethodName := ⟨RX12, "number", "(II)I"⟩
abbrev cX12_takeName : ByteArray := prog_14_method_11_code
def yX12_takeName : MethodName := ⟨RX12, "takeName", "([IIII)I"⟩
abbrev cX12_takeTable : ByteArray := prog_14_method_12_code
def yX12_takeTable : MethodName := ⟨RX12, "takeTable", "()V"⟩
abbrev cX12_readWord : ByteArray := prog_14_method_13_code
def yX12_readWord : MethodName := ⟨RX12, "readWord", "()V"⟩
abbrev cX12_readShort : ByteArray := prog_14_method_14_code
def yX12_readShort : MethodName := ⟨RX12, "readShort", "()V"⟩
abbrev cX12_readGuard : ByteArray := prog_14_method_15_code
def yX12_readGuard : MethodName := ⟨RX12, "readGuard", "()V"⟩
abbrev cX12_readOnce : ByteArray := prog_14_method_16_code
def yX12_readOnce : MethodName := ⟨RX12, "readOnce", "(I)V"⟩
abbrev cX12_readLine : ByteArray := prog_14_method_17_code
def yX12_readLine : MethodName := ⟨RX12, "readLine", "()V"⟩
abbrev cX12_hasRead : ByteArray := prog_14_method_18_code
def yX12_hasRead : MethodName := ⟨RX12, "hasRead", "(I)Z"⟩
abbrev cX12_areRead : ByteArray := prog_14_method_19_code
def yX12_areRead : MethodName := ⟨RX12, "areRead", "()Z"⟩
abbrev cX12_takeAll : ByteArray := prog_14_method_20_code
def yX12_takeAll : MethodName := ⟨RX12, "takeAll", "()V"⟩
abbrev cX12_code : ByteArray := prog_14_method_21_code
def yX12_code : MethodName := ⟨RX12, "code", "()I"⟩
abbrev cX12_fault : ByteArray := prog_14_method_22_code
def yX12_fault : MethodName := ⟨RX12, "fault", "()I"⟩
abbrev cX12_told : ByteArray := prog_14_method_23_code
def yX12_told : MethodName := ⟨RX12, "told", "(I)I"⟩
abbrev cX12_awake : ByteArray := prog_14_method_24_code
def yX12_awake : MethodName := ⟨RX12, "awake", "()V"⟩
abbrev cX12_isPlace : ByteArray := prog_14_method_25_code
def yX12_isPlace : MethodName := ⟨RX12, "isPlace", "(I)Z"⟩
abbrev cX12_table : ByteArray := prog_14_method_26_code
def yX12_table : MethodName := ⟨RX12, "table", "(I)I"⟩
abbrev cX12_placeOf : ByteArray := prog_14_method_27_code
def yX12_placeOf : MethodName := ⟨RX12, "placeOf", "(I)I"⟩
abbrev cX12_place : ByteArray := prog_14_method_28_code
def yX12_place : MethodName := ⟨RX12, "place", "(I)I"⟩
abbrev cX12_knocksAt : ByteArray := prog_14_method_29_code
def yX12_knocksAt : MethodName := ⟨RX12, "knocksAt", "(I)I"⟩
abbrev cX12_knocks : ByteArray := prog_14_method_30_code
def yX12_knocks : MethodName := ⟨RX12, "knocks", "(I)I"⟩
abbrev cX12_isWord : ByteArray := prog_14_method_31_code
def yX12_isWord : MethodName := ⟨RX12, "isWord", "(I)Z"⟩
abbrev cX12_size : ByteArray := prog_14_method_32_code
def yX12_size : MethodName := ⟨RX12, "size", "(I)I"⟩
abbrev cX12_knocksOf : ByteArray := prog_14_method_33_code
def yX12_knocksOf : MethodName := ⟨RX12, "knocksOf", "(I)I"⟩
abbrev cX12_word : ByteArray := prog_14_method_34_code
def yX12_word : MethodName := ⟨RX12, "word", "(II)I"⟩
abbrev cX12_swap : ByteArray := prog_14_method_35_code
def yX12_swap : MethodName := ⟨RX12, "swap", "(II)I"⟩
abbrev cX12_wrongPlace : ByteArray := prog_14_method_36_code
def yX12_wrongPlace : MethodName := ⟨RX12, "wrongPlace", "()I"⟩
abbrev cX12_wrong : ByteArray := prog_14_method_37_code
def yX12_wrong : MethodName := ⟨RX12, "wrong", "()I"⟩
abbrev cX12_shortFor : ByteArray := prog_14_method_38_code
def yX12_shortFor : MethodName := ⟨RX12, "shortFor", "(II)I"⟩
abbrev cX12_takesName : ByteArray := prog_14_method_39_code
def yX12_takesName : MethodName := ⟨RX12, "takesName", "(II)I"⟩
abbrev cX12_layName : ByteArray := prog_14_method_40_code
def yX12_layName : MethodName := ⟨RX12, "layName", "(II)V"⟩
abbrev cX12_takes : ByteArray := prog_14_method_41_code
def yX12_takes : MethodName := ⟨RX12, "takes", "(I)I"⟩
abbrev cX12_layBest : ByteArray := prog_14_method_42_code
def yX12_layBest : MethodName := ⟨RX12, "layBest", "()V"⟩
abbrev cX12_mean : ByteArray := prog_14_method_43_code
def yX12_mean : MethodName := ⟨RX12, "mean", "(I)I"⟩
abbrev cX12_best : ByteArray := prog_14_method_44_code
def yX12_best : MethodName := ⟨RX12, "best", "(I)I"⟩
abbrev cX12_adopt : ByteArray := prog_14_method_45_code
def yX12_adopt : MethodName := ⟨RX12, "adopt", "()I"⟩
abbrev cX12_isCount : ByteArray := prog_14_method_46_code
def yX12_isCount : MethodName := ⟨RX12, "isCount", "(I)Z"⟩
abbrev cX12_hear : ByteArray := prog_14_method_47_code
def yX12_hear : MethodName := ⟨RX12, "hear", "(I)I"⟩
abbrev cX12_hush : ByteArray := prog_14_method_48_code
def yX12_hush : MethodName := ⟨RX12, "hush", "()I"⟩
abbrev cX12_heard : ByteArray := prog_14_method_49_code
def yX12_heard : MethodName := ⟨RX12, "heard", "(I)I"⟩
abbrev cX12_hears : ByteArray := prog_14_method_50_code
def yX12_hears : MethodName := ⟨RX12, "hears", "(II)I"⟩
abbrev cX12_countOf : ByteArray := prog_14_method_51_code
def yX12_countOf : MethodName := ⟨RX12, "countOf", "(II)I"⟩
abbrev cX12_chanceOf : ByteArray := prog_14_method_52_code
def yX12_chanceOf : MethodName := ⟨RX12, "chanceOf", "(I)J"⟩
abbrev cX12_allChances : ByteArray := prog_14_method_53_code
def yX12_allChances : MethodName := ⟨RX12, "allChances", "()J"⟩
abbrev cX12_isHeard : ByteArray := prog_14_method_54_code
def yX12_isHeard : MethodName := ⟨RX12, "isHeard", "()Z"⟩
abbrev cX12_chance : ByteArray := prog_14_method_55_code
def yX12_chance : MethodName := ⟨RX12, "chance", "(II)J"⟩
abbrev cX12_likely : ByteArray := prog_14_method_56_code
def yX12_likely : MethodName := ⟨RX12, "likely", "()I"⟩
abbrev cX12_likeliest : ByteArray := prog_14_method_57_code
def yX12_likeliest : MethodName := ⟨RX12, "likeliest", "()I"⟩
abbrev cX12_lowest : ByteArray := prog_14_method_58_code
def yX12_lowest : MethodName := ⟨RX12, "lowest", "(JJI)J"⟩
abbrev cX12_sure : ByteArray := prog_14_method_59_code
def yX12_sure : MethodName := ⟨RX12, "sure", "(I)J"⟩
abbrev cX12_fits : ByteArray := prog_14_method_60_code
def yX12_fits : MethodName := ⟨RX12, "fits", "()I"⟩
abbrev cX12_chanceBy : ByteArray := prog_14_method_61_code
def yX12_chanceBy : MethodName := ⟨RX12, "chanceBy", "(II)J"⟩
abbrev cX12_isRead : ByteArray := prog_14_method_62_code
def yX12_isRead : MethodName := ⟨RX12, "isRead", "(II)Z"⟩
abbrev cX12_right : ByteArray := prog_14_method_63_code
def yX12_right : MethodName := ⟨RX12, "right", "(III)J"⟩
abbrev cX12_layMouths : ByteArray := prog_14_method_64_code
def yX12_layMouths : MethodName := ⟨RX12, "layMouths", "(II)V"⟩
abbrev cX12_twenties : ByteArray := prog_14_method_65_code
def yX12_twenties : MethodName := ⟨RX12, "twenties", "(I)J"⟩
abbrev cX12_mouths : ByteArray := prog_14_method_66_code
def yX12_mouths : MethodName := ⟨RX12, "mouths", "(IIII)J"⟩
abbrev cX12_becomesBy : ByteArray := prog_14_method_67_code
def yX12_becomesBy : MethodName := ⟨RX12, "becomesBy", "(III)J"⟩
abbrev cX12_letter : ByteArray := prog_14_method_68_code
def yX12_letter : MethodName := ⟨RX12, "letter", "(IIII)J"⟩
abbrev cX12_becomes : ByteArray := prog_14_method_69_code
def yX12_becomes : MethodName := ⟨RX12, "becomes", "(II)I"⟩
abbrev cX12_through : ByteArray := prog_14_method_70_code
def yX12_through : MethodName := ⟨RX12, "through", "(II)J"⟩
abbrev cX12_pipe : ByteArray := prog_14_method_71_code
def yX12_pipe : MethodName := ⟨RX12, "pipe", "(III)J"⟩
abbrev cX12_turns : ByteArray := prog_14_method_72_code
def yX12_turns : MethodName := ⟨RX12, "turns", "(I)I"⟩
abbrev cX12_isStill : ByteArray := prog_14_method_73_code
def yX12_isStill : MethodName := ⟨RX12, "isStill", "(I)Z"⟩
abbrev cX12_still : ByteArray := prog_14_method_74_code
def yX12_still : MethodName := ⟨RX12, "still", "(II)I"⟩
abbrev cX12_begin : ByteArray := prog_14_method_75_code
def yX12_begin : MethodName := ⟨RX12, "begin", "(II)I"⟩
abbrev cX12_nights : ByteArray := prog_14_method_76_code
def yX12_nights : MethodName := ⟨RX12, "nights", "(I)I"⟩
abbrev cX12_longest : ByteArray := prog_14_method_77_code
def yX12_longest : MethodName := ⟨RX12, "longest", "(I)I"⟩
abbrev cX12_lettersOf : ByteArray := prog_14_method_78_code
def yX12_lettersOf : MethodName := ⟨RX12, "lettersOf", "(I)I"⟩
abbrev cX12_allLetters : ByteArray := prog_14_method_79_code
def yX12_allLetters : MethodName := ⟨RX12, "allLetters", "()I"⟩
abbrev cX12_bitsOf : ByteArray := prog_14_method_80_code
def yX12_bitsOf : MethodName := ⟨RX12, "bitsOf", "(I)I"⟩
abbrev cX12_teach : ByteArray := prog_14_method_81_code
def yX12_teach : MethodName := ⟨RX12, "teach", "(I)I"⟩
abbrev cX12_isCell : ByteArray := prog_14_method_82_code
def yX12_isCell : MethodName := ⟨RX12, "isCell", "(I)Z"⟩
abbrev cX12_said : ByteArray := prog_14_method_83_code
def yX12_said : MethodName := ⟨RX12, "said", "(III)I"⟩
abbrev cX12_knows : ByteArray := prog_14_method_84_code
def yX12_knows : MethodName := ⟨RX12, "knows", "(I)I"⟩
abbrev cX12_ask : ByteArray := prog_14_method_85_code
def yX12_ask : MethodName := ⟨RX12, "ask", "(III)I"⟩
abbrev cX12_heardBy : ByteArray := prog_14_method_86_code
def yX12_heardBy : MethodName := ⟨RX12, "heardBy", "(I)I"⟩
abbrev cX12_keep : ByteArray := prog_14_method_87_code
def yX12_keep : MethodName := ⟨RX12, "keep", "(I)I"⟩
abbrev cX12_back : ByteArray := prog_14_method_88_code
def yX12_back : MethodName := ⟨RX12, "back", "(I)I"⟩
abbrev cX12_sheet : ByteArray := prog_14_method_89_code
def yX12_sheet : MethodName := ⟨RX12, "sheet", "(III)I"⟩
abbrev cX12_lay : ByteArray := prog_14_method_90_code
def yX12_lay : MethodName := ⟨RX12, "lay", "(III)I"⟩
abbrev cX12_read : ByteArray := prog_14_method_91_code
def yX12_read : MethodName := ⟨RX12, "read", "(IIII)I"⟩
abbrev cX12_torn : ByteArray := prog_14_method_92_code
def yX12_torn : MethodName := ⟨RX12, "torn", "()I"⟩
abbrev cX12_count : ByteArray := prog_14_method_93_code
def yX12_count : MethodName := ⟨RX12, "count", "(I)I"⟩
def RJx145de : String := "java/io/Serializable"
def TJx145de : u_T := fun k => match k with
  | _ => ("", "", "", false)
def tyJx145de : Nat → FieldType := fun k => match k with
  | _ => .int
abbrev wsJx145de0 : List Cond := u_ws RJx145de TJx145de 0
theorem nmJx145de : ∀ a, a < 0 → ∀ b, b < 0 → a ≠ b → (TJx145de a).2.1 ≠ (TJx145de b).2.1 := by decide +kernel
theorem tyJx145de_ok : ∀ k, k < 0 → parseFieldDescriptor (TJx145de k).2.2.1 = some (tyJx145de k) := by decide +kernel
def RJx9f9b0 : String := "java/lang/CharSequence"
def TJx9f9b0 : u_T := fun k => match k with
  | _ => ("", "", "", false)
def tyJx9f9b0 : Nat → FieldType := fun k => match k with
  | _ => .int
abbrev wsJx9f9b00 : List Cond := u_ws RJx9f9b0 TJx9f9b0 0
theorem nmJx9f9b0 : ∀ a, a < 0 → ∀ b, b < 0 → a ≠ b → (TJx9f9b0 a).2.1 ≠ (TJx9f9b0 b).2.1 := by decide +kernel
theorem tyJx9f9b0_ok : ∀ k, k < 0 → parseFieldDescriptor (TJx9f9b0 k).2.2.1 = some (tyJx9f9b0 k) := by decide +kernel
def RJxb160c : String := "java/lang/Comparable"
def TJxb160c : u_T := fun k => match k with
  | _ => ("", "", "", false)
def tyJxb160c : Nat → FieldType := fun k => match k with
  | _ => .int
abbrev wsJxb160c0 : List Cond := u_ws RJxb160c TJxb160c 0
theorem nmJxb160c : ∀ a, a < 0 → ∀ b, b < 0 → a ≠ b → (TJxb160c a).2.1 ≠ (TJxb160c b).2.1 := by decide +kernel
theorem tyJxb160c_ok : ∀ k, k < 0 → parseFieldDescriptor (TJxb160c k).2.2.1 = some (tyJxb160c k) := by decide +kernel
def RJ6 : String := "java/lang/Integer"
def TJ6 : u_T := fun k => match k with
  | _ => ("", "", "", false)
def tyJ6 : Nat → FieldType := fun k => match k with
  | _ => .int
abbrev wsJ60 : List Cond := u_ws RJ6 TJ6 0
theorem nmJ6 : ∀ a, a < 0 → ∀ b, b < 0 → a ≠ b → (TJ6 a).2.1 ≠ (TJ6 b).2.1 := by decide +kernel
theorem tyJ6_ok : ∀ k, k < 0 → parseFieldDescriptor (TJ6 k).2.2.1 = some (tyJ6 k) := by decide +kernel
abbrev cJ6_bitCount_0f7a4 : ByteArray := prog_15_method_49_code
def yJ6_bitCount_0f7a4 : MethodName := ⟨RJ6, "bitCount", "(I)I"⟩
def RJ9 : String := "java/lang/Math"
def TJ9 : u_T := fun k => match k with
  | _ => ("", "", "", false)
def tyJ9 : Nat → FieldType := fun k => match k with
  | _ => .int
abbrev wsJ90 : List Cond := u_ws RJ9 TJ9 0
theorem nmJ9 : ∀ a, a < 0 → ∀ b, b < 0 → a ≠ b → (TJ9 a).2.1 ≠ (TJ9 b).2.1 := by decide +kernel
theorem tyJ9_ok : ∀ k, k < 0 → parseFieldDescriptor (TJ9 k).2.2.1 = some (tyJ9 k) := by decide +kernel
abbrev cJ9_max_7cf53 : ByteArray := prog_16_method_65_code
def yJ9_max_7cf53 : MethodName := ⟨RJ9, "max", "(II)I"⟩
abbrev cJ9_min_7cf53 : ByteArray := prog_16_method_69_code
def yJ9_min_7cf53 : MethodName := ⟨RJ9, "min", "(II)I"⟩
abbrev cJ9_min_f86c9 : ByteArray := prog_16_method_70_code
def yJ9_min_f86c9 : MethodName := ⟨RJ9, "min", "(JJ)J"⟩
def RJ0 : String := "java/lang/String"
def TJ0 : u_T := fun k => match k with
  | _ => ("", "", "", false)
def tyJ0 : Nat → FieldType := fun k => match k with
  | _ => .int
abbrev wsJ00 : List Cond := u_ws RJ0 TJ0 0
theorem nmJ0 : ∀ a, a < 0 → ∀ b, b < 0 → a ≠ b → (TJ0 a).2.1 ≠ (TJ0 b).2.1 := by decide +kernel
theorem tyJ0_ok : ∀ k, k < 0 → parseFieldDescriptor (TJ0 k).2.2.1 = some (tyJ0 k) := by decide +kernel
abbrev cJ0_length_8abf5 : ByteArray := prog_17_method_54_code
def yJ0_length_8abf5 : MethodName := ⟨RJ0, "length", "()I"⟩
abbrev cJ0_charAt_5068e : ByteArray := prog_17_method_56_code
def yJ0_charAt_5068e : MethodName := ⟨RJ0, "charAt", "(I)C"⟩
abbrev cJ0_coder_7d493 : ByteArray := prog_17_method_152_code
def yJ0_coder_7d493 : MethodName := ⟨RJ0, "coder", "()B"⟩
abbrev cJ0_isLatin1_aae02 : ByteArray := prog_17_method_154_code
def yJ0_isLatin1_aae02 : MethodName := ⟨RJ0, "isLatin1", "()Z"⟩
abbrev cJ0_checkIndex_df160 : ByteArray := prog_17_method_155_code
def yJ0_checkIndex_df160 : MethodName := ⟨RJ0, "checkIndex", "(II)V"⟩
def RJ1 : String := "java/lang/StringLatin1"
def TJ1 : u_T := fun k => match k with
  | _ => ("", "", "", false)
def tyJ1 : Nat → FieldType := fun k => match k with
  | _ => .int
abbrev wsJ10 : List Cond := u_ws RJ1 TJ1 0
theorem nmJ1 : ∀ a, a < 0 → ∀ b, b < 0 → a ≠ b → (TJ1 a).2.1 ≠ (TJ1 b).2.1 := by decide +kernel
theorem tyJ1_ok : ∀ k, k < 0 → parseFieldDescriptor (TJ1 k).2.2.1 = some (tyJ1 k) := by decide +kernel
abbrev cJ1_charAt_3b067 : ByteArray := prog_18_method_2_code
def yJ1_charAt_3b067 : MethodName := ⟨RJ1, "charAt", "([BI)C"⟩
def RJ2 : String := "java/lang/StringUTF16"
def TJ2 : u_T := fun k => match k with
  | _ => ("", "", "", false)
def tyJ2 : Nat → FieldType := fun k => match k with
  | _ => .int
abbrev wsJ20 : List Cond := u_ws RJ2 TJ2 0
theorem nmJ2 : ∀ a, a < 0 → ∀ b, b < 0 → a ≠ b → (TJ2 a).2.1 ≠ (TJ2 b).2.1 := by decide +kernel
theorem tyJ2_ok : ∀ k, k < 0 → parseFieldDescriptor (TJ2 k).2.2.1 = some (tyJ2 k) := by decide +kernel
abbrev cJ2_getChar_3b067 : ByteArray := prog_19_method_5_code
def yJ2_getChar_3b067 : MethodName := ⟨RJ2, "getChar", "([BI)C"⟩
abbrev cJ2_length_9d52b : ByteArray := prog_19_method_6_code
def yJ2_length_9d52b : MethodName := ⟨RJ2, "length", "([B)I"⟩
abbrev cJ2_charAt_3b067 : ByteArray := prog_19_method_83_code
def yJ2_charAt_3b067 : MethodName := ⟨RJ2, "charAt", "([BI)C"⟩
abbrev cJ2_checkIndex_2214a : ByteArray := prog_19_method_91_code
def yJ2_checkIndex_2214a : MethodName := ⟨RJ2, "checkIndex", "(I[B)V"⟩
def RJ10 : String := "java/lang/System"
def TJ10 : u_T := fun k => match k with
  | _ => ("", "", "", false)
def tyJ10 : Nat → FieldType := fun k => match k with
  | _ => .int
abbrev wsJ100 : List Cond := u_ws RJ10 TJ10 0
theorem nmJ10 : ∀ a, a < 0 → ∀ b, b < 0 → a ≠ b → (TJ10 a).2.1 ≠ (TJ10 b).2.1 := by decide +kernel
theorem tyJ10_ok : ∀ k, k < 0 → parseFieldDescriptor (TJ10 k).2.2.1 = some (tyJ10 k) := by decide +kernel
def RJxfd54e : String := "java/lang/constant/Constable"
def TJxfd54e : u_T := fun k => match k with
  | _ => ("", "", "", false)
def tyJxfd54e : Nat → FieldType := fun k => match k with
  | _ => .int
abbrev wsJxfd54e0 : List Cond := u_ws RJxfd54e TJxfd54e 0
theorem nmJxfd54e : ∀ a, a < 0 → ∀ b, b < 0 → a ≠ b → (TJxfd54e a).2.1 ≠ (TJxfd54e b).2.1 := by decide +kernel
theorem tyJxfd54e_ok : ∀ k, k < 0 → parseFieldDescriptor (TJxfd54e k).2.2.1 = some (tyJxfd54e k) := by decide +kernel
def RJx3cf43 : String := "java/lang/constant/ConstantDesc"
def TJx3cf43 : u_T := fun k => match k with
  | _ => ("", "", "", false)
def tyJx3cf43 : Nat → FieldType := fun k => match k with
  | _ => .int
abbrev wsJx3cf430 : List Cond := u_ws RJx3cf43 TJx3cf43 0
theorem nmJx3cf43 : ∀ a, a < 0 → ∀ b, b < 0 → a ≠ b → (TJx3cf43 a).2.1 ≠ (TJx3cf43 b).2.1 := by decide +kernel
theorem tyJx3cf43_ok : ∀ k, k < 0 → parseFieldDescriptor (TJx3cf43 k).2.2.1 = some (tyJx3cf43 k) := by decide +kernel
def RJ7 : String := "java/util/Arrays"
def TJ7 : u_T := fun k => match k with
  | _ => ("", "", "", false)
def tyJ7 : Nat → FieldType := fun k => match k with
  | _ => .int
abbrev wsJ70 : List Cond := u_ws RJ7 TJ7 0
theorem nmJ7 : ∀ a, a < 0 → ∀ b, b < 0 → a ≠ b → (TJ7 a).2.1 ≠ (TJ7 b).2.1 := by decide +kernel
theorem tyJ7_ok : ∀ k, k < 0 → parseFieldDescriptor (TJ7 k).2.2.1 = some (tyJ7 k) := by decide +kernel
abbrev cJ7_fill_d0a16 : ByteArray := prog_21_method_101_code
def yJ7_fill_d0a16 : MethodName := ⟨RJ7, "fill", "([JJ)V"⟩
abbrev cJ7_fill_53178 : ByteArray := prog_21_method_103_code
def yJ7_fill_53178 : MethodName := ⟨RJ7, "fill", "([II)V"⟩
abbrev cJ7_fill_031fb : ByteArray := prog_21_method_109_code
def yJ7_fill_031fb : MethodName := ⟨RJ7, "fill", "([BB)V"⟩
def RJ3 : String := "jdk/internal/util/Preconditions"
def TJ3 : u_T := fun k => match k with
  | _ => ("", "", "", false)
def tyJ3 : Nat → FieldType := fun k => match k with
  | _ => .int
abbrev wsJ30 : List Cond := u_ws RJ3 TJ3 0
theorem nmJ3 : ∀ a, a < 0 → ∀ b, b < 0 → a ≠ b → (TJ3 a).2.1 ≠ (TJ3 b).2.1 := by decide +kernel
theorem tyJ3_ok : ∀ k, k < 0 → parseFieldDescriptor (TJ3 k).2.2.1 = some (tyJ3 k) := by decide +kernel
abbrev cJ3_checkIndex_8e157 : ByteArray := prog_22_method_11_code
def yJ3_checkIndex_8e157 : MethodName := ⟨RJ3, "checkIndex", "(IILjava/util/function/BiFunction;)I"⟩
def RL : String := "KnockWallLaw"
abbrev cL_law : ByteArray := code
def yL_law : MethodName := ⟨RL, "law", "([I)Z"⟩
def wsL_law_r1 : List Cond := [Cond.classLink RL 7 RX11, Cond.instantiable RX11 14, Cond.initialized RX11, Cond.classLink RL 10 RX12, Cond.instantiable RX12 35, Cond.initialized RX12, Cond.constantLong RL 13 (4294967295), Cond.methodLink RL 9 yX11_init, Cond.instanceMethod yX11_init, Cond.code yX11_init cX11_init 2 none, Cond.methodLink RX11 1 objectInit, Cond.instanceMethod objectInit, Cond.code objectInit ⟨#[0xb1]⟩ 1 none, Cond.classLink RX11 7 RX9, Cond.instantiable RX9 6, Cond.initialized RX9, Cond.fieldLink RX11 10 "KnockWall" "tape" "LKnockWall$Tape;", Cond.classLink RX11 16 RX6, Cond.instantiable RX6 2, Cond.initialized RX6, Cond.fieldLink RX11 19 "KnockWall" "reader" "LKnockWall$Reader;", Cond.classLink RX11 23 RX2, Cond.instantiable RX2 6, Cond.initialized RX2]
def wsL_law_r2 : List Cond := [Cond.fieldLink RX11 26 "KnockWall" "now" "LKnockWall$Image;", Cond.fieldLink RX11 30 "KnockWall" "images" "[LKnockWall$Image;", Cond.classLink RX11 34 RX8, Cond.fieldLink RX11 36 "KnockWall" "sheets" "[LKnockWall$Sheet;", Cond.classLink RX11 40 RX7, Cond.instantiable RX7 7, Cond.initialized RX7, Cond.fieldLink RX11 43 "KnockWall" "saying" "LKnockWall$Saying;", Cond.classLink RX11 47 RX10, Cond.instantiable RX10 3, Cond.initialized RX10, Cond.fieldLink RX11 50 "KnockWall" "tongue" "LKnockWall$Tongue;", Cond.classLink RX11 54 RX1, Cond.instantiable RX1 5, Cond.initialized RX1, Cond.fieldLink RX11 57 "KnockWall" "hearing" "LKnockWall$Hearing;", Cond.classLink RX11 61 RX3, Cond.instantiable RX3 2, Cond.initialized RX3, Cond.fieldLink RX11 64 "KnockWall" "mouth" "LKnockWall$Mouths;", Cond.arrayClass .int, Cond.fieldLink RX11 68 "KnockWall" "wordKnocks" "[I", Cond.classLink RX11 72 RX0, Cond.instantiable RX0 15]
def wsL_law_r3 : List Cond := [Cond.initialized RX0, Cond.fieldLink RX11 75 "KnockWall" "plan" "LKnockWall$Code;", Cond.fieldLink RX11 79 "KnockWall" "spare" "LKnockWall$Code;", Cond.instantiable RX8 3, Cond.initialized RX8, Cond.fieldLink RX11 86 "KnockWall$Code" "letters" "[B", Cond.instanceMethod yX9_init, Cond.code yX9_init cX9_init 1 none, Cond.methodLink RX9 3 objectInit, Cond.arrayClass .byte, Cond.fieldLink RX9 9 "KnockWall$Tape" "bytes" "[B", Cond.instanceMethod yX6_init, Cond.code yX6_init cX6_init 1 none, Cond.methodLink RX6 3 objectInit, Cond.instanceMethod yX2_init, Cond.code yX2_init cX2_init 1 none, Cond.methodLink RX2 3 objectInit, Cond.fieldLink RX2 9 "KnockWall$Image" "letters" "[B", Cond.fieldLink RX2 15 "KnockWall$Image" "places" "[B", Cond.fieldLink RX2 18 "KnockWall$Image" "heardCounts" "[I", Cond.fieldLink RX2 22 "KnockWall$Image" "knowers" "[I", Cond.instanceMethod yX7_init, Cond.code yX7_init cX7_init 1 none, Cond.methodLink RX7 1 objectInit]
def wsL_law_r4 : List Cond := [Cond.instanceMethod yX10_init, Cond.code yX10_init cX10_init 1 none, Cond.methodLink RX10 3 objectInit, Cond.fieldLink RX10 9 "KnockWall$Tongue" "often" "[I", Cond.fieldLink RX10 15 "KnockWall$Tongue" "sorted" "[B", Cond.fieldLink RX10 19 "KnockWall$Tongue" "ideal" "[B", Cond.instanceMethod yX1_init, Cond.code yX1_init cX1_init 1 none, Cond.methodLink RX1 3 objectInit, Cond.arrayClass .long, Cond.fieldLink RX1 9 "KnockWall$Hearing" "chances" "[J", Cond.classLink RX1 15 "[[J", Cond.fieldLink RX1 17 "KnockWall$Hearing" "depths" "[[J", Cond.classLink RX1 20 "[[I", Cond.fieldLink RX1 22 "KnockWall$Hearing" "knocked" "[[I", Cond.instanceMethod yX3_init, Cond.code yX3_init cX3_init 1 none, Cond.methodLink RX3 3 objectInit, Cond.fieldLink RX3 9 "KnockWall$Mouths" "ways" "[J", Cond.fieldLink RX3 15 "KnockWall$Mouths" "next" "[J", Cond.instanceMethod yX0_init, Cond.code yX0_init cX0_init 1 none, Cond.methodLink RX0 3 objectInit, Cond.fieldLink RX0 9 "KnockWall$Code" "letters" "[B"]
def wsL_law_r5 : List Cond := [Cond.classLink RX0 15 RX4, Cond.instantiable RX4 6, Cond.initialized RX4, Cond.fieldLink RX0 20 "KnockWall$Code" "words" "LKnockWall$Names;", Cond.fieldLink RX0 24 "KnockWall$Code" "weights" "[I", Cond.fieldLink RX0 28 "KnockWall$Code" "shorts" "LKnockWall$Names;", Cond.fieldLink RX0 31 "KnockWall$Code" "longs" "LKnockWall$Names;", Cond.classLink RX0 34 RX5, Cond.instantiable RX5 1, Cond.initialized RX5, Cond.fieldLink RX0 37 "KnockWall$Code" "night" "LKnockWall$Night;", Cond.methodLink RX0 17 yX4_init, Cond.instanceMethod yX4_init, Cond.code yX4_init cX4_init 3 none, Cond.methodLink RX4 1 objectInit, Cond.fieldLink RX4 7 "KnockWall$Names" "most" "I", Cond.fieldLink RX4 13 "KnockWall$Names" "width" "I", Cond.fieldLink RX4 16 "KnockWall$Names" "letters" "[B", Cond.fieldLink RX4 20 "KnockWall$Names" "lengths" "[I", Cond.fieldLink RX4 24 "KnockWall$Names" "masks" "[I", Cond.instanceMethod yX5_init, Cond.code yX5_init cX5_init 1 none, Cond.methodLink RX5 3 objectInit, Cond.fieldLink RX5 9 "KnockWall$Night" "watched" "[B"]
def wsL_law_r6 : List Cond := [Cond.instanceMethod yX8_init, Cond.code yX8_init cX8_init 1 none, Cond.methodLink RX8 3 objectInit, Cond.fieldLink RX8 9 "KnockWall$Sheet" "cells" "[I", Cond.fieldLink RX8 15 "KnockWall$Sheet" "lane" "I", Cond.methodLink RX11 83 yX0_clear, Cond.instanceMethod yX0_clear, Cond.selects RX0 yX0_clear yX0_clear, Cond.code yX0_clear cX0_clear 2 none, Cond.fieldLink RX0 41 "KnockWall$Names" "size" "I", Cond.fieldLink RX0 45 "KnockWall$Code" "guards" "I", Cond.fieldLink RX0 51 "KnockWall$Code" "less" "I", Cond.fieldLink RX0 54 "KnockWall$Code" "more" "I", Cond.fieldLink RX0 57 "KnockWall$Code" "knock" "I", Cond.fieldLink RX0 60 "KnockWall$Code" "pause" "I", Cond.fieldLink RX0 63 "KnockWall$Code" "gap" "I", Cond.fieldLink RX0 66 "KnockWall$Code" "tableTold" "Z", Cond.fieldLink RX0 70 "KnockWall$Code" "slipTold" "Z", Cond.fieldLink RX0 73 "KnockWall$Code" "timeTold" "Z", Cond.methodLink RX0 48 yX5_clear, Cond.instanceMethod yX5_clear, Cond.selects RX5 yX5_clear yX5_clear, Cond.code yX5_clear cX5_clear 1 none, Cond.methodLink RX5 15 yJ7_fill_031fb]
def wsL_law_r7 : List Cond := [Cond.static yJ7_fill_031fb, Cond.initialized RJ7, Cond.code yJ7_fill_031fb cJ7_fill_031fb 4 none, Cond.methodLink RX11 90 yX2_startWith, Cond.instanceMethod yX2_startWith, Cond.selects RX2 yX2_startWith yX2_startWith, Cond.code yX2_startWith cX2_startWith 3 none, Cond.fieldLink RX2 35 "KnockWall$Image" "heardSize" "I", Cond.methodLink RX2 25 yJ7_fill_031fb, Cond.methodLink RX2 31 yX2_put, Cond.instanceMethod yX2_put, Cond.selects RX2 yX2_put yX2_put, Cond.code yX2_put cX2_put 3 none, Cond.static yX11_isPlace, Cond.code yX11_isPlace cX11_isPlace 1 (some .boolean), Cond.methodLink RX2 46 yX9_isLetter, Cond.static yX9_isLetter, Cond.code yX9_isLetter cX9_isLetter 1 (some .boolean), Cond.methodLink RX2 39 yJ7_fill_53178, Cond.static yJ7_fill_53178, Cond.code yJ7_fill_53178 cJ7_fill_53178 4 none, Cond.methodLink RL 12 yX12_init, Cond.instanceMethod yX12_init, Cond.code yX12_init cX12_init 1 none]
def wsL_law_r8 : List Cond := [Cond.methodLink RX12 1 objectInit, Cond.fieldLink RX12 7 "KnockWallModel" "tape" "[I", Cond.fieldLink RX12 13 "KnockWallModel" "cuts" "[I", Cond.fieldLink RX12 16 "KnockWallModel" "letters" "[I", Cond.fieldLink RX12 19 "KnockWallModel" "plain" "[I", Cond.fieldLink RX12 22 "KnockWallModel" "rules" "[I", Cond.fieldLink RX12 25 "KnockWallModel" "words" "[I", Cond.fieldLink RX12 28 "KnockWallModel" "shorts" "[I", Cond.fieldLink RX12 31 "KnockWallModel" "guards" "[I", Cond.fieldLink RX12 34 "KnockWallModel" "readRules" "[I", Cond.fieldLink RX12 37 "KnockWallModel" "readTable" "[I", Cond.fieldLink RX12 40 "KnockWallModel" "readWords" "[I", Cond.fieldLink RX12 43 "KnockWallModel" "readShorts" "[I", Cond.fieldLink RX12 46 "KnockWallModel" "readGuards" "[I", Cond.fieldLink RX12 49 "KnockWallModel" "state" "[I", Cond.fieldLink RX12 52 "KnockWallModel" "sums" "[I", Cond.fieldLink RX12 55 "KnockWallModel" "tongue" "[I", Cond.fieldLink RX12 58 "KnockWallModel" "bestTable" "[I", Cond.fieldLink RX12 61 "KnockWallModel" "may" "[I", Cond.fieldLink RX12 64 "KnockWallModel" "mouth" "[J", Cond.fieldLink RX12 68 "KnockWallModel" "mouthThen" "[J", Cond.arrayClass .boolean, Cond.fieldLink RX12 71 "KnockWallModel" "isKept" "[Z", Cond.fieldLink RX12 75 "KnockWallModel" "lanes" "[I"]
def wsL_law_r9 : List Cond := [Cond.fieldLink RX12 78 "KnockWallModel" "lengths" "[I", Cond.fieldLink RX12 81 "KnockWallModel" "cells" "[I", Cond.methodLink RL 15 yX11_feed, Cond.instanceMethod yX11_feed, Cond.selects RX11 yX11_feed yX11_feed, Cond.code yX11_feed cX11_feed 3 (some .int), Cond.fieldLink RX11 98 "KnockWall$Tape" "size" "I", Cond.methodLink RX11 94 yX9_append, Cond.instanceMethod yX9_append, Cond.selects RX9 yX9_append yX9_append, Cond.code yX9_append cX9_append 4 (some .boolean), Cond.fieldLink RX9 15 "KnockWall$Tape" "size" "I", Cond.methodLink RL 19 yX12_feed, Cond.instanceMethod yX12_feed, Cond.selects RX12 yX12_feed yX12_feed, Cond.code yX12_feed cX12_feed 4 (some .int), Cond.fieldLink RX12 84 "KnockWallModel" "taped" "I", Cond.methodLink RL 20 yX11_end, Cond.instanceMethod yX11_end, Cond.selects RX11 yX11_end yX11_end, Cond.code yX11_end cX11_end 3 (some .int), Cond.methodLink RL 24 yX12_end, Cond.instanceMethod yX12_end, Cond.selects RX12 yX12_end yX12_end]
def wsL_law_r10 : List Cond := [Cond.code yX12_end cX12_end 3 (some .int), Cond.methodLink RX12 88 yX12_in, Cond.static yX12_in, Cond.code yX12_in cX12_in 6 (some .boolean), Cond.methodLink RL 25 yX11_code, Cond.instanceMethod yX11_code, Cond.selects RX11 yX11_code yX11_code, Cond.code yX11_code cX11_code 4 (some .int), Cond.fieldLink RX11 106 "KnockWall$Reader" "kind" "I", Cond.fieldLink RX11 109 "KnockWall" "latestFault" "I", Cond.fieldLink RX11 112 "KnockWall$Reader" "where" "I", Cond.fieldLink RX11 115 "KnockWall$Image" "kept" "Z", Cond.methodLink RX11 102 yX6_readLines, Cond.instanceMethod yX6_readLines, Cond.selects RX6 yX6_readLines yX6_readLines, Cond.code yX6_readLines cX6_readLines 4 (some .int), Cond.fieldLink RX6 9 "KnockWall$Reader" "kind" "I", Cond.fieldLink RX6 15 "KnockWall$Reader" "where" "I", Cond.fieldLink RX6 18 "KnockWall$Tape" "at" "I", Cond.fieldLink RX6 26 "KnockWall$Tape" "token" "I", Cond.fieldLink RX6 39 "KnockWall$Tape" "size" "I", Cond.methodLink RX6 23 yX9_nextToken, Cond.instanceMethod yX9_nextToken, Cond.selects RX9 yX9_nextToken yX9_nextToken]
def wsL_law_r11 : List Cond := [Cond.code yX9_nextToken cX9_nextToken 1 none, Cond.fieldLink RX9 19 "KnockWall$Tape" "at" "I", Cond.fieldLink RX9 22 "KnockWall$Tape" "from" "I", Cond.fieldLink RX9 25 "KnockWall$Tape" "token" "I", Cond.methodLink RX9 28 yX9_isLetter, Cond.methodLink RX9 32 yX9_nextNumber, Cond.instanceMethod yX9_nextNumber, Cond.selects RX9 yX9_nextNumber yX9_nextNumber, Cond.code yX9_nextNumber cX9_nextNumber 1 none, Cond.fieldLink RX9 35 "KnockWall$Tape" "value" "I", Cond.methodLink RX6 29 yX6_takeLine, Cond.instanceMethod yX6_takeLine, Cond.selects RX6 yX6_takeLine yX6_takeLine, Cond.code yX6_takeLine cX6_takeLine 3 (some .boolean), Cond.fieldLink RX6 84 "KnockWall$Tape" "from" "I", Cond.methodLink RX6 46 yX6_isToken, Cond.instanceMethod yX6_isToken, Cond.selects RX6 yX6_isToken yX6_isToken, Cond.code yX6_isToken cX6_isToken 3 (some .boolean), Cond.methodLink RX6 42 yX6_fail, Cond.instanceMethod yX6_fail, Cond.selects RX6 yX6_fail yX6_fail, Cond.code yX6_fail cX6_fail 3 (some .boolean), Cond.methodLink RX6 52 yX9_isName]
def wsL_law_r12 : List Cond := [Cond.instanceMethod yX9_isName, Cond.selects RX9 yX9_isName yX9_isName, Cond.code yX9_isName cX9_isName 3 (some .boolean), Cond.methodLink RX9 38 yJ0_length_8abf5, Cond.instanceMethod yJ0_length_8abf5, Cond.selects RJ0 yJ0_length_8abf5 yJ0_length_8abf5, Cond.initialized RJ0, Cond.code yJ0_length_8abf5 cJ0_length_8abf5 1 (some .int), Cond.fieldLink RJ0 9 "java/lang/String" "value" "[B", Cond.methodLink RJ0 335 yJ0_coder_7d493, Cond.instanceMethod yJ0_coder_7d493, Cond.selects RJ0 yJ0_coder_7d493 yJ0_coder_7d493, Cond.code yJ0_coder_7d493 cJ0_coder_7d493 1 (some .byte), Cond.fieldLink RJ0 38 "java/lang/String" "COMPACT_STRINGS" "Z", Cond.fieldLink RJ0 15 "java/lang/String" "coder" "B", Cond.methodLink RX9 44 yJ0_charAt_5068e, Cond.instanceMethod yJ0_charAt_5068e, Cond.selects RJ0 yJ0_charAt_5068e yJ0_charAt_5068e, Cond.code yJ0_charAt_5068e cJ0_charAt_5068e 2 (some .char), Cond.methodLink RJ0 492 yJ0_isLatin1_aae02, Cond.instanceMethod yJ0_isLatin1_aae02, Cond.selects RJ0 yJ0_isLatin1_aae02 yJ0_isLatin1_aae02, Cond.code yJ0_isLatin1_aae02 cJ0_isLatin1_aae02 1 (some .boolean), Cond.methodLink RJ0 495 yJ1_charAt_3b067]
def wsL_law_r13 : List Cond := [Cond.static yJ1_charAt_3b067, Cond.initialized RJ1, Cond.code yJ1_charAt_3b067 cJ1_charAt_3b067 2 (some .char), Cond.methodLink RJ1 9 yJ0_checkIndex_df160, Cond.static yJ0_checkIndex_df160, Cond.code yJ0_checkIndex_df160 cJ0_checkIndex_df160 2 none, Cond.fieldLink RJ0 1053 "jdk/internal/util/Preconditions" "SIOOBE_FORMATTER" "Ljava/util/function/BiFunction;", Cond.methodLink RJ0 1059 yJ3_checkIndex_8e157, Cond.static yJ3_checkIndex_8e157, Cond.initialized RJ3, Cond.code yJ3_checkIndex_8e157 cJ3_checkIndex_8e157 3 (some .int), Cond.methodLink RJ0 498 yJ2_charAt_3b067, Cond.static yJ2_charAt_3b067, Cond.initialized RJ2, Cond.code yJ2_charAt_3b067 cJ2_charAt_3b067 2 (some .char), Cond.methodLink RJ2 67 yJ2_checkIndex_2214a, Cond.static yJ2_checkIndex_2214a, Cond.code yJ2_checkIndex_2214a cJ2_checkIndex_2214a 2 none, Cond.methodLink RJ2 48 yJ2_length_9d52b, Cond.static yJ2_length_9d52b, Cond.code yJ2_length_9d52b cJ2_length_9d52b 1 (some .int), Cond.methodLink RJ2 414 yJ0_checkIndex_df160, Cond.methodLink RJ2 71 yJ2_getChar_3b067, Cond.static yJ2_getChar_3b067]
def wsL_law_r14 : List Cond := [Cond.code yJ2_getChar_3b067 cJ2_getChar_3b067 2 (some .char), Cond.fieldLink RJ2 44 "java/lang/StringUTF16" "$assertionsDisabled" "Z", Cond.fieldLink RJ2 59 "java/lang/StringUTF16" "HI_BYTE_SHIFT" "I", Cond.fieldLink RJ2 63 "java/lang/StringUTF16" "LO_BYTE_SHIFT" "I", Cond.methodLink RX6 56 yX6_takeTableLine, Cond.instanceMethod yX6_takeTableLine, Cond.selects RX6 yX6_takeTableLine yX6_takeTableLine, Cond.code yX6_takeTableLine cX6_takeTableLine 3 (some .boolean), Cond.fieldLink RX6 87 "KnockWall$Code" "tableTold" "Z", Cond.methodLink RX6 91 yX6_takeName, Cond.instanceMethod yX6_takeName, Cond.selects RX6 yX6_takeName yX6_takeName, Cond.code yX6_takeName cX6_takeName 5 (some .boolean), Cond.methodLink RX6 95 yX0_takeTable, Cond.instanceMethod yX0_takeTable, Cond.selects RX0 yX0_takeTable yX0_takeTable, Cond.code yX0_takeTable cX0_takeTable 3 (some .boolean), Cond.fieldLink RX0 76 "KnockWall$Tape" "at" "I", Cond.fieldLink RX0 81 "KnockWall$Tape" "from" "I", Cond.fieldLink RX0 84 "KnockWall$Tape" "bytes" "[B", Cond.methodLink RX0 87 yX0_tableLetters, Cond.instanceMethod yX0_tableLetters, Cond.selects RX0 yX0_tableLetters yX0_tableLetters, Cond.code yX0_tableLetters cX0_tableLetters 3 (some .int)]
def wsL_law_r15 : List Cond := [Cond.methodLink RX0 91 yJ6_bitCount_0f7a4, Cond.static yJ6_bitCount_0f7a4, Cond.initialized RJ6, Cond.code yJ6_bitCount_0f7a4 cJ6_bitCount_0f7a4 1 (some .int), Cond.constant RJ6 265 (1431655765), Cond.constant RJ6 266 (858993459), Cond.constant RJ6 267 (252645135), Cond.methodLink RX6 99 yX6_takeSign, Cond.instanceMethod yX6_takeSign, Cond.selects RX6 yX6_takeSign yX6_takeSign, Cond.code yX6_takeSign cX6_takeSign 2 (some .boolean), Cond.methodLink RX6 61 yX6_takeWordLine, Cond.instanceMethod yX6_takeWordLine, Cond.selects RX6 yX6_takeWordLine yX6_takeWordLine, Cond.code yX6_takeWordLine cX6_takeWordLine 4 (some .boolean), Cond.fieldLink RX6 102 "KnockWall$Code" "words" "LKnockWall$Names;", Cond.fieldLink RX6 106 "KnockWall$Names" "size" "I", Cond.fieldLink RX6 116 "KnockWall$Code" "weights" "[I", Cond.fieldLink RX6 120 "KnockWall$Tape" "value" "I", Cond.methodLink RX6 109 yX4_add, Cond.instanceMethod yX4_add, Cond.selects RX4 yX4_add yX4_add, Cond.code yX4_add cX4_add 6 none, Cond.fieldLink RX4 27 "KnockWall$Tape" "at" "I"]
def wsL_law_r16 : List Cond := [Cond.fieldLink RX4 32 "KnockWall$Tape" "from" "I", Cond.fieldLink RX4 35 "KnockWall$Names" "size" "I", Cond.fieldLink RX4 38 "KnockWall$Tape" "bytes" "[B", Cond.methodLink RX6 113 yX6_takeNumber, Cond.instanceMethod yX6_takeNumber, Cond.selects RX6 yX6_takeNumber yX6_takeNumber, Cond.code yX6_takeNumber cX6_takeNumber 4 (some .boolean), Cond.methodLink RX6 66 yX6_takeShortLine, Cond.instanceMethod yX6_takeShortLine, Cond.selects RX6 yX6_takeShortLine yX6_takeShortLine, Cond.code yX6_takeShortLine cX6_takeShortLine 3 (some .boolean), Cond.fieldLink RX6 123 "KnockWall$Code" "shorts" "LKnockWall$Names;", Cond.fieldLink RX6 126 "KnockWall$Code" "longs" "LKnockWall$Names;", Cond.methodLink RX6 71 yX6_takeSlipLine, Cond.instanceMethod yX6_takeSlipLine, Cond.selects RX6 yX6_takeSlipLine yX6_takeSlipLine, Cond.code yX6_takeSlipLine cX6_takeSlipLine 3 (some .boolean), Cond.fieldLink RX6 129 "KnockWall$Code" "slipTold" "Z", Cond.fieldLink RX6 132 "KnockWall$Code" "less" "I", Cond.fieldLink RX6 135 "KnockWall$Code" "more" "I", Cond.methodLink RX6 76 yX6_takeTimeLine, Cond.instanceMethod yX6_takeTimeLine, Cond.selects RX6 yX6_takeTimeLine yX6_takeTimeLine, Cond.code yX6_takeTimeLine cX6_takeTimeLine 3 (some .boolean)]
def wsL_law_r17 : List Cond := [Cond.fieldLink RX6 138 "KnockWall$Code" "timeTold" "Z", Cond.fieldLink RX6 141 "KnockWall$Code" "knock" "I", Cond.fieldLink RX6 144 "KnockWall$Code" "pause" "I", Cond.fieldLink RX6 147 "KnockWall$Code" "gap" "I", Cond.methodLink RX6 81 yX6_takeGuardLine, Cond.instanceMethod yX6_takeGuardLine, Cond.selects RX6 yX6_takeGuardLine yX6_takeGuardLine, Cond.code yX6_takeGuardLine cX6_takeGuardLine 4 (some .boolean), Cond.fieldLink RX6 150 "KnockWall$Code" "guards" "I", Cond.fieldLink RX6 153 "KnockWall$Code" "night" "LKnockWall$Night;", Cond.methodLink RX6 157 yX5_watch, Cond.instanceMethod yX5_watch, Cond.selects RX5 yX5_watch yX5_watch, Cond.code yX5_watch cX5_watch 4 none, Cond.methodLink RX5 21 Lib.Math.max.name, Cond.static Lib.Math.max.name, Cond.initialized "java/lang/Math", Cond.code Lib.Math.max.name Lib.Math.max.code 2 (some .int), Cond.methodLink RX6 33 yX0_hasAllLetters, Cond.instanceMethod yX0_hasAllLetters, Cond.selects RX0 yX0_hasAllLetters yX0_hasAllLetters, Cond.code yX0_hasAllLetters cX0_hasAllLetters 2 (some .boolean), Cond.methodLink RX0 97 yX4_allLetters, Cond.instanceMethod yX4_allLetters]
def wsL_law_r18 : List Cond := [Cond.selects RX4 yX4_allLetters yX4_allLetters, Cond.code yX4_allLetters cX4_allLetters 3 (some .int), Cond.methodLink RL 29 yX12_code, Cond.instanceMethod yX12_code, Cond.selects RX12 yX12_code yX12_code, Cond.code yX12_code cX12_code 3 (some .int), Cond.fieldLink RX12 92 "KnockWallModel" "broken" "I", Cond.fieldLink RX12 104 "KnockWallModel" "spot" "I", Cond.fieldLink RX12 137 "KnockWallModel" "toldOnes" "I", Cond.fieldLink RX12 101 "KnockWallModel" "token" "I", Cond.fieldLink RX12 174 "KnockWallModel" "fault" "I", Cond.fieldLink RX12 98 "KnockWallModel" "brokenAt" "I", Cond.methodLink RX12 126 yX12_next, Cond.instanceMethod yX12_next, Cond.selects RX12 yX12_next yX12_next, Cond.code yX12_next cX12_next 2 none, Cond.fieldLink RX12 95 "KnockWallModel" "here" "I", Cond.fieldLink RX12 111 "KnockWallModel" "value" "I", Cond.constantLong RX12 114 (97), Cond.constantLong RX12 116 (122), Cond.constantLong RX12 118 (48), Cond.constantLong RX12 120 (57), Cond.methodLink RX12 107 yX12_byteAt, Cond.instanceMethod yX12_byteAt]
def wsL_law_r19 : List Cond := [Cond.selects RX12 yX12_byteAt yX12_byteAt, Cond.code yX12_byteAt cX12_byteAt 2 (some .int), Cond.methodLink RX12 122 yX12_fails, Cond.instanceMethod yX12_fails, Cond.selects RX12 yX12_fails yX12_fails, Cond.code yX12_fails cX12_fails 2 none, Cond.methodLink RX12 167 yX12_readLine, Cond.instanceMethod yX12_readLine, Cond.selects RX12 yX12_readLine yX12_readLine, Cond.code yX12_readLine cX12_readLine 2 none, Cond.methodLink RX12 143 yX12_nameHere, Cond.instanceMethod yX12_nameHere, Cond.selects RX12 yX12_nameHere yX12_nameHere, Cond.code yX12_nameHere cX12_nameHere 4 (some .int), Cond.methodLink RX12 147 yX12_readWord, Cond.instanceMethod yX12_readWord, Cond.selects RX12 yX12_readWord yX12_readWord, Cond.code yX12_readWord cX12_readWord 2 none, Cond.methodLink RX12 129 yX12_takeName, Cond.instanceMethod yX12_takeName, Cond.selects RX12 yX12_takeName yX12_takeName, Cond.code yX12_takeName cX12_takeName 7 (some .int), Cond.methodLink RX12 133 yX12_number, Cond.instanceMethod yX12_number]
def wsL_law_r20 : List Cond := [Cond.selects RX12 yX12_number yX12_number, Cond.code yX12_number cX12_number 4 (some .int), Cond.methodLink RX12 150 yX12_readShort, Cond.instanceMethod yX12_readShort, Cond.selects RX12 yX12_readShort yX12_readShort, Cond.code yX12_readShort cX12_readShort 2 none, Cond.methodLink RX12 153 yX12_readGuard, Cond.instanceMethod yX12_readGuard, Cond.selects RX12 yX12_readGuard yX12_readGuard, Cond.code yX12_readGuard cX12_readGuard 2 none, Cond.methodLink RX12 156 yX12_readOnce, Cond.instanceMethod yX12_readOnce, Cond.selects RX12 yX12_readOnce yX12_readOnce, Cond.code yX12_readOnce cX12_readOnce 3 none, Cond.methodLink RX12 140 yX12_takeTable, Cond.instanceMethod yX12_takeTable, Cond.selects RX12 yX12_takeTable yX12_takeTable, Cond.code yX12_takeTable cX12_takeTable 3 none, Cond.methodLink RX12 170 yX12_areRead, Cond.instanceMethod yX12_areRead, Cond.selects RX12 yX12_areRead yX12_areRead, Cond.code yX12_areRead cX12_areRead 4 (some .boolean), Cond.methodLink RX12 159 yX12_hasRead, Cond.instanceMethod yX12_hasRead]
def wsL_law_r21 : List Cond := [Cond.selects RX12 yX12_hasRead yX12_hasRead, Cond.code yX12_hasRead cX12_hasRead 4 (some .boolean), Cond.methodLink RX12 177 yX12_takeAll, Cond.instanceMethod yX12_takeAll, Cond.selects RX12 yX12_takeAll yX12_takeAll, Cond.code yX12_takeAll cX12_takeAll 2 none, Cond.fieldLink RX12 163 "KnockWallModel" "isAwake" "Z", Cond.methodLink RL 30 yX11_fault, Cond.instanceMethod yX11_fault, Cond.selects RX11 yX11_fault yX11_fault, Cond.code yX11_fault cX11_fault 1 (some .int), Cond.methodLink RL 33 yX12_fault, Cond.instanceMethod yX12_fault, Cond.selects RX12 yX12_fault yX12_fault, Cond.code yX12_fault cX12_fault 1 (some .int), Cond.methodLink RL 34 yX11_told, Cond.instanceMethod yX11_told, Cond.selects RX11 yX11_told yX11_told, Cond.code yX11_told cX11_told 2 (some .int), Cond.fieldLink RX11 119 "KnockWall$Code" "words" "LKnockWall$Names;", Cond.fieldLink RX11 123 "KnockWall$Names" "size" "I", Cond.fieldLink RX11 126 "KnockWall$Code" "shorts" "LKnockWall$Names;", Cond.fieldLink RX11 129 "KnockWall$Code" "less" "I", Cond.fieldLink RX11 132 "KnockWall$Code" "more" "I"]
def wsL_law_r22 : List Cond := [Cond.fieldLink RX11 135 "KnockWall$Code" "knock" "I", Cond.fieldLink RX11 138 "KnockWall$Code" "pause" "I", Cond.fieldLink RX11 141 "KnockWall$Code" "gap" "I", Cond.fieldLink RX11 144 "KnockWall$Code" "guards" "I", Cond.methodLink RL 37 yX12_told, Cond.instanceMethod yX12_told, Cond.selects RX12 yX12_told yX12_told, Cond.code yX12_told cX12_told 2 (some .int), Cond.methodLink RL 38 yX11_table, Cond.instanceMethod yX11_table, Cond.selects RX11 yX11_table yX11_table, Cond.code yX11_table cX11_table 2 (some .int), Cond.fieldLink RX11 151 "KnockWall$Image" "letters" "[B", Cond.methodLink RX11 147 yX11_isPlace, Cond.methodLink RL 41 yX12_table, Cond.instanceMethod yX12_table, Cond.selects RX12 yX12_table yX12_table, Cond.code yX12_table cX12_table 2 (some .int), Cond.methodLink RX12 182 yX12_awake, Cond.instanceMethod yX12_awake, Cond.selects RX12 yX12_awake yX12_awake, Cond.code yX12_awake cX12_awake 2 none, Cond.methodLink RX12 185 yX12_isPlace, Cond.static yX12_isPlace]
def wsL_law_r23 : List Cond := [Cond.code yX12_isPlace cX12_isPlace 1 (some .boolean), Cond.constantLong RX12 180 (24), Cond.methodLink RL 42 yX11_place, Cond.instanceMethod yX11_place, Cond.selects RX11 yX11_place yX11_place, Cond.code yX11_place cX11_place 3 (some .int), Cond.methodLink RX11 152 yX2_placeOf, Cond.instanceMethod yX2_placeOf, Cond.selects RX2 yX2_placeOf yX2_placeOf, Cond.code yX2_placeOf cX2_placeOf 2 (some .int), Cond.methodLink RL 45 yX12_place, Cond.instanceMethod yX12_place, Cond.selects RX12 yX12_place yX12_place, Cond.code yX12_place cX12_place 2 (some .int), Cond.methodLink RX12 188 yX12_placeOf, Cond.instanceMethod yX12_placeOf, Cond.selects RX12 yX12_placeOf yX12_placeOf, Cond.code yX12_placeOf cX12_placeOf 4 (some .int), Cond.methodLink RL 46 yX11_word, Cond.instanceMethod yX11_word, Cond.selects RX11 yX11_word yX11_word, Cond.code yX11_word cX11_word 4 (some .int), Cond.fieldLink RX11 162 "KnockWall$Code" "weights" "[I", Cond.methodLink RX11 156 yX11_isWord]
def wsL_law_r24 : List Cond := [Cond.instanceMethod yX11_isWord, Cond.selects RX11 yX11_isWord yX11_isWord, Cond.code yX11_isWord cX11_isWord 2 (some .boolean), Cond.methodLink RX11 159 yX4_lengthOf, Cond.instanceMethod yX4_lengthOf, Cond.selects RX4 yX4_lengthOf yX4_lengthOf, Cond.code yX4_lengthOf cX4_lengthOf 2 (some .int), Cond.methodLink RX11 165 yX2_knocksOfName, Cond.instanceMethod yX2_knocksOfName, Cond.selects RX2 yX2_knocksOfName yX2_knocksOfName, Cond.code yX2_knocksOfName cX2_knocksOfName 5 (some .int), Cond.methodLink RX2 61 yX4_lengthOf, Cond.methodLink RX2 66 yX4_letterAt, Cond.instanceMethod yX4_letterAt, Cond.selects RX4 yX4_letterAt yX4_letterAt, Cond.code yX4_letterAt cX4_letterAt 3 (some .int), Cond.methodLink RX4 41 yX4_lengthOf, Cond.methodLink RX2 70 yX2_knocksOf, Cond.instanceMethod yX2_knocksOf, Cond.selects RX2 yX2_knocksOf yX2_knocksOf, Cond.code yX2_knocksOf cX2_knocksOf 3 (some .int), Cond.methodLink RX2 57 yX2_placeOf, Cond.methodLink RX11 169 yX4_letterAt, Cond.methodLink RL 50 yX12_word]
def wsL_law_r25 : List Cond := [Cond.instanceMethod yX12_word, Cond.selects RX12 yX12_word yX12_word, Cond.code yX12_word cX12_word 3 (some .int), Cond.constantLong RX12 206 (10), Cond.methodLink RX12 200 yX12_isWord, Cond.instanceMethod yX12_isWord, Cond.selects RX12 yX12_isWord yX12_isWord, Cond.code yX12_isWord cX12_isWord 2 (some .boolean), Cond.methodLink RX12 194 yX12_size, Cond.instanceMethod yX12_size, Cond.selects RX12 yX12_size yX12_size, Cond.code yX12_size cX12_size 2 (some .int), Cond.methodLink RX12 203 yX12_knocksOf, Cond.instanceMethod yX12_knocksOf, Cond.selects RX12 yX12_knocksOf yX12_knocksOf, Cond.code yX12_knocksOf cX12_knocksOf 4 (some .int), Cond.methodLink RX12 197 yX12_knocks, Cond.instanceMethod yX12_knocks, Cond.selects RX12 yX12_knocks yX12_knocks, Cond.code yX12_knocks cX12_knocks 2 (some .int), Cond.methodLink RX12 191 yX12_knocksAt, Cond.static yX12_knocksAt, Cond.code yX12_knocksAt cX12_knocksAt 1 (some .int), Cond.methodLink RL 51 yX11_swap]
def wsL_law_r26 : List Cond := [Cond.instanceMethod yX11_swap, Cond.selects RX11 yX11_swap yX11_swap, Cond.code yX11_swap cX11_swap 4 (some .int), Cond.methodLink RX11 173 yX2_put, Cond.methodLink RL 54 yX12_swap, Cond.instanceMethod yX12_swap, Cond.selects RX12 yX12_swap yX12_swap, Cond.code yX12_swap cX12_swap 4 (some .int), Cond.methodLink RL 55 yX11_takes, Cond.instanceMethod yX11_takes, Cond.selects RX11 yX11_takes yX11_takes, Cond.code yX11_takes cX11_takes 2 (some .int), Cond.fieldLink RX11 185 "KnockWall$Saying" "letters" "I", Cond.fieldLink RX11 187 "KnockWall$Saying" "names" "I", Cond.fieldLink RX11 190 "KnockWall$Saying" "knocks" "I", Cond.fieldLink RX11 193 "KnockWall$Saying" "time" "I", Cond.fieldLink RX11 196 "KnockWall$Saying" "shortKnocks" "I", Cond.fieldLink RX11 199 "KnockWall$Saying" "shortTime" "I", Cond.fieldLink RX11 202 "KnockWall$Saying" "shortNames" "I", Cond.methodLink RX11 177 yX9_firstWrong, Cond.instanceMethod yX9_firstWrong, Cond.selects RX9 yX9_firstWrong yX9_firstWrong, Cond.code yX9_firstWrong cX9_firstWrong 4 (some .int), Cond.methodLink RX9 48 yX2_placeOf]
def wsL_law_r27 : List Cond := [Cond.methodLink RX11 181 yX7_measure, Cond.instanceMethod yX7_measure, Cond.selects RX7 yX7_measure yX7_measure, Cond.code yX7_measure cX7_measure 6 none, Cond.fieldLink RX7 7 "KnockWall$Saying" "letters" "I", Cond.fieldLink RX7 13 "KnockWall$Saying" "names" "I", Cond.fieldLink RX7 16 "KnockWall$Saying" "knocks" "I", Cond.fieldLink RX7 19 "KnockWall$Saying" "time" "I", Cond.fieldLink RX7 22 "KnockWall$Saying" "shortKnocks" "I", Cond.fieldLink RX7 25 "KnockWall$Saying" "shortTime" "I", Cond.fieldLink RX7 28 "KnockWall$Saying" "shortNames" "I", Cond.fieldLink RX7 31 "KnockWall$Tape" "size" "I", Cond.fieldLink RX7 36 "KnockWall$Tape" "bytes" "[B", Cond.methodLink RX7 40 yX7_addName, Cond.instanceMethod yX7_addName, Cond.selects RX7 yX7_addName yX7_addName, Cond.code yX7_addName cX7_addName 11 none, Cond.fieldLink RX7 50 "KnockWall$Code" "gap" "I", Cond.fieldLink RX7 59 "KnockWall$Code" "longs" "LKnockWall$Names;", Cond.fieldLink RX7 69 "KnockWall$Code" "shorts" "LKnockWall$Names;", Cond.methodLink RX7 44 yX2_knocksOf, Cond.methodLink RX7 55 yX7_timeOf, Cond.static yX7_timeOf, Cond.code yX7_timeOf cX7_timeOf 3 (some .int)]
def wsL_law_r28 : List Cond := [Cond.fieldLink RX7 79 "KnockWall$Code" "knock" "I", Cond.fieldLink RX7 82 "KnockWall$Code" "pause" "I", Cond.methodLink RX7 63 yX4_firstLike, Cond.instanceMethod yX4_firstLike, Cond.selects RX4 yX4_firstLike yX4_firstLike, Cond.code yX4_firstLike cX4_firstLike 5 (some .int), Cond.methodLink RX4 45 yX4_isLike, Cond.instanceMethod yX4_isLike, Cond.selects RX4 yX4_isLike yX4_isLike, Cond.code yX4_isLike cX4_isLike 5 (some .boolean), Cond.methodLink RX7 72 yX2_knocksOfName, Cond.methodLink RX7 76 yX4_lengthOf, Cond.methodLink RL 58 yX12_takes, Cond.instanceMethod yX12_takes, Cond.selects RX12 yX12_takes yX12_takes, Cond.code yX12_takes cX12_takes 4 (some .int), Cond.constantLong RX12 217 (6), Cond.methodLink RX12 208 yX12_wrongPlace, Cond.instanceMethod yX12_wrongPlace, Cond.selects RX12 yX12_wrongPlace yX12_wrongPlace, Cond.code yX12_wrongPlace cX12_wrongPlace 4 (some .int), Cond.methodLink RX12 219 yX12_layName, Cond.instanceMethod yX12_layName, Cond.selects RX12 yX12_layName yX12_layName]
def wsL_law_r29 : List Cond := [Cond.code yX12_layName cX12_layName 11 none, Cond.methodLink RX12 211 yX12_shortFor, Cond.instanceMethod yX12_shortFor, Cond.selects RX12 yX12_shortFor yX12_shortFor, Cond.code yX12_shortFor cX12_shortFor 6 (some .int), Cond.methodLink RX12 214 yX12_takesName, Cond.instanceMethod yX12_takesName, Cond.selects RX12 yX12_takesName yX12_takesName, Cond.code yX12_takesName cX12_takesName 3 (some .int), Cond.methodLink RL 59 yX11_wrong, Cond.instanceMethod yX11_wrong, Cond.selects RX11 yX11_wrong yX11_wrong, Cond.code yX11_wrong cX11_wrong 2 (some .int), Cond.methodLink RL 62 yX12_wrong, Cond.instanceMethod yX12_wrong, Cond.selects RX12 yX12_wrong yX12_wrong, Cond.code yX12_wrong cX12_wrong 1 (some .int), Cond.methodLink RL 63 yX11_mean, Cond.instanceMethod yX11_mean, Cond.selects RX11 yX11_mean yX11_mean, Cond.code yX11_mean cX11_mean 2 (some .int), Cond.fieldLink RX11 213 "KnockWall$Tongue" "ideal" "[B", Cond.methodLink RX11 205 yX10_learn, Cond.instanceMethod yX10_learn]
def wsL_law_r30 : List Cond := [Cond.selects RX10 yX10_learn yX10_learn, Cond.code yX10_learn cX10_learn 5 none, Cond.fieldLink RX10 28 "KnockWall$Code" "words" "LKnockWall$Names;", Cond.fieldLink RX10 34 "KnockWall$Names" "size" "I", Cond.fieldLink RX10 48 "KnockWall$Code" "weights" "[I", Cond.methodLink RX10 22 yJ7_fill_53178, Cond.methodLink RX10 40 yX4_lengthOf, Cond.methodLink RX10 44 yX4_letterAt, Cond.methodLink RX10 51 yX10_addTo, Cond.instanceMethod yX10_addTo, Cond.selects RX10 yX10_addTo yX10_addTo, Cond.code yX10_addTo cX10_addTo 3 none, Cond.methodLink RX10 67 yX9_isLetter, Cond.methodLink RX10 55 yX2_placeOf, Cond.methodLink RX10 60 yX10_sortIn, Cond.instanceMethod yX10_sortIn, Cond.selects RX10 yX10_sortIn yX10_sortIn, Cond.code yX10_sortIn cX10_sortIn 4 none, Cond.methodLink RX10 73 yX10_oftenOf, Cond.instanceMethod yX10_oftenOf, Cond.selects RX10 yX10_oftenOf yX10_oftenOf, Cond.code yX10_oftenOf cX10_oftenOf 2 (some .int), Cond.methodLink RX11 209 yX10_meanBy, Cond.instanceMethod yX10_meanBy]
def wsL_law_r31 : List Cond := [Cond.selects RX10 yX10_meanBy yX10_meanBy, Cond.code yX10_meanBy cX10_meanBy 4 (some .int), Cond.methodLink RL 66 yX12_mean, Cond.instanceMethod yX12_mean, Cond.selects RX12 yX12_mean yX12_mean, Cond.code yX12_mean cX12_mean 4 (some .int), Cond.methodLink RX12 223 yX12_layBest, Cond.instanceMethod yX12_layBest, Cond.selects RX12 yX12_layBest yX12_layBest, Cond.code yX12_layBest cX12_layBest 8 none, Cond.methodLink RL 67 yX11_best, Cond.instanceMethod yX11_best, Cond.selects RX11 yX11_best yX11_best, Cond.code yX11_best cX11_best 2 (some .int), Cond.methodLink RL 70 yX12_best, Cond.instanceMethod yX12_best, Cond.selects RX12 yX12_best yX12_best, Cond.code yX12_best cX12_best 2 (some .int), Cond.methodLink RL 71 yX11_adopt, Cond.instanceMethod yX11_adopt, Cond.selects RX11 yX11_adopt yX11_adopt, Cond.code yX11_adopt cX11_adopt 3 (some .int), Cond.methodLink RL 74 yX12_adopt, Cond.instanceMethod yX12_adopt]
def wsL_law_r32 : List Cond := [Cond.selects RX12 yX12_adopt yX12_adopt, Cond.code yX12_adopt cX12_adopt 3 (some .int), Cond.methodLink RL 75 yX11_hear, Cond.instanceMethod yX11_hear, Cond.selects RX11 yX11_hear yX11_hear, Cond.code yX11_hear cX11_hear 2 (some .int), Cond.fieldLink RX11 219 "KnockWall$Image" "heardSize" "I", Cond.fieldLink RX11 222 "KnockWall$Image" "heardCounts" "[I", Cond.methodLink RX11 216 yX11_isHearable, Cond.static yX11_isHearable, Cond.code yX11_isHearable cX11_isHearable 1 (some .boolean), Cond.methodLink RL 78 yX12_hear, Cond.instanceMethod yX12_hear, Cond.selects RX12 yX12_hear yX12_hear, Cond.code yX12_hear cX12_hear 2 (some .int), Cond.methodLink RX12 226 yX12_isCount, Cond.static yX12_isCount, Cond.code yX12_isCount cX12_isCount 1 (some .boolean), Cond.methodLink RL 79 yX11_hush, Cond.instanceMethod yX11_hush, Cond.selects RX11 yX11_hush yX11_hush, Cond.code yX11_hush cX11_hush 2 (some .int), Cond.methodLink RL 82 yX12_hush, Cond.instanceMethod yX12_hush]
def wsL_law_r33 : List Cond := [Cond.selects RX12 yX12_hush yX12_hush, Cond.code yX12_hush cX12_hush 2 (some .int), Cond.methodLink RL 83 yX11_heard, Cond.instanceMethod yX11_heard, Cond.selects RX11 yX11_heard yX11_heard, Cond.code yX11_heard cX11_heard 2 (some .int), Cond.methodLink RL 86 yX12_heard, Cond.instanceMethod yX12_heard, Cond.selects RX12 yX12_heard yX12_heard, Cond.code yX12_heard cX12_heard 2 (some .int), Cond.methodLink RL 87 yX11_chance, Cond.instanceMethod yX11_chance, Cond.selects RX11 yX11_chance yX11_chance, Cond.code yX11_chance cX11_chance 3 (some .long), Cond.constantLong RX11 228 (-1), Cond.constantLong RX11 234 (-2), Cond.fieldLink RX11 239 "KnockWall$Hearing" "chances" "[J", Cond.fieldLink RX11 243 "KnockWall$Hearing" "total" "J", Cond.methodLink RX11 225 yX11_isHalf, Cond.static yX11_isHalf, Cond.code yX11_isHalf cX11_isHalf 1 (some .boolean), Cond.methodLink RX11 230 yX11_canWeigh, Cond.instanceMethod yX11_canWeigh, Cond.selects RX11 yX11_canWeigh yX11_canWeigh]
def wsL_law_r34 : List Cond := [Cond.code yX11_canWeigh cX11_canWeigh 2 (some .boolean), Cond.methodLink RX11 236 yX1_weigh, Cond.instanceMethod yX1_weigh, Cond.selects RX1 yX1_weigh yX1_weigh, Cond.code yX1_weigh cX1_weigh 4 none, Cond.fieldLink RX1 25 "KnockWall$Hearing" "total" "J", Cond.fieldLink RX1 29 "KnockWall$Code" "words" "LKnockWall$Names;", Cond.fieldLink RX1 35 "KnockWall$Names" "size" "I", Cond.fieldLink RX1 49 "KnockWall$Hearing" "top" "I", Cond.methodLink RX1 41 yX1_chanceOf, Cond.static yX1_chanceOf, Cond.code yX1_chanceOf cX1_chanceOf 6 (some .long), Cond.fieldLink RX1 56 "KnockWall$Image" "heardSize" "I", Cond.fieldLink RX1 61 "KnockWall$Code" "weights" "[I", Cond.fieldLink RX1 65 "KnockWall$Image" "heardCounts" "[I", Cond.methodLink RX1 52 yX4_lengthOf, Cond.methodLink RX1 68 yX2_countOfName, Cond.instanceMethod yX2_countOfName, Cond.selects RX2 yX2_countOfName yX2_countOfName, Cond.code yX2_countOfName cX2_countOfName 5 (some .int), Cond.methodLink RX1 72 yX0_slips, Cond.instanceMethod yX0_slips, Cond.selects RX0 yX0_slips yX0_slips, Cond.code yX0_slips cX0_slips 2 (some .int)]
def wsL_law_r35 : List Cond := [Cond.methodLink RX1 45 yX1_topOf, Cond.static yX1_topOf, Cond.code yX1_topOf cX1_topOf 6 (some .int), Cond.methodLink RL 91 yX12_chance, Cond.instanceMethod yX12_chance, Cond.selects RX12 yX12_chance yX12_chance, Cond.code yX12_chance cX12_chance 3 (some .long), Cond.constantLong RX12 241 (-1), Cond.constantLong RX12 246 (-2), Cond.methodLink RX12 243 yX12_isHeard, Cond.instanceMethod yX12_isHeard, Cond.selects RX12 yX12_isHeard yX12_isHeard, Cond.code yX12_isHeard cX12_isHeard 1 (some .boolean), Cond.constantLong RX12 239 (12), Cond.methodLink RX12 235 yX12_chanceOf, Cond.instanceMethod yX12_chanceOf, Cond.selects RX12 yX12_chanceOf yX12_chanceOf, Cond.code yX12_chanceOf cX12_chanceOf 5 (some .long), Cond.methodLink RX12 229 yX12_countOf, Cond.instanceMethod yX12_countOf, Cond.selects RX12 yX12_countOf yX12_countOf, Cond.code yX12_countOf cX12_countOf 4 (some .int), Cond.methodLink RX12 232 yX12_hears, Cond.instanceMethod yX12_hears]
def wsL_law_r36 : List Cond := [Cond.selects RX12 yX12_hears yX12_hears, Cond.code yX12_hears cX12_hears 3 (some .int), Cond.methodLink RX12 248 yX12_allChances, Cond.instanceMethod yX12_allChances, Cond.selects RX12 yX12_allChances yX12_allChances, Cond.code yX12_allChances cX12_allChances 4 (some .long), Cond.methodLink RL 92 yX11_likeliest, Cond.instanceMethod yX11_likeliest, Cond.selects RX11 yX11_likeliest yX11_likeliest, Cond.code yX11_likeliest cX11_likeliest 1 (some .int), Cond.fieldLink RX11 247 "KnockWall$Hearing" "top" "I", Cond.methodLink RL 95 yX12_likeliest, Cond.instanceMethod yX12_likeliest, Cond.selects RX12 yX12_likeliest yX12_likeliest, Cond.code yX12_likeliest cX12_likeliest 1 (some .int), Cond.methodLink RX12 252 yX12_likely, Cond.instanceMethod yX12_likely, Cond.selects RX12 yX12_likely yX12_likely, Cond.code yX12_likely cX12_likely 7 (some .int), Cond.methodLink RL 96 yX11_sure, Cond.instanceMethod yX11_sure, Cond.selects RX11 yX11_sure yX11_sure, Cond.code yX11_sure cX11_sure 2 (some .long), Cond.constantLong RX11 250 (-4)]
def wsL_law_r37 : List Cond := [Cond.methodLink RX11 252 yX11_lowest, Cond.static yX11_lowest, Cond.code yX11_lowest cX11_lowest 12 (some .long), Cond.methodLink RL 100 yX12_sure, Cond.instanceMethod yX12_sure, Cond.selects RX12 yX12_sure yX12_sure, Cond.code yX12_sure cX12_sure 3 (some .long), Cond.constantLong RX12 255 (-4), Cond.methodLink RX12 257 yX12_lowest, Cond.static yX12_lowest, Cond.code yX12_lowest cX12_lowest 11 (some .long), Cond.methodLink RL 101 yX11_fits, Cond.instanceMethod yX11_fits, Cond.selects RX11 yX11_fits yX11_fits, Cond.code yX11_fits cX11_fits 3 (some .int), Cond.methodLink RL 104 yX12_fits, Cond.instanceMethod yX12_fits, Cond.selects RX12 yX12_fits yX12_fits, Cond.code yX12_fits cX12_fits 3 (some .int), Cond.methodLink RL 105 yX11_right, Cond.instanceMethod yX11_right, Cond.selects RX11 yX11_right yX11_right, Cond.code yX11_right cX11_right 7 (some .long), Cond.constantLong RX11 260 (20)]
def wsL_law_r38 : List Cond := [Cond.methodLink RX11 256 yX1_readRight, Cond.instanceMethod yX1_readRight, Cond.selects RX1 yX1_readRight yX1_readRight, Cond.code yX1_readRight cX1_readRight 8 (some .long), Cond.methodLink RX1 75 yX1_goodWays, Cond.static yX1_goodWays, Cond.code yX1_goodWays cX1_goodWays 10 (some .long), Cond.methodLink RX1 79 yX1_listen, Cond.instanceMethod yX1_listen, Cond.selects RX1 yX1_listen yX1_listen, Cond.code yX1_listen cX1_listen 8 none, Cond.methodLink RX11 262 yX11_power, Cond.static yX11_power, Cond.code yX11_power cX11_power 6 (some .long), Cond.methodLink RL 109 yX12_right, Cond.instanceMethod yX12_right, Cond.selects RX12 yX12_right yX12_right, Cond.code yX12_right cX12_right 13 (some .long), Cond.constantLong RX12 265 (3), Cond.constantLong RX12 267 (20), Cond.methodLink RX12 269 yX12_isRead, Cond.instanceMethod yX12_isRead, Cond.selects RX12 yX12_isRead yX12_isRead, Cond.code yX12_isRead cX12_isRead 9 (some .boolean)]
def wsL_law_r39 : List Cond := [Cond.methodLink RX12 261 yX12_chanceBy, Cond.instanceMethod yX12_chanceBy, Cond.selects RX12 yX12_chanceBy yX12_chanceBy, Cond.code yX12_chanceBy cX12_chanceBy 6 (some .long), Cond.methodLink RL 110 yX11_mouths, Cond.instanceMethod yX11_mouths, Cond.selects RX11 yX11_mouths yX11_mouths, Cond.code yX11_mouths cX11_mouths 5 (some .long), Cond.fieldLink RX11 273 "KnockWall$Mouths" "ways" "[J", Cond.methodLink RX11 266 yX11_isKnockable, Cond.static yX11_isKnockable, Cond.code yX11_isKnockable cX11_isKnockable 1 (some .boolean), Cond.methodLink RX11 269 yX3_pass, Cond.instanceMethod yX3_pass, Cond.selects RX3 yX3_pass yX3_pass, Cond.code yX3_pass cX3_pass 6 none, Cond.methodLink RX3 24 Lib.Math.max.name, Cond.methodLink RX3 36 Lib.Math.min.name, Cond.static Lib.Math.min.name, Cond.code Lib.Math.min.name Lib.Math.min.code 2 (some .int), Cond.methodLink RX3 39 arraycopyName, Cond.native arraycopyName, Cond.static arraycopyName, Cond.initialized "java/lang/System"]
def wsL_law_r40 : List Cond := [Cond.methodLink RX3 18 yJ7_fill_d0a16, Cond.static yJ7_fill_d0a16, Cond.code yJ7_fill_d0a16 cJ7_fill_d0a16 5 none, Cond.methodLink RX3 30 yX0_slips, Cond.methodLink RL 114 yX12_mouths, Cond.instanceMethod yX12_mouths, Cond.selects RX12 yX12_mouths yX12_mouths, Cond.code yX12_mouths cX12_mouths 5 (some .long), Cond.constantLong RX12 273 (5), Cond.methodLink RX12 275 yX12_layMouths, Cond.instanceMethod yX12_layMouths, Cond.selects RX12 yX12_layMouths yX12_layMouths, Cond.code yX12_layMouths cX12_layMouths 7 none, Cond.methodLink RX12 278 yX12_twenties, Cond.static yX12_twenties, Cond.code yX12_twenties cX12_twenties 4 (some .long), Cond.methodLink RL 115 yX11_letter, Cond.instanceMethod yX11_letter, Cond.selects RX11 yX11_letter yX11_letter, Cond.code yX11_letter cX11_letter 9 (some .long), Cond.methodLink RL 118 yX12_letter, Cond.instanceMethod yX12_letter, Cond.selects RX12 yX12_letter yX12_letter, Cond.code yX12_letter cX12_letter 5 (some .long)]
def wsL_law_r41 : List Cond := [Cond.methodLink RX12 281 yX12_becomesBy, Cond.instanceMethod yX12_becomesBy, Cond.selects RX12 yX12_becomesBy yX12_becomesBy, Cond.code yX12_becomesBy cX12_becomesBy 6 (some .long), Cond.methodLink RL 119 yX11_becomes, Cond.instanceMethod yX11_becomes, Cond.selects RX11 yX11_becomes yX11_becomes, Cond.code yX11_becomes cX11_becomes 4 (some .int), Cond.methodLink RX11 276 yX3_mostWays, Cond.instanceMethod yX3_mostWays, Cond.selects RX3 yX3_mostWays yX3_mostWays, Cond.code yX3_mostWays cX3_mostWays 3 (some .int), Cond.methodLink RL 122 yX12_becomes, Cond.instanceMethod yX12_becomes, Cond.selects RX12 yX12_becomes yX12_becomes, Cond.code yX12_becomes cX12_becomes 9 (some .int), Cond.methodLink RL 123 yX11_pipe, Cond.instanceMethod yX11_pipe, Cond.selects RX11 yX11_pipe yX11_pipe, Cond.code yX11_pipe cX11_pipe 4 (some .long), Cond.methodLink RX11 280 yX11_justOne, Cond.static yX11_justOne, Cond.code yX11_justOne cX11_justOne 2 (some .long), Cond.methodLink RL 126 yX12_pipe]
def wsL_law_r42 : List Cond := [Cond.instanceMethod yX12_pipe, Cond.selects RX12 yX12_pipe yX12_pipe, Cond.code yX12_pipe cX12_pipe 4 (some .long), Cond.methodLink RX12 285 yX12_through, Cond.static yX12_through, Cond.code yX12_through cX12_through 5 (some .long), Cond.methodLink RL 127 yX11_turns, Cond.instanceMethod yX11_turns, Cond.selects RX11 yX11_turns yX11_turns, Cond.code yX11_turns cX11_turns 8 (some .int), Cond.methodLink RL 130 yX12_turns, Cond.instanceMethod yX12_turns, Cond.selects RX12 yX12_turns yX12_turns, Cond.code yX12_turns cX12_turns 4 (some .int), Cond.methodLink RL 131 yX11_still, Cond.instanceMethod yX11_still, Cond.selects RX11 yX11_still yX11_still, Cond.code yX11_still cX11_still 4 (some .int), Cond.fieldLink RX11 287 "KnockWall$Code" "night" "LKnockWall$Night;", Cond.fieldLink RX11 291 "KnockWall$Night" "watched" "[B", Cond.methodLink RX11 284 yX11_isMinute, Cond.static yX11_isMinute, Cond.code yX11_isMinute cX11_isMinute 1 (some .boolean), Cond.methodLink RX11 296 yX5_firstFrom]
def wsL_law_r43 : List Cond := [Cond.instanceMethod yX5_firstFrom, Cond.selects RX5 yX5_firstFrom yX5_firstFrom, Cond.code yX5_firstFrom cX5_firstFrom 4 (some .int), Cond.methodLink RL 134 yX12_still, Cond.instanceMethod yX12_still, Cond.selects RX12 yX12_still yX12_still, Cond.code yX12_still cX12_still 4 (some .int), Cond.constantLong RX12 288 (599), Cond.constantLong RX12 290 (2), Cond.methodLink RX12 292 yX12_isStill, Cond.instanceMethod yX12_isStill, Cond.selects RX12 yX12_isStill yX12_isStill, Cond.code yX12_isStill cX12_isStill 4 (some .boolean), Cond.methodLink RL 135 yX11_begin, Cond.instanceMethod yX11_begin, Cond.selects RX11 yX11_begin yX11_begin, Cond.code yX11_begin cX11_begin 4 (some .int), Cond.methodLink RX11 299 yX11_isRowLength, Cond.static yX11_isRowLength, Cond.code yX11_isRowLength cX11_isRowLength 1 (some .boolean), Cond.methodLink RX11 302 yX5_firstRow, Cond.instanceMethod yX5_firstRow, Cond.selects RX5 yX5_firstRow yX5_firstRow, Cond.code yX5_firstRow cX5_firstRow 5 (some .int)]
def wsL_law_r44 : List Cond := [Cond.methodLink RL 138 yX12_begin, Cond.instanceMethod yX12_begin, Cond.selects RX12 yX12_begin yX12_begin, Cond.code yX12_begin cX12_begin 5 (some .int), Cond.constantLong RX12 295 (600), Cond.methodLink RL 139 yX11_nights, Cond.instanceMethod yX11_nights, Cond.selects RX11 yX11_nights yX11_nights, Cond.code yX11_nights cX11_nights 2 (some .int), Cond.methodLink RX11 305 yX5_rowsHeld, Cond.instanceMethod yX5_rowsHeld, Cond.selects RX5 yX5_rowsHeld yX5_rowsHeld, Cond.code yX5_rowsHeld cX5_rowsHeld 5 (some .int), Cond.methodLink RL 142 yX12_nights, Cond.instanceMethod yX12_nights, Cond.selects RX12 yX12_nights yX12_nights, Cond.code yX12_nights cX12_nights 5 (some .int), Cond.methodLink RL 143 yX11_longest, Cond.instanceMethod yX11_longest, Cond.selects RX11 yX11_longest yX11_longest, Cond.code yX11_longest cX11_longest 3 (some .int), Cond.methodLink RX11 308 yX5_longestRow, Cond.instanceMethod yX5_longestRow, Cond.selects RX5 yX5_longestRow yX5_longestRow]
def wsL_law_r45 : List Cond := [Cond.code yX5_longestRow cX5_longestRow 4 (some .int), Cond.methodLink RL 146 yX12_longest, Cond.instanceMethod yX12_longest, Cond.selects RX12 yX12_longest yX12_longest, Cond.code yX12_longest cX12_longest 6 (some .int), Cond.methodLink RL 147 yX11_teach, Cond.instanceMethod yX11_teach, Cond.selects RX11 yX11_teach yX11_teach, Cond.code yX11_teach cX11_teach 5 (some .int), Cond.constantLong RX11 318 (1023), Cond.methodLink RX11 311 yX4_allLetters, Cond.methodLink RX11 314 yX11_leastLesson, Cond.static yX11_leastLesson, Cond.code yX11_leastLesson cX11_leastLesson 11 (some .long), Cond.constantLong RX11 380 (1099511627776), Cond.fieldLink RX11 382 "KnockWall$Names" "masks" "[I", Cond.constantLong RX11 385 (4096), Cond.methodLink RX11 387 Lib.MathLoose.min_long.x, Cond.static Lib.MathLoose.min_long.x, Cond.code Lib.MathLoose.min_long.x Lib.MathLoose.min_long.code 4 (some .long), Cond.methodLink RX11 320 yJ6_bitCount_0f7a4, Cond.methodLink RL 150 yX12_teach, Cond.instanceMethod yX12_teach, Cond.selects RX12 yX12_teach yX12_teach]
def wsL_law_r46 : List Cond := [Cond.code yX12_teach cX12_teach 9 (some .int), Cond.methodLink RX12 300 yX12_allLetters, Cond.instanceMethod yX12_allLetters, Cond.selects RX12 yX12_allLetters yX12_allLetters, Cond.code yX12_allLetters cX12_allLetters 3 (some .int), Cond.methodLink RX12 297 yX12_lettersOf, Cond.instanceMethod yX12_lettersOf, Cond.selects RX12 yX12_lettersOf yX12_lettersOf, Cond.code yX12_lettersOf cX12_lettersOf 4 (some .int), Cond.methodLink RX12 303 yX12_bitsOf, Cond.static yX12_bitsOf, Cond.code yX12_bitsOf cX12_bitsOf 3 (some .int), Cond.methodLink RL 151 yX11_said, Cond.instanceMethod yX11_said, Cond.selects RX11 yX11_said yX11_said, Cond.code yX11_said cX11_said 5 (some .int), Cond.methodLink RX11 328 Lib.Math.min.name, Cond.methodLink RX11 333 Lib.Math.max.name, Cond.fieldLink RX11 336 "KnockWall$Image" "knowers" "[I", Cond.methodLink RX11 325 yX11_isCell, Cond.static yX11_isCell, Cond.code yX11_isCell cX11_isCell 1 (some .boolean), Cond.methodLink RL 155 yX12_said, Cond.instanceMethod yX12_said]
def wsL_law_r47 : List Cond := [Cond.selects RX12 yX12_said yX12_said, Cond.code yX12_said cX12_said 5 (some .int), Cond.methodLink RX12 306 yX12_isCell, Cond.static yX12_isCell, Cond.code yX12_isCell cX12_isCell 1 (some .boolean), Cond.methodLink RL 156 yX11_knows, Cond.instanceMethod yX11_knows, Cond.selects RX11 yX11_knows yX11_knows, Cond.code yX11_knows cX11_knows 2 (some .int), Cond.methodLink RL 159 yX12_knows, Cond.instanceMethod yX12_knows, Cond.selects RX12 yX12_knows yX12_knows, Cond.code yX12_knows cX12_knows 2 (some .int), Cond.methodLink RL 160 yX11_ask, Cond.instanceMethod yX11_ask, Cond.selects RX11 yX11_ask yX11_ask, Cond.code yX11_ask cX11_ask 10 (some .int), Cond.methodLink RL 163 yX12_ask, Cond.instanceMethod yX12_ask, Cond.selects RX12 yX12_ask yX12_ask, Cond.code yX12_ask cX12_ask 8 (some .int), Cond.constantLong RX12 309 (2047), Cond.methodLink RL 164 yX11_heardBy, Cond.instanceMethod yX11_heardBy]
def wsL_law_r48 : List Cond := [Cond.selects RX11 yX11_heardBy yX11_heardBy, Cond.code yX11_heardBy cX11_heardBy 7 (some .int), Cond.methodLink RL 167 yX12_heardBy, Cond.instanceMethod yX12_heardBy, Cond.selects RX12 yX12_heardBy yX12_heardBy, Cond.code yX12_heardBy cX12_heardBy 5 (some .int), Cond.methodLink RL 168 yX11_keep, Cond.instanceMethod yX11_keep, Cond.selects RX11 yX11_keep yX11_keep, Cond.code yX11_keep cX11_keep 3 (some .int), Cond.methodLink RX11 339 yX11_isImage, Cond.static yX11_isImage, Cond.code yX11_isImage cX11_isImage 1 (some .boolean), Cond.methodLink RX11 342 yX2_copyFrom, Cond.instanceMethod yX2_copyFrom, Cond.selects RX2 yX2_copyFrom yX2_copyFrom, Cond.code yX2_copyFrom cX2_copyFrom 2 none, Cond.methodLink RX2 51 arraycopyName, Cond.methodLink RL 171 yX12_keep, Cond.instanceMethod yX12_keep, Cond.selects RX12 yX12_keep yX12_keep, Cond.code yX12_keep cX12_keep 3 (some .int), Cond.methodLink RL 172 yX11_back, Cond.instanceMethod yX11_back]
def wsL_law_r49 : List Cond := [Cond.selects RX11 yX11_back yX11_back, Cond.code yX11_back cX11_back 2 (some .int), Cond.methodLink RL 175 yX12_back, Cond.instanceMethod yX12_back, Cond.selects RX12 yX12_back yX12_back, Cond.code yX12_back cX12_back 3 (some .int), Cond.methodLink RL 176 yX11_sheet, Cond.instanceMethod yX11_sheet, Cond.selects RX11 yX11_sheet yX11_sheet, Cond.code yX11_sheet cX11_sheet 4 (some .int), Cond.methodLink RX11 346 yX11_isSheet, Cond.static yX11_isSheet, Cond.code yX11_isSheet cX11_isSheet 1 (some .boolean), Cond.methodLink RX11 349 yX11_isLane, Cond.static yX11_isLane, Cond.code yX11_isLane cX11_isLane 1 (some .boolean), Cond.methodLink RX11 352 yX8_renew, Cond.instanceMethod yX8_renew, Cond.selects RX8 yX8_renew yX8_renew, Cond.code yX8_renew cX8_renew 3 none, Cond.methodLink RX8 25 Lib.Math.min.name, Cond.methodLink RX8 31 Lib.Math.max.name, Cond.fieldLink RX8 34 "KnockWall$Sheet" "size" "I", Cond.methodLink RX8 19 yJ7_fill_53178]
def wsL_law_r50 : List Cond := [Cond.methodLink RL 179 yX12_sheet, Cond.instanceMethod yX12_sheet, Cond.selects RX12 yX12_sheet yX12_sheet, Cond.code yX12_sheet cX12_sheet 5 (some .int), Cond.methodLink RL 180 yX11_lay, Cond.instanceMethod yX11_lay, Cond.selects RX11 yX11_lay yX11_lay, Cond.code yX11_lay cX11_lay 5 (some .int), Cond.methodLink RX11 356 yX8_faultAt, Cond.instanceMethod yX8_faultAt, Cond.selects RX8 yX8_faultAt yX8_faultAt, Cond.code yX8_faultAt cX8_faultAt 2 (some .int), Cond.methodLink RX11 359 yX8_put, Cond.instanceMethod yX8_put, Cond.selects RX8 yX8_put yX8_put, Cond.code yX8_put cX8_put 3 none, Cond.methodLink RX8 37 yX8_faultAt, Cond.methodLink RL 183 yX12_lay, Cond.instanceMethod yX12_lay, Cond.selects RX12 yX12_lay yX12_lay, Cond.code yX12_lay cX12_lay 4 (some .int), Cond.methodLink RL 184 yX11_read, Cond.instanceMethod yX11_read, Cond.selects RX11 yX11_read yX11_read]
def wsL_law_r51 : List Cond := [Cond.code yX11_read cX11_read 10 (some .int), Cond.fieldLink RX11 367 "KnockWall" "latestTorn" "I", Cond.methodLink RX11 361 yX8_faultOf, Cond.instanceMethod yX8_faultOf, Cond.selects RX8 yX8_faultOf yX8_faultOf, Cond.code yX8_faultOf cX8_faultOf 3 (some .int), Cond.methodLink RX11 364 yX8_cellAt, Cond.instanceMethod yX8_cellAt, Cond.selects RX8 yX8_cellAt yX8_cellAt, Cond.code yX8_cellAt cX8_cellAt 2 (some .int), Cond.methodLink RL 188 yX12_read, Cond.instanceMethod yX12_read, Cond.selects RX12 yX12_read yX12_read, Cond.code yX12_read cX12_read 8 (some .int), Cond.fieldLink RX12 311 "KnockWallModel" "torn" "I", Cond.methodLink RL 189 yX11_torn, Cond.instanceMethod yX11_torn, Cond.selects RX11 yX11_torn yX11_torn, Cond.code yX11_torn cX11_torn 1 (some .int), Cond.methodLink RL 192 yX12_torn, Cond.instanceMethod yX12_torn, Cond.selects RX12 yX12_torn yX12_torn, Cond.code yX12_torn cX12_torn 1 (some .int), Cond.methodLink RL 193 yX11_count]
def wsL_law_r52 : List Cond := [Cond.instanceMethod yX11_count, Cond.selects RX11 yX11_count yX11_count, Cond.code yX11_count cX11_count 2 (some .int), Cond.fieldLink RX11 376 "KnockWall$Sheet" "lane" "I", Cond.fieldLink RX11 379 "KnockWall$Sheet" "size" "I", Cond.methodLink RX11 370 yX5_watchedMinutes, Cond.instanceMethod yX5_watchedMinutes, Cond.selects RX5 yX5_watchedMinutes yX5_watchedMinutes, Cond.code yX5_watchedMinutes cX5_watchedMinutes 3 (some .int), Cond.methodLink RX11 373 yX11_imagesKept, Cond.instanceMethod yX11_imagesKept, Cond.selects RX11 yX11_imagesKept yX11_imagesKept, Cond.code yX11_imagesKept cX11_imagesKept 3 (some .int), Cond.methodLink RL 196 yX12_count, Cond.instanceMethod yX12_count, Cond.selects RX12 yX12_count yX12_count, Cond.code yX12_count cX12_count 4 (some .int)]
def wsL_law : List Cond := (wsL_law_r1 ++ (wsL_law_r2 ++ (wsL_law_r3 ++ (wsL_law_r4 ++ (wsL_law_r5 ++ (wsL_law_r6 ++ (wsL_law_r7 ++ (wsL_law_r8 ++ (wsL_law_r9 ++ (wsL_law_r10 ++ (wsL_law_r11 ++ (wsL_law_r12 ++ (wsL_law_r13 ++ (wsL_law_r14 ++ (wsL_law_r15 ++ (wsL_law_r16 ++ (wsL_law_r17 ++ (wsL_law_r18 ++ (wsL_law_r19 ++ (wsL_law_r20 ++ (wsL_law_r21 ++ (wsL_law_r22 ++ (wsL_law_r23 ++ (wsL_law_r24 ++ (wsL_law_r25 ++ (wsL_law_r26 ++ (wsL_law_r27 ++ (wsL_law_r28 ++ (wsL_law_r29 ++ (wsL_law_r30 ++ (wsL_law_r31 ++ (wsL_law_r32 ++ (wsL_law_r33 ++ (wsL_law_r34 ++ (wsL_law_r35 ++ (wsL_law_r36 ++ (wsL_law_r37 ++ (wsL_law_r38 ++ (wsL_law_r39 ++ (wsL_law_r40 ++ (wsL_law_r41 ++ (wsL_law_r42 ++ (wsL_law_r43 ++ (wsL_law_r44 ++ (wsL_law_r45 ++ (wsL_law_r46 ++ (wsL_law_r47 ++ (wsL_law_r48 ++ (wsL_law_r49 ++ (wsL_law_r50 ++ (wsL_law_r51 ++ wsL_law_r52))))))))))))))))))))))))))))))))))))))))))))))))))) ++ wsX110 ++ wsX120 ++ wsX90 ++ wsX60 ++ wsX20 ++ wsX70 ++ wsX100 ++ wsX10 ++ wsX30 ++ wsX00 ++ wsX80 ++ wsX40 ++ wsX50 ++ ([] : List Cond)
abbrev vwCl : List vw_C := [(RX0, TX0, 15), (RX1, TX1, 5), (RX2, TX2, 6), (RX3, TX3, 2), (RX4, TX4, 6), (RX5, TX5, 1), (RX6, TX6, 2), (RX7, TX7, 7), (RX8, TX8, 3), (RX9, TX9, 6), (RX10, TX10, 3), (RX11, TX11, 14), (RX12, TX12, 35)]
theorem inLA {w : Cond} (h : w ∈ (wsL_law_r1 ++ (wsL_law_r2 ++ (wsL_law_r3 ++ (wsL_law_r4 ++ (wsL_law_r5 ++ (wsL_law_r6 ++ (wsL_law_r7 ++ (wsL_law_r8 ++ (wsL_law_r9 ++ (wsL_law_r10 ++ (wsL_law_r11 ++ (wsL_law_r12 ++ (wsL_law_r13 ++ (wsL_law_r14 ++ (wsL_law_r15 ++ (wsL_law_r16 ++ (wsL_law_r17 ++ (wsL_law_r18 ++ (wsL_law_r19 ++ (wsL_law_r20 ++ (wsL_law_r21 ++ (wsL_law_r22 ++ (wsL_law_r23 ++ (wsL_law_r24 ++ (wsL_law_r25 ++ (wsL_law_r26 ++ (wsL_law_r27 ++ (wsL_law_r28 ++ (wsL_law_r29 ++ (wsL_law_r30 ++ (wsL_law_r31 ++ (wsL_law_r32 ++ (wsL_law_r33 ++ (wsL_law_r34 ++ (wsL_law_r35 ++ (wsL_law_r36 ++ (wsL_law_r37 ++ (wsL_law_r38 ++ (wsL_law_r39 ++ (wsL_law_r40 ++ (wsL_law_r41 ++ (wsL_law_r42 ++ (wsL_law_r43 ++ (wsL_law_r44 ++ (wsL_law_r45 ++ (wsL_law_r46 ++ (wsL_law_r47 ++ (wsL_law_r48 ++ (wsL_law_r49 ++ (wsL_law_r50 ++ (wsL_law_r51 ++ wsL_law_r52)))))))))))))))))))))))))))))))))))))))))))))))))))) : w ∈ wsL_law := List.mem_append_left _ (List.mem_append_left _ (List.mem_append_left _ (List.mem_append_left _ (List.mem_append_left _ (List.mem_append_left _ (List.mem_append_left _ (List.mem_append_left _ (List.mem_append_left _ (List.mem_append_left _ (List.mem_append_left _ (List.mem_append_left _ (List.mem_append_left _ (List.mem_append_left _ (h))))))))))))))
theorem inR_1 {w : Cond} (h : w ∈ wsL_law_r1) : w ∈ wsL_law := inLA (List.mem_append_left _ h)
theorem inR_2 {w : Cond} (h : w ∈ wsL_law_r2) : w ∈ wsL_law := inLA (List.mem_append_right _ (List.mem_append_left _ h))
theorem inR_3 {w : Cond} (h : w ∈ wsL_law_r3) : w ∈ wsL_law := inLA (List.mem_append_right _ (List.mem_append_right _ (List.mem_append_left _ h)))
theorem inR_4 {w : Cond} (h : w ∈ wsL_law_r4) : w ∈ wsL_law := inLA (List.mem_append_right _ (List.mem_append_right _ (List.mem_append_right _ (List.mem_append_left _ h))))
theorem inR_5 {w : Cond} (h : w ∈ wsL_law_r5) : w ∈ wsL_law := inLA (List.mem_append_right _ (List.mem_append_right _ (List.mem_append_right _ (List.mem_append_right _ (List.mem_append_left _ h)))))
theorem inR_6 {w : Cond} (h : w ∈ wsL_law_r6) : w ∈ wsL_law := inLA (List.mem_append_right _ (List.mem_append_right _ (List.mem_append_right _ (List.mem_append_right _ (List.mem_append_right _ (List.mem_append_left _ h))))))
theorem inR_7 {w : Cond} (h : w ∈ wsL_law_r7) : w ∈ wsL_law := inLA (List.mem_append_right _ (List.mem_append_right _ (List.mem_append_right _ (List.mem_append_right _ (List.mem_append_right _ (List.mem_append_right _ (List.mem_append_left _ h)))))))
theorem inR_8 {w : Cond} (h : w ∈ wsL_law_r8) : w ∈ wsL_law := inLA (List.mem_append_right _ (List.mem_append_right _ (List.mem_append_right _ (List.mem_append_right _ (List.mem_append_right _ (List.mem_append_right _ (List.mem_append_right _ (List.mem_append_left _ h))))))))
theorem inR_9 {w : Cond} (h : w ∈ wsL_law_r9) : w ∈ wsL_law := inLA (List.mem_append_right _ (List.mem_append_right _ (List.mem_append_right _ (List.mem_append_right _ (List.mem_append_right _ (List.mem_append_right _ (List.mem_append_right _ (List.mem_append_right _ (List.mem_append_left _ h)))))))))
theorem inR_10 {w : Cond} (h : w ∈ wsL_law_r10) : w ∈ wsL_law := inLA (List.mem_append_right _ (List.mem_append_right _ (List.mem_append_right _ (List.mem_append_right _ (List.mem_append_right _ (List.mem_append_right _ (List.mem_append_right _ (List.mem_append_right _ (List.mem_append_right _ (List.mem_append_left _ h))))))))))
theorem inR_11 {w : Cond} (h : w ∈ wsL_law_r11) : w ∈ wsL_law := inLA (List.mem_append_right _ (List.mem_append_right _ (List.mem_append_right _ (List.mem_append_right _ (List.mem_append_right _ (List.mem_append_right _ (List.mem_append_right _ (List.mem_append_right _ (List.mem_append_right _ (List.mem_append_right _ (List.mem_append_left _ h)))))))))))
theorem inR_12 {w : Cond} (h : w ∈ wsL_law_r12) : w ∈ wsL_law := inLA (List.mem_append_right _ (List.mem_append_right _ (List.mem_append_right _ (List.mem_append_right _ (List.mem_append_right _ (List.mem_append_right _ (List.mem_append_right _ (List.mem_append_right _ (List.mem_append_right _ (List.mem_append_right _ (List.mem_append_right _ (List.mem_append_left _ h))))))))))))
theorem inR_13 {w : Cond} (h : w ∈ wsL_law_r13) : w ∈ wsL_law := inLA (List.mem_append_right _ (List.mem_append_right _ (List.mem_append_right _ (List.mem_append_right _ (List.mem_append_right _ (List.mem_append_right _ (List.mem_append_right _ (List.mem_append_right _ (List.mem_append_right _ (List.mem_append_right _ (List.mem_append_right _ (List.mem_append_right _ (List.mem_append_left _ h)))))))))))))
theorem inR_14 {w : Cond} (h : w ∈ wsL_law_r14) : w ∈ wsL_law := inLA (List.mem_append_right _ (List.mem_append_right _ (List.mem_append_right _ (List.mem_append_right _ (List.mem_append_right _ (List.mem_append_right _ (List.mem_append_right _ (List.mem_append_right _ (List.mem_append_right _ (List.mem_append_right _ (List.mem_append_right _ (List.mem_append_right _ (List.mem_append_right _ (List.mem_append_left _ h))))))))))))))
theorem inR_15 {w : Cond} (h : w ∈ wsL_law_r15) : w ∈ wsL_law := inLA (List.mem_append_right _ (List.mem_append_right _ (List.mem_append_right _ (List.mem_append_right _ (List.mem_append_right _ (List.mem_append_right _ (List.mem_append_right _ (List.mem_append_right _ (List.mem_append_right _ (List.mem_append_right _ (List.mem_append_right _ (List.mem_append_right _ (List.mem_append_right _ (List.mem_append_right _ (List.mem_append_left _ h)))))))))))))))
theorem inR_16 {w : Cond} (h : w ∈ wsL_law_r16) : w ∈ wsL_law := inLA (List.mem_append_right _ (List.mem_append_right _ (List.mem_append_right _ (List.mem_append_right _ (List.mem_append_right _ (List.mem_append_right _ (List.mem_append_right _ (List.mem_append_right _ (List.mem_append_right _ (List.mem_append_right _ (List.mem_append_right _ (List.mem_append_right _ (List.mem_append_right _ (List.mem_append_right _ (List.mem_append_right _ (List.mem_append_left _ h))))))))))))))))
theorem inR_17 {w : Cond} (h : w ∈ wsL_law_r17) : w ∈ wsL_law := inLA (List.mem_append_right _ (List.mem_append_right _ (List.mem_append_right _ (List.mem_append_right _ (List.mem_append_right _ (List.mem_append_right _ (List.mem_append_right _ (List.mem_append_right _ (List.mem_append_right _ (List.mem_append_right _ (List.mem_append_right _ (List.mem_append_right _ (List.mem_append_right _ (List.mem_append_right _ (List.mem_append_right _ (List.mem_append_right _ (List.mem_append_left _ h)))))))))))))))))
theorem inR_18 {w : Cond} (h : w ∈ wsL_law_r18) : w ∈ wsL_law := inLA (List.mem_append_right _ (List.mem_append_right _ (List.mem_append_right _ (List.mem_append_right _ (List.mem_append_right _ (List.mem_append_right _ (List.mem_append_right _ (List.mem_append_right _ (List.mem_append_right _ (List.mem_append_right _ (List.mem_append_right _ (List.mem_append_right _ (List.mem_append_right _ (List.mem_append_right _ (List.mem_append_right _ (List.mem_append_right _ (List.mem_append_right _ (List.mem_append_left _ h))))))))))))))))))
theorem inR_19 {w : Cond} (h : w ∈ wsL_law_r19) : w ∈ wsL_law := inLA (List.mem_append_right _ (List.mem_append_right _ (List.mem_append_right _ (List.mem_append_right _ (List.mem_append_right _ (List.mem_append_right _ (List.mem_append_right _ (List.mem_append_right _ (List.mem_append_right _ (List.mem_append_right _ (List.mem_append_right _ (List.mem_append_right _ (List.mem_append_right _ (List.mem_append_right _ (List.mem_append_right _ (List.mem_append_right _ (List.mem_append_right _ (List.mem_append_right _ (List.mem_append_left _ h)))))))))))))))))))
theorem inR_20 {w : Cond} (h : w ∈ wsL_law_r20) : w ∈ wsL_law := inLA (List.mem_append_right _ (List.mem_append_right _ (List.mem_append_right _ (List.mem_append_right _ (List.mem_append_right _ (List.mem_append_right _ (List.mem_append_right _ (List.mem_append_right _ (List.mem_append_right _ (List.mem_append_right _ (List.mem_append_right _ (List.mem_append_right _ (List.mem_append_right _ (List.mem_append_right _ (List.mem_append_right _ (List.mem_append_right _ (List.mem_append_right _ (List.mem_append_right _ (List.mem_append_right _ (List.mem_append_left _ h))))))))))))))))))))
theorem inR_21 {w : Cond} (h : w ∈ wsL_law_r21) : w ∈ wsL_law := inLA (List.mem_append_right _ (List.mem_append_right _ (List.mem_append_right _ (List.mem_append_right _ (List.mem_append_right _ (List.mem_append_right _ (List.mem_append_right _ (List.mem_append_right _ (List.mem_append_right _ (List.mem_append_right _ (List.mem_append_right _ (List.mem_append_right _ (List.mem_append_right _ (List.mem_append_right _ (List.mem_append_right _ (List.mem_append_right _ (List.mem_append_right _ (List.mem_append_right _ (List.mem_append_right _ (List.mem_append_right _ (List.mem_append_left _ h)))))))))))))))))))))
theorem inR_22 {w : Cond} (h : w ∈ wsL_law_r22) : w ∈ wsL_law := inLA (List.mem_append_right _ (List.mem_append_right _ (List.mem_append_right _ (List.mem_append_right _ (List.mem_append_right _ (List.mem_append_right _ (List.mem_append_right _ (List.mem_append_right _ (List.mem_append_right _ (List.mem_append_right _ (List.mem_append_right _ (List.mem_append_right _ (List.mem_append_right _ (List.mem_append_right _ (List.mem_append_right _ (List.mem_append_right _ (List.mem_append_right _ (List.mem_append_right _ (List.mem_append_right _ (List.mem_append_right _ (List.mem_append_right _ (List.mem_append_left _ h))))))))))))))))))))))
theorem inR_23 {w : Cond} (h : w ∈ wsL_law_r23) : w ∈ wsL_law := inLA (List.mem_append_right _ (List.mem_append_right _ (List.mem_append_right _ (List.mem_append_right _ (List.mem_append_right _ (List.mem_append_right _ (List.mem_append_right _ (List.mem_append_right _ (List.mem_append_right _ (List.mem_append_right _ (List.mem_append_right _ (List.mem_append_right _ (List.mem_append_right _ (List.mem_append_right _ (List.mem_append_right _ (List.mem_append_right _ (List.mem_append_right _ (List.mem_append_right _ (List.mem_append_right _ (List.mem_append_right _ (List.mem_append_right _ (List.mem_append_right _ (List.mem_append_left _ h)))))))))))))))))))))))
theorem inR_24 {w : Cond} (h : w ∈ wsL_law_r24) : w ∈ wsL_law := inLA (List.mem_append_right _ (List.mem_append_right _ (List.mem_append_right _ (List.mem_append_right _ (List.mem_append_right _ (List.mem_append_right _ (List.mem_append_right _ (List.mem_append_right _ (List.mem_append_right _ (List.mem_append_right _ (List.mem_append_right _ (List.mem_append_right _ (List.mem_append_right _ (List.mem_append_right _ (List.mem_append_right _ (List.mem_append_right _ (List.mem_append_right _ (List.mem_append_right _ (List.mem_append_right _ (List.mem_append_right _ (List.mem_append_right _ (List.mem_append_right _ (List.mem_append_right _ (List.mem_append_left _ h))))))))))))))))))))))))
theorem inR_25 {w : Cond} (h : w ∈ wsL_law_r25) : w ∈ wsL_law := inLA (List.mem_append_right _ (List.mem_append_right _ (List.mem_append_right _ (List.mem_append_right _ (List.mem_append_right _ (List.mem_append_right _ (List.mem_append_right _ (List.mem_append_right _ (List.mem_append_right _ (List.mem_append_right _ (List.mem_append_right _ (List.mem_append_right _ (List.mem_append_right _ (List.mem_append_right _ (List.mem_append_right _ (List.mem_append_right _ (List.mem_append_right _ (List.mem_append_right _ (List.mem_append_right _ (List.mem_append_right _ (List.mem_append_right _ (List.mem_append_right _ (List.mem_append_right _ (List.mem_append_right _ (List.mem_append_left _ h)))))))))))))))))))))))))
theorem inR_26 {w : Cond} (h : w ∈ wsL_law_r26) : w ∈ wsL_law := inLA (List.mem_append_right _ (List.mem_append_right _ (List.mem_append_right _ (List.mem_append_right _ (List.mem_append_right _ (List.mem_append_right _ (List.mem_append_right _ (List.mem_append_right _ (List.mem_append_right _ (List.mem_append_right _ (List.mem_append_right _ (List.mem_append_right _ (List.mem_append_right _ (List.mem_append_right _ (List.mem_append_right _ (List.mem_append_right _ (List.mem_append_right _ (List.mem_append_right _ (List.mem_append_right _ (List.mem_append_right _ (List.mem_append_right _ (List.mem_append_right _ (List.mem_append_right _ (List.mem_append_right _ (List.mem_append_right _ (List.mem_append_left _ h))))))))))))))))))))))))))
theorem inR_27 {w : Cond} (h : w ∈ wsL_law_r27) : w ∈ wsL_law := inLA (List.mem_append_right _ (List.mem_append_right _ (List.mem_append_right _ (List.mem_append_right _ (List.mem_append_right _ (List.mem_append_right _ (List.mem_append_right _ (List.mem_append_right _ (List.mem_append_right _ (List.mem_append_right _ (List.mem_append_right _ (List.mem_append_right _ (List.mem_append_right _ (List.mem_append_right _ (List.mem_append_right _ (List.mem_append_right _ (List.mem_append_right _ (List.mem_append_right _ (List.mem_append_right _ (List.mem_append_right _ (List.mem_append_right _ (List.mem_append_right _ (List.mem_append_right _ (List.mem_append_right _ (List.mem_append_right _ (List.mem_append_right _ (List.mem_append_left _ h)))))))))))))))))))))))))))
theorem inR_28 {w : Cond} (h : w ∈ wsL_law_r28) : w ∈ wsL_law := inLA (List.mem_append_right _ (List.mem_append_right _ (List.mem_append_right _ (List.mem_append_right _ (List.mem_append_right _ (List.mem_append_right _ (List.mem_append_right _ (List.mem_append_right _ (List.mem_append_right _ (List.mem_append_right _ (List.mem_append_right _ (List.mem_append_right _ (List.mem_append_right _ (List.mem_append_right _ (List.mem_append_right _ (List.mem_append_right _ (List.mem_append_right _ (List.mem_append_right _ (List.mem_append_right _ (List.mem_append_right _ (List.mem_append_right _ (List.mem_append_right _ (List.mem_append_right _ (List.mem_append_right _ (List.mem_append_right _ (List.mem_append_right _ (List.mem_append_right _ (List.mem_append_left _ h))))))))))))))))))))))))))))
theorem inR_29 {w : Cond} (h : w ∈ wsL_law_r29) : w ∈ wsL_law := inLA (List.mem_append_right _ (List.mem_append_right _ (List.mem_append_right _ (List.mem_append_right _ (List.mem_append_right _ (List.mem_append_right _ (List.mem_append_right _ (List.mem_append_right _ (List.mem_append_right _ (List.mem_append_right _ (List.mem_append_right _ (List.mem_append_right _ (List.mem_append_right _ (List.mem_append_right _ (List.mem_append_right _ (List.mem_append_right _ (List.mem_append_right _ (List.mem_append_right _ (List.mem_append_right _ (List.mem_append_right _ (List.mem_append_right _ (List.mem_append_right _ (List.mem_append_right _ (List.mem_append_right _ (List.mem_append_right _ (List.mem_append_right _ (List.mem_append_right _ (List.mem_append_right _ (List.mem_append_left _ h)))))))))))))))))))))))))))))
theorem inR_30 {w : Cond} (h : w ∈ wsL_law_r30) : w ∈ wsL_law := inLA (List.mem_append_right _ (List.mem_append_right _ (List.mem_append_right _ (List.mem_append_right _ (List.mem_append_right _ (List.mem_append_right _ (List.mem_append_right _ (List.mem_append_right _ (List.mem_append_right _ (List.mem_append_right _ (List.mem_append_right _ (List.mem_append_right _ (List.mem_append_right _ (List.mem_append_right _ (List.mem_append_right _ (List.mem_append_right _ (List.mem_append_right _ (List.mem_append_right _ (List.mem_append_right _ (List.mem_append_right _ (List.mem_append_right _ (List.mem_append_right _ (List.mem_append_right _ (List.mem_append_right _ (List.mem_append_right _ (List.mem_append_right _ (List.mem_append_right _ (List.mem_append_right _ (List.mem_append_right _ (List.mem_append_left _ h))))))))))))))))))))))))))))))
theorem inR_31 {w : Cond} (h : w ∈ wsL_law_r31) : w ∈ wsL_law := inLA (List.mem_append_right _ (List.mem_append_right _ (List.mem_append_right _ (List.mem_append_right _ (List.mem_append_right _ (List.mem_append_right _ (List.mem_append_right _ (List.mem_append_right _ (List.mem_append_right _ (List.mem_append_right _ (List.mem_append_right _ (List.mem_append_right _ (List.mem_append_right _ (List.mem_append_right _ (List.mem_append_right _ (List.mem_append_right _ (List.mem_append_right _ (List.mem_append_right _ (List.mem_append_right _ (List.mem_append_right _ (List.mem_append_right _ (List.mem_append_right _ (List.mem_append_right _ (List.mem_append_right _ (List.mem_append_right _ (List.mem_append_right _ (List.mem_append_right _ (List.mem_append_right _ (List.mem_append_right _ (List.mem_append_right _ (List.mem_append_left _ h)))))))))))))))))))))))))))))))
theorem inR_32 {w : Cond} (h : w ∈ wsL_law_r32) : w ∈ wsL_law := inLA (List.mem_append_right _ (List.mem_append_right _ (List.mem_append_right _ (List.mem_append_right _ (List.mem_append_right _ (List.mem_append_right _ (List.mem_append_right _ (List.mem_append_right _ (List.mem_append_right _ (List.mem_append_right _ (List.mem_append_right _ (List.mem_append_right _ (List.mem_append_right _ (List.mem_append_right _ (List.mem_append_right _ (List.mem_append_right _ (List.mem_append_right _ (List.mem_append_right _ (List.mem_append_right _ (List.mem_append_right _ (List.mem_append_right _ (List.mem_append_right _ (List.mem_append_right _ (List.mem_append_right _ (List.mem_append_right _ (List.mem_append_right _ (List.mem_append_right _ (List.mem_append_right _ (List.mem_append_right _ (List.mem_append_right _ (List.mem_append_right _ (List.mem_append_left _ h))))))))))))))))))))))))))))))))
theorem inR_33 {w : Cond} (h : w ∈ wsL_law_r33) : w ∈ wsL_law := inLA (List.mem_append_right _ (List.mem_append_right _ (List.mem_append_right _ (List.mem_append_right _ (List.mem_append_right _ (List.mem_append_right _ (List.mem_append_right _ (List.mem_append_right _ (List.mem_append_right _ (List.mem_append_right _ (List.mem_append_right _ (List.mem_append_right _ (List.mem_append_right _ (List.mem_append_right _ (List.mem_append_right _ (List.mem_append_right _ (List.mem_append_right _ (List.mem_append_right _ (List.mem_append_right _ (List.mem_append_right _ (List.mem_append_right _ (List.mem_append_right _ (List.mem_append_right _ (List.mem_append_right _ (List.mem_append_right _ (List.mem_append_right _ (List.mem_append_right _ (List.mem_append_right _ (List.mem_append_right _ (List.mem_append_right _ (List.mem_append_right _ (List.mem_append_right _ (List.mem_append_left _ h)))))))))))))))))))))))))))))))))
theorem inR_34 {w : Cond} (h : w ∈ wsL_law_r34) : w ∈ wsL_law := inLA (List.mem_append_right _ (List.mem_append_right _ (List.mem_append_right _ (List.mem_append_right _ (List.mem_append_right _ (List.mem_append_right _ (List.mem_append_right _ (List.mem_append_right _ (List.mem_append_right _ (List.mem_append_right _ (List.mem_append_right _ (List.mem_append_right _ (List.mem_append_right _ (List.mem_append_right _ (List.mem_append_right _ (List.mem_append_right _ (List.mem_append_right _ (List.mem_append_right _ (List.mem_append_right _ (List.mem_append_right _ (List.mem_append_right _ (List.mem_append_right _ (List.mem_append_right _ (List.mem_append_right _ (List.mem_append_right _ (List.mem_append_right _ (List.mem_append_right _ (List.mem_append_right _ (List.mem_append_right _ (List.mem_append_right _ (List.mem_append_right _ (List.mem_append_right _ (List.mem_append_right _ (List.mem_append_left _ h))))))))))))))))))))))))))))))))))
theorem inR_35 {w : Cond} (h : w ∈ wsL_law_r35) : w ∈ wsL_law := inLA (List.mem_append_right _ (List.mem_append_right _ (List.mem_append_right _ (List.mem_append_right _ (List.mem_append_right _ (List.mem_append_right _ (List.mem_append_right _ (List.mem_append_right _ (List.mem_append_right _ (List.mem_append_right _ (List.mem_append_right _ (List.mem_append_right _ (List.mem_append_right _ (List.mem_append_right _ (List.mem_append_right _ (List.mem_append_right _ (List.mem_append_right _ (List.mem_append_right _ (List.mem_append_right _ (List.mem_append_right _ (List.mem_append_right _ (List.mem_append_right _ (List.mem_append_right _ (List.mem_append_right _ (List.mem_append_right _ (List.mem_append_right _ (List.mem_append_right _ (List.mem_append_right _ (List.mem_append_right _ (List.mem_append_right _ (List.mem_append_right _ (List.mem_append_right _ (List.mem_append_right _ (List.mem_append_right _ (List.mem_append_left _ h)))))))))))))))))))))))))))))))))))
theorem inR_36 {w : Cond} (h : w ∈ wsL_law_r36) : w ∈ wsL_law := inLA (List.mem_append_right _ (List.mem_append_right _ (List.mem_append_right _ (List.mem_append_right _ (List.mem_append_right _ (List.mem_append_right _ (List.mem_append_right _ (List.mem_append_right _ (List.mem_append_right _ (List.mem_append_right _ (List.mem_append_right _ (List.mem_append_right _ (List.mem_append_right _ (List.mem_append_right _ (List.mem_append_right _ (List.mem_append_right _ (List.mem_append_right _ (List.mem_append_right _ (List.mem_append_right _ (List.mem_append_right _ (List.mem_append_right _ (List.mem_append_right _ (List.mem_append_right _ (List.mem_append_right _ (List.mem_append_right _ (List.mem_append_right _ (List.mem_append_right _ (List.mem_append_right _ (List.mem_append_right _ (List.mem_append_right _ (List.mem_append_right _ (List.mem_append_right _ (List.mem_append_right _ (List.mem_append_right _ (List.mem_append_right _ (List.mem_append_left _ h))))))))))))))))))))))))))))))))))))
theorem inR_37 {w : Cond} (h : w ∈ wsL_law_r37) : w ∈ wsL_law := inLA (List.mem_append_right _ (List.mem_append_right _ (List.mem_append_right _ (List.mem_append_right _ (List.mem_append_right _ (List.mem_append_right _ (List.mem_append_right _ (List.mem_append_right _ (List.mem_append_right _ (List.mem_append_right _ (List.mem_append_right _ (List.mem_append_right _ (List.mem_append_right _ (List.mem_append_right _ (List.mem_append_right _ (List.mem_append_right _ (List.mem_append_right _ (List.mem_append_right _ (List.mem_append_right _ (List.mem_append_right _ (List.mem_append_right _ (List.mem_append_right _ (List.mem_append_right _ (List.mem_append_right _ (List.mem_append_right _ (List.mem_append_right _ (List.mem_append_right _ (List.mem_append_right _ (List.mem_append_right _ (List.mem_append_right _ (List.mem_append_right _ (List.mem_append_right _ (List.mem_append_right _ (List.mem_append_right _ (List.mem_append_right _ (List.mem_append_right _ (List.mem_append_left _ h)))))))))))))))))))))))))))))))))))))
theorem inR_38 {w : Cond} (h : w ∈ wsL_law_r38) : w ∈ wsL_law := inLA (List.mem_append_right _ (List.mem_append_right _ (List.mem_append_right _ (List.mem_append_right _ (List.mem_append_right _ (List.mem_append_right _ (List.mem_append_right _ (List.mem_append_right _ (List.mem_append_right _ (List.mem_append_right _ (List.mem_append_right _ (List.mem_append_right _ (List.mem_append_right _ (List.mem_append_right _ (List.mem_append_right _ (List.mem_append_right _ (List.mem_append_right _ (List.mem_append_right _ (List.mem_append_right _ (List.mem_append_right _ (List.mem_append_right _ (List.mem_append_right _ (List.mem_append_right _ (List.mem_append_right _ (List.mem_append_right _ (List.mem_append_right _ (List.mem_append_right _ (List.mem_append_right _ (List.mem_append_right _ (List.mem_append_right _ (List.mem_append_right _ (List.mem_append_right _ (List.mem_append_right _ (List.mem_append_right _ (List.mem_append_right _ (List.mem_append_right _ (List.mem_append_right _ (List.mem_append_left _ h))))))))))))))))))))))))))))))))))))))
theorem inR_39 {w : Cond} (h : w ∈ wsL_law_r39) : w ∈ wsL_law := inLA (List.mem_append_right _ (List.mem_append_right _ (List.mem_append_right _ (List.mem_append_right _ (List.mem_append_right _ (List.mem_append_right _ (List.mem_append_right _ (List.mem_append_right _ (List.mem_append_right _ (List.mem_append_right _ (List.mem_append_right _ (List.mem_append_right _ (List.mem_append_right _ (List.mem_append_right _ (List.mem_append_right _ (List.mem_append_right _ (List.mem_append_right _ (List.mem_append_right _ (List.mem_append_right _ (List.mem_append_right _ (List.mem_append_right _ (List.mem_append_right _ (List.mem_append_right _ (List.mem_append_right _ (List.mem_append_right _ (List.mem_append_right _ (List.mem_append_right _ (List.mem_append_right _ (List.mem_append_right _ (List.mem_append_right _ (List.mem_append_right _ (List.mem_append_right _ (List.mem_append_right _ (List.mem_append_right _ (List.mem_append_right _ (List.mem_append_right _ (List.mem_append_right _ (List.mem_append_right _ (List.mem_append_left _ h)))))))))))))))))))))))))))))))))))))))
theorem inR_40 {w : Cond} (h : w ∈ wsL_law_r40) : w ∈ wsL_law := inLA (List.mem_append_right _ (List.mem_append_right _ (List.mem_append_right _ (List.mem_append_right _ (List.mem_append_right _ (List.mem_append_right _ (List.mem_append_right _ (List.mem_append_right _ (List.mem_append_right _ (List.mem_append_right _ (List.mem_append_right _ (List.mem_append_right _ (List.mem_append_right _ (List.mem_append_right _ (List.mem_append_right _ (List.mem_append_right _ (List.mem_append_right _ (List.mem_append_right _ (List.mem_append_right _ (List.mem_append_right _ (List.mem_append_right _ (List.mem_append_right _ (List.mem_append_right _ (List.mem_append_right _ (List.mem_append_right _ (List.mem_append_right _ (List.mem_append_right _ (List.mem_append_right _ (List.mem_append_right _ (List.mem_append_right _ (List.mem_append_right _ (List.mem_append_right _ (List.mem_append_right _ (List.mem_append_right _ (List.mem_append_right _ (List.mem_append_right _ (List.mem_append_right _ (List.mem_append_right _ (List.mem_append_right _ (List.mem_append_left _ h))))))))))))))))))))))))))))))))))))))))
theorem inR_41 {w : Cond} (h : w ∈ wsL_law_r41) : w ∈ wsL_law := inLA (List.mem_append_right _ (List.mem_append_right _ (List.mem_append_right _ (List.mem_append_right _ (List.mem_append_right _ (List.mem_append_right _ (List.mem_append_right _ (List.mem_append_right _ (List.mem_append_right _ (List.mem_append_right _ (List.mem_append_right _ (List.mem_append_right _ (List.mem_append_right _ (List.mem_append_right _ (List.mem_append_right _ (List.mem_append_right _ (List.mem_append_right _ (List.mem_append_right _ (List.mem_append_right _ (List.mem_append_right _ (List.mem_append_right _ (List.mem_append_right _ (List.mem_append_right _ (List.mem_append_right _ (List.mem_append_right _ (List.mem_append_right _ (List.mem_append_right _ (List.mem_append_right _ (List.mem_append_right _ (List.mem_append_right _ (List.mem_append_right _ (List.mem_append_right _ (List.mem_append_right _ (List.mem_append_right _ (List.mem_append_right _ (List.mem_append_right _ (List.mem_append_right _ (List.mem_append_right _ (List.mem_append_right _ (List.mem_append_right _ (List.mem_append_left _ h)))))))))))))))))))))))))))))))))))))))))
theorem inR_42 {w : Cond} (h : w ∈ wsL_law_r42) : w ∈ wsL_law := inLA (List.mem_append_right _ (List.mem_append_right _ (List.mem_append_right _ (List.mem_append_right _ (List.mem_append_right _ (List.mem_append_right _ (List.mem_append_right _ (List.mem_append_right _ (List.mem_append_right _ (List.mem_append_right _ (List.mem_append_right _ (List.mem_append_right _ (List.mem_append_right _ (List.mem_append_right _ (List.mem_append_right _ (List.mem_append_right _ (List.mem_append_right _ (List.mem_append_right _ (List.mem_append_right _ (List.mem_append_right _ (List.mem_append_right _ (List.mem_append_right _ (List.mem_append_right _ (List.mem_append_right _ (List.mem_append_right _ (List.mem_append_right _ (List.mem_append_right _ (List.mem_append_right _ (List.mem_append_right _ (List.mem_append_right _ (List.mem_append_right _ (List.mem_append_right _ (List.mem_append_right _ (List.mem_append_right _ (List.mem_append_right _ (List.mem_append_right _ (List.mem_append_right _ (List.mem_append_right _ (List.mem_append_right _ (List.mem_append_right _ (List.mem_append_right _ (List.mem_append_left _ h))))))))))))))))))))))))))))))))))))))))))
theorem inR_43 {w : Cond} (h : w ∈ wsL_law_r43) : w ∈ wsL_law := inLA (List.mem_append_right _ (List.mem_append_right _ (List.mem_append_right _ (List.mem_append_right _ (List.mem_append_right _ (List.mem_append_right _ (List.mem_append_right _ (List.mem_append_right _ (List.mem_append_right _ (List.mem_append_right _ (List.mem_append_right _ (List.mem_append_right _ (List.mem_append_right _ (List.mem_append_right _ (List.mem_append_right _ (List.mem_append_right _ (List.mem_append_right _ (List.mem_append_right _ (List.mem_append_right _ (List.mem_append_right _ (List.mem_append_right _ (List.mem_append_right _ (List.mem_append_right _ (List.mem_append_right _ (List.mem_append_right _ (List.mem_append_right _ (List.mem_append_right _ (List.mem_append_right _ (List.mem_append_right _ (List.mem_append_right _ (List.mem_append_right _ (List.mem_append_right _ (List.mem_append_right _ (List.mem_append_right _ (List.mem_append_right _ (List.mem_append_right _ (List.mem_append_right _ (List.mem_append_right _ (List.mem_append_right _ (List.mem_append_right _ (List.mem_append_right _ (List.mem_append_right _ (List.mem_append_left _ h)))))))))))))))))))))))))))))))))))))))))))
theorem inR_44 {w : Cond} (h : w ∈ wsL_law_r44) : w ∈ wsL_law := inLA (List.mem_append_right _ (List.mem_append_right _ (List.mem_append_right _ (List.mem_append_right _ (List.mem_append_right _ (List.mem_append_right _ (List.mem_append_right _ (List.mem_append_right _ (List.mem_append_right _ (List.mem_append_right _ (List.mem_append_right _ (List.mem_append_right _ (List.mem_append_right _ (List.mem_append_right _ (List.mem_append_right _ (List.mem_append_right _ (List.mem_append_right _ (List.mem_append_right _ (List.mem_append_right _ (List.mem_append_right _ (List.mem_append_right _ (List.mem_append_right _ (List.mem_append_right _ (List.mem_append_right _ (List.mem_append_right _ (List.mem_append_right _ (List.mem_append_right _ (List.mem_append_right _ (List.mem_append_right _ (List.mem_append_right _ (List.mem_append_right _ (List.mem_append_right _ (List.mem_append_right _ (List.mem_append_right _ (List.mem_append_right _ (List.mem_append_right _ (List.mem_append_right _ (List.mem_append_right _ (List.mem_append_right _ (List.mem_append_right _ (List.mem_append_right _ (List.mem_append_right _ (List.mem_append_right _ (List.mem_append_left _ h))))))))))))))))))))))))))))))))))))))))))))
theorem inR_45 {w : Cond} (h : w ∈ wsL_law_r45) : w ∈ wsL_law := inLA (List.mem_append_right _ (List.mem_append_right _ (List.mem_append_right _ (List.mem_append_right _ (List.mem_append_right _ (List.mem_append_right _ (List.mem_append_right _ (List.mem_append_right _ (List.mem_append_right _ (List.mem_append_right _ (List.mem_append_right _ (List.mem_append_right _ (List.mem_append_right _ (List.mem_append_right _ (List.mem_append_right _ (List.mem_append_right _ (List.mem_append_right _ (List.mem_append_right _ (List.mem_append_right _ (List.mem_append_right _ (List.mem_append_right _ (List.mem_append_right _ (List.mem_append_right _ (List.mem_append_right _ (List.mem_append_right _ (List.mem_append_right _ (List.mem_append_right _ (List.mem_append_right _ (List.mem_append_right _ (List.mem_append_right _ (List.mem_append_right _ (List.mem_append_right _ (List.mem_append_right _ (List.mem_append_right _ (List.mem_append_right _ (List.mem_append_right _ (List.mem_append_right _ (List.mem_append_right _ (List.mem_append_right _ (List.mem_append_right _ (List.mem_append_right _ (List.mem_append_right _ (List.mem_append_right _ (List.mem_append_right _ (List.mem_append_left _ h)))))))))))))))))))))))))))))))))))))))))))))
theorem inR_46 {w : Cond} (h : w ∈ wsL_law_r46) : w ∈ wsL_law := inLA (List.mem_append_right _ (List.mem_append_right _ (List.mem_append_right _ (List.mem_append_right _ (List.mem_append_right _ (List.mem_append_right _ (List.mem_append_right _ (List.mem_append_right _ (List.mem_append_right _ (List.mem_append_right _ (List.mem_append_right _ (List.mem_append_right _ (List.mem_append_right _ (List.mem_append_right _ (List.mem_append_right _ (List.mem_append_right _ (List.mem_append_right _ (List.mem_append_right _ (List.mem_append_right _ (List.mem_append_right _ (List.mem_append_right _ (List.mem_append_right _ (List.mem_append_right _ (List.mem_append_right _ (List.mem_append_right _ (List.mem_append_right _ (List.mem_append_right _ (List.mem_append_right _ (List.mem_append_right _ (List.mem_append_right _ (List.mem_append_right _ (List.mem_append_right _ (List.mem_append_right _ (List.mem_append_right _ (List.mem_append_right _ (List.mem_append_right _ (List.mem_append_right _ (List.mem_append_right _ (List.mem_append_right _ (List.mem_append_right _ (List.mem_append_right _ (List.mem_append_right _ (List.mem_append_right _ (List.mem_append_right _ (List.mem_append_right _ (List.mem_append_left _ h))))))))))))))))))))))))))))))))))))))))))))))
theorem inR_47 {w : Cond} (h : w ∈ wsL_law_r47) : w ∈ wsL_law := inLA (List.mem_append_right _ (List.mem_append_right _ (List.mem_append_right _ (List.mem_append_right _ (List.mem_append_right _ (List.mem_append_right _ (List.mem_append_right _ (List.mem_append_right _ (List.mem_append_right _ (List.mem_append_right _ (List.mem_append_right _ (List.mem_append_right _ (List.mem_append_right _ (List.mem_append_right _ (List.mem_append_right _ (List.mem_append_right _ (List.mem_append_right _ (List.mem_append_right _ (List.mem_append_right _ (List.mem_append_right _ (List.mem_append_right _ (List.mem_append_right _ (List.mem_append_right _ (List.mem_append_right _ (List.mem_append_right _ (List.mem_append_right _ (List.mem_append_right _ (List.mem_append_right _ (List.mem_append_right _ (List.mem_append_right _ (List.mem_append_right _ (List.mem_append_right _ (List.mem_append_right _ (List.mem_append_right _ (List.mem_append_right _ (List.mem_append_right _ (List.mem_append_right _ (List.mem_append_right _ (List.mem_append_right _ (List.mem_append_right _ (List.mem_append_right _ (List.mem_append_right _ (List.mem_append_right _ (List.mem_append_right _ (List.mem_append_right _ (List.mem_append_right _ (List.mem_append_left _ h)))))))))))))))))))))))))))))))))))))))))))))))
theorem inR_48 {w : Cond} (h : w ∈ wsL_law_r48) : w ∈ wsL_law := inLA (List.mem_append_right _ (List.mem_append_right _ (List.mem_append_right _ (List.mem_append_right _ (List.mem_append_right _ (List.mem_append_right _ (List.mem_append_right _ (List.mem_append_right _ (List.mem_append_right _ (List.mem_append_right _ (List.mem_append_right _ (List.mem_append_right _ (List.mem_append_right _ (List.mem_append_right _ (List.mem_append_right _ (List.mem_append_right _ (List.mem_append_right _ (List.mem_append_right _ (List.mem_append_right _ (List.mem_append_right _ (List.mem_append_right _ (List.mem_append_right _ (List.mem_append_right _ (List.mem_append_right _ (List.mem_append_right _ (List.mem_append_right _ (List.mem_append_right _ (List.mem_append_right _ (List.mem_append_right _ (List.mem_append_right _ (List.mem_append_right _ (List.mem_append_right _ (List.mem_append_right _ (List.mem_append_right _ (List.mem_append_right _ (List.mem_append_right _ (List.mem_append_right _ (List.mem_append_right _ (List.mem_append_right _ (List.mem_append_right _ (List.mem_append_right _ (List.mem_append_right _ (List.mem_append_right _ (List.mem_append_right _ (List.mem_append_right _ (List.mem_append_right _ (List.mem_append_right _ (List.mem_append_left _ h))))))))))))))))))))))))))))))))))))))))))))))))
theorem inR_49 {w : Cond} (h : w ∈ wsL_law_r49) : w ∈ wsL_law := inLA (List.mem_append_right _ (List.mem_append_right _ (List.mem_append_right _ (List.mem_append_right _ (List.mem_append_right _ (List.mem_append_right _ (List.mem_append_right _ (List.mem_append_right _ (List.mem_append_right _ (List.mem_append_right _ (List.mem_append_right _ (List.mem_append_right _ (List.mem_append_right _ (List.mem_append_right _ (List.mem_append_right _ (List.mem_append_right _ (List.mem_append_right _ (List.mem_append_right _ (List.mem_append_right _ (List.mem_append_right _ (List.mem_append_right _ (List.mem_append_right _ (List.mem_append_right _ (List.mem_append_right _ (List.mem_append_right _ (List.mem_append_right _ (List.mem_append_right _ (List.mem_append_right _ (List.mem_append_right _ (List.mem_append_right _ (List.mem_append_right _ (List.mem_append_right _ (List.mem_append_right _ (List.mem_append_right _ (List.mem_append_right _ (List.mem_append_right _ (List.mem_append_right _ (List.mem_append_right _ (List.mem_append_right _ (List.mem_append_right _ (List.mem_append_right _ (List.mem_append_right _ (List.mem_append_right _ (List.mem_append_right _ (List.mem_append_right _ (List.mem_append_right _ (List.mem_append_right _ (List.mem_append_right _ (List.mem_append_left _ h)))))))))))))))))))))))))))))))))))))))))))))))))
theorem inR_50 {w : Cond} (h : w ∈ wsL_law_r50) : w ∈ wsL_law := inLA (List.mem_append_right _ (List.mem_append_right _ (List.mem_append_right _ (List.mem_append_right _ (List.mem_append_right _ (List.mem_append_right _ (List.mem_append_right _ (List.mem_append_right _ (List.mem_append_right _ (List.mem_append_right _ (List.mem_append_right _ (List.mem_append_right _ (List.mem_append_right _ (List.mem_append_right _ (List.mem_append_right _ (List.mem_append_right _ (List.mem_append_right _ (List.mem_append_right _ (List.mem_append_right _ (List.mem_append_right _ (List.mem_append_right _ (List.mem_append_right _ (List.mem_append_right _ (List.mem_append_right _ (List.mem_append_right _ (List.mem_append_right _ (List.mem_append_right _ (List.mem_append_right _ (List.mem_append_right _ (List.mem_append_right _ (List.mem_append_right _ (List.mem_append_right _ (List.mem_append_right _ (List.mem_append_right _ (List.mem_append_right _ (List.mem_append_right _ (List.mem_append_right _ (List.mem_append_right _ (List.mem_append_right _ (List.mem_append_right _ (List.mem_append_right _ (List.mem_append_right _ (List.mem_append_right _ (List.mem_append_right _ (List.mem_append_right _ (List.mem_append_right _ (List.mem_append_right _ (List.mem_append_right _ (List.mem_append_right _ (List.mem_append_left _ h))))))))))))))))))))))))))))))))))))))))))))))))))
theorem inR_51 {w : Cond} (h : w ∈ wsL_law_r51) : w ∈ wsL_law := inLA (List.mem_append_right _ (List.mem_append_right _ (List.mem_append_right _ (List.mem_append_right _ (List.mem_append_right _ (List.mem_append_right _ (List.mem_append_right _ (List.mem_append_right _ (List.mem_append_right _ (List.mem_append_right _ (List.mem_append_right _ (List.mem_append_right _ (List.mem_append_right _ (List.mem_append_right _ (List.mem_append_right _ (List.mem_append_right _ (List.mem_append_right _ (List.mem_append_right _ (List.mem_append_right _ (List.mem_append_right _ (List.mem_append_right _ (List.mem_append_right _ (List.mem_append_right _ (List.mem_append_right _ (List.mem_append_right _ (List.mem_append_right _ (List.mem_append_right _ (List.mem_append_right _ (List.mem_append_right _ (List.mem_append_right _ (List.mem_append_right _ (List.mem_append_right _ (List.mem_append_right _ (List.mem_append_right _ (List.mem_append_right _ (List.mem_append_right _ (List.mem_append_right _ (List.mem_append_right _ (List.mem_append_right _ (List.mem_append_right _ (List.mem_append_right _ (List.mem_append_right _ (List.mem_append_right _ (List.mem_append_right _ (List.mem_append_right _ (List.mem_append_right _ (List.mem_append_right _ (List.mem_append_right _ (List.mem_append_right _ (List.mem_append_right _ (List.mem_append_left _ h)))))))))))))))))))))))))))))))))))))))))))))))))))
theorem inR_52 {w : Cond} (h : w ∈ wsL_law_r52) : w ∈ wsL_law := inLA (List.mem_append_right _ (List.mem_append_right _ (List.mem_append_right _ (List.mem_append_right _ (List.mem_append_right _ (List.mem_append_right _ (List.mem_append_right _ (List.mem_append_right _ (List.mem_append_right _ (List.mem_append_right _ (List.mem_append_right _ (List.mem_append_right _ (List.mem_append_right _ (List.mem_append_right _ (List.mem_append_right _ (List.mem_append_right _ (List.mem_append_right _ (List.mem_append_right _ (List.mem_append_right _ (List.mem_append_right _ (List.mem_append_right _ (List.mem_append_right _ (List.mem_append_right _ (List.mem_append_right _ (List.mem_append_right _ (List.mem_append_right _ (List.mem_append_right _ (List.mem_append_right _ (List.mem_append_right _ (List.mem_append_right _ (List.mem_append_right _ (List.mem_append_right _ (List.mem_append_right _ (List.mem_append_right _ (List.mem_append_right _ (List.mem_append_right _ (List.mem_append_right _ (List.mem_append_right _ (List.mem_append_right _ (List.mem_append_right _ (List.mem_append_right _ (List.mem_append_right _ (List.mem_append_right _ (List.mem_append_right _ (List.mem_append_right _ (List.mem_append_right _ (List.mem_append_right _ (List.mem_append_right _ (List.mem_append_right _ (List.mem_append_right _ (List.mem_append_right _ (h))))))))))))))))))))))))))))))))))))))))))))))))))))
theorem inlX0 : ∀ w ∈ wsX00, w ∈ wsL_law := fun _ h => List.mem_append_left _ (List.mem_append_left _ (List.mem_append_left _ (List.mem_append_left _ (List.mem_append_right _ h))))
theorem inlX1 : ∀ w ∈ wsX10, w ∈ wsL_law := fun _ h => List.mem_append_left _ (List.mem_append_left _ (List.mem_append_left _ (List.mem_append_left _ (List.mem_append_left _ (List.mem_append_left _ (List.mem_append_right _ h))))))
theorem inlX2 : ∀ w ∈ wsX20, w ∈ wsL_law := fun _ h => List.mem_append_left _ (List.mem_append_left _ (List.mem_append_left _ (List.mem_append_left _ (List.mem_append_left _ (List.mem_append_left _ (List.mem_append_left _ (List.mem_append_left _ (List.mem_append_left _ (List.mem_append_right _ h)))))))))
theorem inlX3 : ∀ w ∈ wsX30, w ∈ wsL_law := fun _ h => List.mem_append_left _ (List.mem_append_left _ (List.mem_append_left _ (List.mem_append_left _ (List.mem_append_left _ (List.mem_append_right _ h)))))
theorem inlX4 : ∀ w ∈ wsX40, w ∈ wsL_law := fun _ h => List.mem_append_left _ (List.mem_append_left _ (List.mem_append_right _ h))
theorem inlX5 : ∀ w ∈ wsX50, w ∈ wsL_law := fun _ h => List.mem_append_left _ (List.mem_append_right _ h)
theorem inlX6 : ∀ w ∈ wsX60, w ∈ wsL_law := fun _ h => List.mem_append_left _ (List.mem_append_left _ (List.mem_append_left _ (List.mem_append_left _ (List.mem_append_left _ (List.mem_append_left _ (List.mem_append_left _ (List.mem_append_left _ (List.mem_append_left _ (List.mem_append_left _ (List.mem_append_right _ h))))))))))
theorem inlX7 : ∀ w ∈ wsX70, w ∈ wsL_law := fun _ h => List.mem_append_left _ (List.mem_append_left _ (List.mem_append_left _ (List.mem_append_left _ (List.mem_append_left _ (List.mem_append_left _ (List.mem_append_left _ (List.mem_append_left _ (List.mem_append_right _ h))))))))
theorem inlX8 : ∀ w ∈ wsX80, w ∈ wsL_law := fun _ h => List.mem_append_left _ (List.mem_append_left _ (List.mem_append_left _ (List.mem_append_right _ h)))
theorem inlX9 : ∀ w ∈ wsX90, w ∈ wsL_law := fun _ h => List.mem_append_left _ (List.mem_append_left _ (List.mem_append_left _ (List.mem_append_left _ (List.mem_append_left _ (List.mem_append_left _ (List.mem_append_left _ (List.mem_append_left _ (List.mem_append_left _ (List.mem_append_left _ (List.mem_append_left _ (List.mem_append_right _ h)))))))))))
theorem inlX10 : ∀ w ∈ wsX100, w ∈ wsL_law := fun _ h => List.mem_append_left _ (List.mem_append_left _ (List.mem_append_left _ (List.mem_append_left _ (List.mem_append_left _ (List.mem_append_left _ (List.mem_append_left _ (List.mem_append_right _ h)))))))
theorem inlX11 : ∀ w ∈ wsX110, w ∈ wsL_law := fun _ h => List.mem_append_left _ (List.mem_append_left _ (List.mem_append_left _ (List.mem_append_left _ (List.mem_append_left _ (List.mem_append_left _ (List.mem_append_left _ (List.mem_append_left _ (List.mem_append_left _ (List.mem_append_left _ (List.mem_append_left _ (List.mem_append_left _ (List.mem_append_left _ (List.mem_append_right _ h)))))))))))))
theorem inlX12 : ∀ w ∈ wsX120, w ∈ wsL_law := fun _ h => List.mem_append_left _ (List.mem_append_left _ (List.mem_append_left _ (List.mem_append_left _ (List.mem_append_left _ (List.mem_append_left _ (List.mem_append_left _ (List.mem_append_left _ (List.mem_append_left _ (List.mem_append_left _ (List.mem_append_left _ (List.mem_append_left _ (List.mem_append_right _ h))))))))))))
theorem icX0 {c : Cond} : ∀ w ∈ wsX00, w ∈ c :: wsL_law := fun w h => List.mem_cons_of_mem _ (inlX0 w h)
theorem icX1 {c : Cond} : ∀ w ∈ wsX10, w ∈ c :: wsL_law := fun w h => List.mem_cons_of_mem _ (inlX1 w h)
theorem icX2 {c : Cond} : ∀ w ∈ wsX20, w ∈ c :: wsL_law := fun w h => List.mem_cons_of_mem _ (inlX2 w h)
theorem icX3 {c : Cond} : ∀ w ∈ wsX30, w ∈ c :: wsL_law := fun w h => List.mem_cons_of_mem _ (inlX3 w h)
theorem icX4 {c : Cond} : ∀ w ∈ wsX40, w ∈ c :: wsL_law := fun w h => List.mem_cons_of_mem _ (inlX4 w h)
theorem icX5 {c : Cond} : ∀ w ∈ wsX50, w ∈ c :: wsL_law := fun w h => List.mem_cons_of_mem _ (inlX5 w h)
theorem icX6 {c : Cond} : ∀ w ∈ wsX60, w ∈ c :: wsL_law := fun w h => List.mem_cons_of_mem _ (inlX6 w h)
theorem icX7 {c : Cond} : ∀ w ∈ wsX70, w ∈ c :: wsL_law := fun w h => List.mem_cons_of_mem _ (inlX7 w h)
theorem icX8 {c : Cond} : ∀ w ∈ wsX80, w ∈ c :: wsL_law := fun w h => List.mem_cons_of_mem _ (inlX8 w h)
theorem icX9 {c : Cond} : ∀ w ∈ wsX90, w ∈ c :: wsL_law := fun w h => List.mem_cons_of_mem _ (inlX9 w h)
theorem icX10 {c : Cond} : ∀ w ∈ wsX100, w ∈ c :: wsL_law := fun w h => List.mem_cons_of_mem _ (inlX10 w h)
theorem icX11 {c : Cond} : ∀ w ∈ wsX110, w ∈ c :: wsL_law := fun w h => List.mem_cons_of_mem _ (inlX11 w h)
theorem icX12 {c : Cond} : ∀ w ∈ wsX120, w ∈ c :: wsL_law := fun w h => List.mem_cons_of_mem _ (inlX12 w h)
set_option maxRecDepth 100000 in
theorem wsL_good : wsL_law.all goodWord = true := by decide +kernel
