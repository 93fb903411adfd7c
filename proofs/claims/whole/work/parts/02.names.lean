theorem goodIn_r {big : List Cond} (ws : List Cond) (ps : List Nat) (hp : ws = ps.filterMap (fun i => big[i]?)) (h : ws.all goodWord = true) : GoodIn big ws := by
  intro w hw
  have h1 := List.all_eq_true.mp h w hw
  rw [hp] at hw
  obtain ⟨i, -, hi⟩ := List.mem_filterMap.mp hw
  have hm : w ∈ big := by first | exact List.mem_of_getElem? hi | exact List.getElem?_mem hi
  exact ⟨hm, good_of_word h1⟩
theorem goodIn_app {big a b : List Cond} (ha : GoodIn big a) (hb : GoodIn big b) : GoodIn big (a ++ b) := fun w h => (List.mem_append.mp h).elim (ha w) (hb w)
theorem goodIn_ca {big a b : List Cond} {c : Cond} (ha : GoodIn big (c :: a)) (hb : GoodIn big b) : GoodIn big (c :: (a ++ b)) := fun w h => (List.mem_cons.mp h).elim (fun e => ha w (List.mem_cons.mpr (Or.inl e))) (fun h => (List.mem_append.mp h).elim (fun h => ha w (List.mem_cons.mpr (Or.inr h))) (hb w))
theorem goodIn_sub {big ws : List Cond} (hm : ∀ w ∈ ws, w ∈ big) (h : ws.all goodWord = true) : GoodIn big ws := fun w hw => ⟨hm w hw, good_of_word (List.all_eq_true.mp h w hw)⟩
def RX0 : String := "LabyrinthGarden$Garden"
def TX0 : u_T := fun k => match k with
  | 0 => ("LabyrinthGarden$Garden", "junctions", "I", false)
  | 1 => ("LabyrinthGarden$Garden", "paths", "I", false)
  | 2 => ("LabyrinthGarden$Garden", "places", "I", false)
  | 3 => ("LabyrinthGarden$Garden", "outs", "I", false)
  | 4 => ("LabyrinthGarden$Garden", "marks", "I", false)
  | 5 => ("LabyrinthGarden$Garden", "shuts", "I", false)
  | 6 => ("LabyrinthGarden$Garden", "beats", "I", false)
  | 7 => ("LabyrinthGarden$Garden", "gates", "[I", true)
  | 8 => ("LabyrinthGarden$Garden", "endsOf", "[I", true)
  | 9 => ("LabyrinthGarden$Garden", "firstPlaceOf", "[I", true)
  | 10 => ("LabyrinthGarden$Garden", "junctionAt", "[I", true)
  | 11 => ("LabyrinthGarden$Garden", "endAt", "[I", true)
  | 12 => ("LabyrinthGarden$Garden", "pathAt", "[I", true)
  | 13 => ("LabyrinthGarden$Garden", "otherOf", "[I", true)
  | 14 => ("LabyrinthGarden$Garden", "rings", "[I", true)
  | _ => ("LabyrinthGarden$Garden", "placeOfSide", "[I", true)
def tyX0 : Nat → FieldType := fun k => match k with
  | 0 => .int
  | 1 => .int
  | 2 => .int
  | 3 => .int
  | 4 => .int
  | 5 => .int
  | 6 => .int
  | 7 => .array .int
  | 8 => .array .int
  | 9 => .array .int
  | 10 => .array .int
  | 11 => .array .int
  | 12 => .array .int
  | 13 => .array .int
  | 14 => .array .int
  | _ => .array .int
abbrev wsX00 : List Cond := u_ws RX0 TX0 16
theorem nmX0 : ∀ a, a < 16 → ∀ b, b < 16 → a ≠ b → (TX0 a).2.1 ≠ (TX0 b).2.1 := by decide +kernel
theorem tyX0_ok : ∀ k, k < 16 → parseFieldDescriptor (TX0 k).2.2.1 = some (tyX0 k) := by decide +kernel
abbrev cX0_init : ByteArray := prog_2_method_1_code
def yX0_init : MethodName := ⟨RX0, "<init>", "()V"⟩
abbrev cX0_clear : ByteArray := prog_2_method_2_code
def yX0_clear : MethodName := ⟨RX0, "clear", "()V"⟩
abbrev cX0_hasJunction : ByteArray := prog_2_method_3_code
def yX0_hasJunction : MethodName := ⟨RX0, "hasJunction", "(I)Z"⟩
abbrev cX0_hasPath : ByteArray := prog_2_method_4_code
def yX0_hasPath : MethodName := ⟨RX0, "hasPath", "(I)Z"⟩
abbrev cX0_hasPlace : ByteArray := prog_2_method_5_code
def yX0_hasPlace : MethodName := ⟨RX0, "hasPlace", "(I)Z"⟩
abbrev cX0_placeOf : ByteArray := prog_2_method_6_code
def yX0_placeOf : MethodName := ⟨RX0, "placeOf", "(II)I"⟩
abbrev cX0_addJunction : ByteArray := prog_2_method_7_code
def yX0_addJunction : MethodName := ⟨RX0, "addJunction", "(Z)I"⟩
abbrev cX0_addPath : ByteArray := prog_2_method_8_code
def yX0_addPath : MethodName := ⟨RX0, "addPath", "(II)I"⟩
abbrev cX0_addEnd : ByteArray := prog_2_method_9_code
def yX0_addEnd : MethodName := ⟨RX0, "addEnd", "(II)V"⟩
abbrev cX0_numberPlaces : ByteArray := prog_2_method_10_code
def yX0_numberPlaces : MethodName := ⟨RX0, "numberPlaces", "()V"⟩
abbrev cX0_endsAt : ByteArray := prog_2_method_11_code
def yX0_endsAt : MethodName := ⟨RX0, "endsAt", "(I)I"⟩
abbrev cX0_beyond : ByteArray := prog_2_method_12_code
def yX0_beyond : MethodName := ⟨RX0, "beyond", "(II)I"⟩
abbrev cX0_placesWithEnds : ByteArray := prog_2_method_13_code
def yX0_placesWithEnds : MethodName := ⟨RX0, "placesWithEnds", "(I)I"⟩
abbrev cX0_placesOfPaths : ByteArray := prog_2_method_14_code
def yX0_placesOfPaths : MethodName := ⟨RX0, "placesOfPaths", "(I)I"⟩
abbrev cX0_placesOpenAt : ByteArray := prog_2_method_15_code
def yX0_placesOpenAt : MethodName := ⟨RX0, "placesOpenAt", "(I)I"⟩
def RX1 : String := "LabyrinthGarden$Helper"
def TX1 : u_T := fun k => match k with
  | 0 => ("LabyrinthGarden$Helper", "kept", "[I", true)
  | 1 => ("LabyrinthGarden$Helper", "keptCount", "I", false)
  | 2 => ("LabyrinthGarden$Helper", "garden", "LLabyrinthGarden$Garden;", true)
  | 3 => ("LabyrinthGarden$Helper", "walker", "LLabyrinthGarden$Walker;", true)
  | _ => ("LabyrinthGarden$Helper", "lostLately", "I", false)
def tyX1 : Nat → FieldType := fun k => match k with
  | 0 => .array .int
  | 1 => .int
  | 2 => .object "LabyrinthGarden$Garden"
  | 3 => .object "LabyrinthGarden$Walker"
  | _ => .int
abbrev wsX10 : List Cond := u_ws RX1 TX1 5
theorem nmX1 : ∀ a, a < 5 → ∀ b, b < 5 → a ≠ b → (TX1 a).2.1 ≠ (TX1 b).2.1 := by decide +kernel
theorem tyX1_ok : ∀ k, k < 5 → parseFieldDescriptor (TX1 k).2.2.1 = some (tyX1 k) := by decide +kernel
abbrev cX1_init : ByteArray := prog_3_method_1_code
def yX1_init : MethodName := ⟨RX1, "<init>", "(LLabyrinthGarden$Garden;LLabyrinthGarden$Walker;)V"⟩
abbrev cX1_seek : ByteArray := prog_3_method_2_code
def yX1_seek : MethodName := ⟨RX1, "seek", "(I)I"⟩
abbrev cX1_keep : ByteArray := prog_3_method_3_code
def yX1_keep : MethodName := ⟨RX1, "keep", "(III)I"⟩
abbrev cX1_saves : ByteArray := prog_3_method_4_code
def yX1_saves : MethodName := ⟨RX1, "saves", "(II)Z"⟩
abbrev cX1_nobodyIsLost : ByteArray := prog_3_method_5_code
def yX1_nobodyIsLost : MethodName := ⟨RX1, "nobodyIsLost", "(II)Z"⟩
def RX2 : String := "LabyrinthGarden$Homer"
def TX2 : u_T := fun k => match k with
  | 0 => ("LabyrinthGarden$Homer", "kept", "[I", true)
  | 1 => ("LabyrinthGarden$Homer", "keptCount", "I", false)
  | 2 => ("LabyrinthGarden$Homer", "garden", "LLabyrinthGarden$Garden;", true)
  | 3 => ("LabyrinthGarden$Homer", "turnsToTry", "I", false)
  | 4 => ("LabyrinthGarden$Homer", "beyond", "[I", true)
  | 5 => ("LabyrinthGarden$Homer", "turns", "[I", true)
  | 6 => ("LabyrinthGarden$Homer", "twins", "[I", true)
  | 7 => ("LabyrinthGarden$Homer", "at", "[I", true)
  | 8 => ("LabyrinthGarden$Homer", "alike", "[I", true)
  | 9 => ("LabyrinthGarden$Homer", "unsure", "[I", true)
  | _ => ("LabyrinthGarden$Homer", "seen", "[I", true)
def tyX2 : Nat → FieldType := fun k => match k with
  | 0 => .array .int
  | 1 => .int
  | 2 => .object "LabyrinthGarden$Garden"
  | 3 => .int
  | 4 => .array .int
  | 5 => .array .int
  | 6 => .array .int
  | 7 => .array .int
  | 8 => .array .int
  | 9 => .array .int
  | _ => .array .int
abbrev wsX20 : List Cond := u_ws RX2 TX2 11
theorem nmX2 : ∀ a, a < 11 → ∀ b, b < 11 → a ≠ b → (TX2 a).2.1 ≠ (TX2 b).2.1 := by decide +kernel
theorem tyX2_ok : ∀ k, k < 11 → parseFieldDescriptor (TX2 k).2.2.1 = some (tyX2 k) := by decide +kernel
abbrev cX2_init : ByteArray := prog_4_method_1_code
def yX2_init : MethodName := ⟨RX2, "<init>", "(LLabyrinthGarden$Garden;)V"⟩
abbrev cX2_seek : ByteArray := prog_4_method_2_code
def yX2_seek : MethodName := ⟨RX2, "seek", "()I"⟩
abbrev cX2_chooseTurns : ByteArray := prog_4_method_3_code
def yX2_chooseTurns : MethodName := ⟨RX2, "chooseTurns", "()V"⟩
abbrev cX2_allEndsDivide : ByteArray := prog_4_method_4_code
def yX2_allEndsDivide : MethodName := ⟨RX2, "allEndsDivide", "(I)Z"⟩
abbrev cX2_leastTurns : ByteArray := prog_4_method_5_code
def yX2_leastTurns : MethodName := ⟨RX2, "leastTurns", "()I"⟩
abbrev cX2_hasTwins : ByteArray := prog_4_method_6_code
def yX2_hasTwins : MethodName := ⟨RX2, "hasTwins", "(I)Z"⟩
abbrev cX2_partTwins : ByteArray := prog_4_method_7_code
def yX2_partTwins : MethodName := ⟨RX2, "partTwins", "(I)V"⟩
abbrev cX2_anyTurnParts : ByteArray := prog_4_method_8_code
def yX2_anyTurnParts : MethodName := ⟨RX2, "anyTurnParts", "(III)Z"⟩
abbrev cX2_begin : ByteArray := prog_4_method_9_code
def yX2_begin : MethodName := ⟨RX2, "begin", "()V"⟩
abbrev cX2_tellsWith : ByteArray := prog_4_method_10_code
def yX2_tellsWith : MethodName := ⟨RX2, "tellsWith", "(I)Z"⟩
abbrev cX2_isHopeless : ByteArray := prog_4_method_11_code
def yX2_isHopeless : MethodName := ⟨RX2, "isHopeless", "(II)Z"⟩
abbrev cX2_meetsTwin : ByteArray := prog_4_method_12_code
def yX2_meetsTwin : MethodName := ⟨RX2, "meetsTwin", "(III)Z"⟩
abbrev cX2_nextTale : ByteArray := prog_4_method_13_code
def yX2_nextTale : MethodName := ⟨RX2, "nextTale", "(I)I"⟩
abbrev cX2_makeTurn : ByteArray := prog_4_method_14_code
def yX2_makeTurn : MethodName := ⟨RX2, "makeTurn", "(I)V"⟩
def RX3 : String := "LabyrinthGarden$Reader"
def TX3 : u_T := fun k => match k with
  | 0 => ("LabyrinthGarden$Reader", "fault", "I", false)
  | 1 => ("LabyrinthGarden$Reader", "faultAt", "I", false)
  | 2 => ("LabyrinthGarden$Reader", "text", "[I", true)
  | 3 => ("LabyrinthGarden$Reader", "length", "I", false)
  | 4 => ("LabyrinthGarden$Reader", "position", "I", false)
  | 5 => ("LabyrinthGarden$Reader", "token", "I", false)
  | 6 => ("LabyrinthGarden$Reader", "tokenAt", "I", false)
  | 7 => ("LabyrinthGarden$Reader", "tokenValue", "I", false)
  | 8 => ("LabyrinthGarden$Reader", "meant", "[I", true)
  | 9 => ("LabyrinthGarden$Reader", "meantAt", "[I", true)
  | _ => ("LabyrinthGarden$Reader", "meantCount", "I", false)
def tyX3 : Nat → FieldType := fun k => match k with
  | 0 => .int
  | 1 => .int
  | 2 => .array .int
  | 3 => .int
  | 4 => .int
  | 5 => .int
  | 6 => .int
  | 7 => .int
  | 8 => .array .int
  | 9 => .array .int
  | _ => .int
abbrev wsX30 : List Cond := u_ws RX3 TX3 11
theorem nmX3 : ∀ a, a < 11 → ∀ b, b < 11 → a ≠ b → (TX3 a).2.1 ≠ (TX3 b).2.1 := by decide +kernel
theorem tyX3_ok : ∀ k, k < 11 → parseFieldDescriptor (TX3 k).2.2.1 = some (tyX3 k) := by decide +kernel
abbrev cX3_init : ByteArray := prog_5_method_1_code
def yX3_init : MethodName := ⟨RX3, "<init>", "(LLabyrinthGarden$Tape;)V"⟩
abbrev cX3_read : ByteArray := prog_5_method_2_code
def yX3_read : MethodName := ⟨RX3, "read", "(ILLabyrinthGarden$Rules;)V"⟩
abbrev cX3_readLine : ByteArray := prog_5_method_3_code
def yX3_readLine : MethodName := ⟨RX3, "readLine", "(LLabyrinthGarden$Rules;)Z"⟩
abbrev cX3_readAct : ByteArray := prog_5_method_4_code
def yX3_readAct : MethodName := ⟨RX3, "readAct", "(LLabyrinthGarden$Rules;I)Z"⟩
abbrev cX3_findNotTold : ByteArray := prog_5_method_5_code
def yX3_findNotTold : MethodName := ⟨RX3, "findNotTold", "(LLabyrinthGarden$Rules;)V"⟩
abbrev cX3_fail : ByteArray := prog_5_method_6_code
def yX3_fail : MethodName := ⟨RX3, "fail", "(II)V"⟩
abbrev cX3_takes : ByteArray := prog_5_method_7_code
def yX3_takes : MethodName := ⟨RX3, "takes", "(I)Z"⟩
abbrev cX3_takeNumber : ByteArray := prog_5_method_8_code
def yX3_takeNumber : MethodName := ⟨RX3, "takeNumber", "()V"⟩
abbrev cX3_takeLetters : ByteArray := prog_5_method_9_code
def yX3_takeLetters : MethodName := ⟨RX3, "takeLetters", "()V"⟩
abbrev cX3_takeDeed : ByteArray := prog_5_method_10_code
def yX3_takeDeed : MethodName := ⟨RX3, "takeDeed", "(I)V"⟩
abbrev cX3_signOf : ByteArray := prog_5_method_11_code
def yX3_signOf : MethodName := ⟨RX3, "signOf", "(I)I"⟩
abbrev cX3_isBlank : ByteArray := prog_5_method_12_code
def yX3_isBlank : MethodName := ⟨RX3, "isBlank", "(I)Z"⟩
abbrev cX3_isDigit : ByteArray := prog_5_method_13_code
def yX3_isDigit : MethodName := ⟨RX3, "isDigit", "(I)Z"⟩
abbrev cX3_isLetter : ByteArray := prog_5_method_14_code
def yX3_isLetter : MethodName := ⟨RX3, "isLetter", "(I)Z"⟩
def RX4 : String := "LabyrinthGarden$Report"
def TX4 : u_T := fun k => match k with
  | _ => ("LabyrinthGarden$Report", "rows", "[I", true)
def tyX4 : Nat → FieldType := fun k => match k with
  | _ => .array .int
abbrev wsX40 : List Cond := u_ws RX4 TX4 1
theorem nmX4 : ∀ a, a < 1 → ∀ b, b < 1 → a ≠ b → (TX4 a).2.1 ≠ (TX4 b).2.1 := by decide +kernel
theorem tyX4_ok : ∀ k, k < 1 → parseFieldDescriptor (TX4 k).2.2.1 = some (tyX4 k) := by decide +kernel
abbrev cX4_init : ByteArray := prog_6_method_1_code
def yX4_init : MethodName := ⟨RX4, "<init>", "()V"⟩
abbrev cX4_take : ByteArray := prog_6_method_2_code
def yX4_take : MethodName := ⟨RX4, "take", "(LLabyrinthGarden$Walker;Z)I"⟩
def RX5 : String := "LabyrinthGarden$Rules"
def TX5 : u_T := fun k => match k with
  | 0 => ("LabyrinthGarden$Rules", "number", "[I", true)
  | 1 => ("LabyrinthGarden$Rules", "deed", "[I", true)
  | 2 => ("LabyrinthGarden$Rules", "next", "[I", true)
  | 3 => ("LabyrinthGarden$Rules", "lines", "I", false)
  | 4 => ("LabyrinthGarden$Rules", "firstState", "I", false)
  | 5 => ("LabyrinthGarden$Rules", "told", "I", false)
  | _ => ("LabyrinthGarden$Rules", "forked", "I", false)
def tyX5 : Nat → FieldType := fun k => match k with
  | 0 => .array .int
  | 1 => .array .int
  | 2 => .array .int
  | 3 => .int
  | 4 => .int
  | 5 => .int
  | _ => .int
abbrev wsX50 : List Cond := u_ws RX5 TX5 7
theorem nmX5 : ∀ a, a < 7 → ∀ b, b < 7 → a ≠ b → (TX5 a).2.1 ≠ (TX5 b).2.1 := by decide +kernel
theorem tyX5_ok : ∀ k, k < 7 → parseFieldDescriptor (TX5 k).2.2.1 = some (tyX5 k) := by decide +kernel
abbrev cX5_init : ByteArray := prog_7_method_1_code
def yX5_init : MethodName := ⟨RX5, "<init>", "()V"⟩
abbrev cX5_clear : ByteArray := prog_7_method_2_code
def yX5_clear : MethodName := ⟨RX5, "clear", "()V"⟩
abbrev cX5_addLine : ByteArray := prog_7_method_3_code
def yX5_addLine : MethodName := ⟨RX5, "addLine", "(I)V"⟩
abbrev cX5_actOf : ByteArray := prog_7_method_4_code
def yX5_actOf : MethodName := ⟨RX5, "actOf", "(IZ)I"⟩
abbrev cX5_marksAfter : ByteArray := prog_7_method_5_code
def yX5_marksAfter : MethodName := ⟨RX5, "marksAfter", "(III)I"⟩
def RX6 : String := "LabyrinthGarden$Tale"
def TX6 : u_T := fun k => match k with
  | 0 => ("LabyrinthGarden$Tale", "here", "I", false)
  | 1 => ("LabyrinthGarden$Tale", "turns", "I", false)
  | _ => ("LabyrinthGarden$Tale", "garden", "LLabyrinthGarden$Garden;", true)
def tyX6 : Nat → FieldType := fun k => match k with
  | 0 => .int
  | 1 => .int
  | _ => .object "LabyrinthGarden$Garden"
abbrev wsX60 : List Cond := u_ws RX6 TX6 3
theorem nmX6 : ∀ a, a < 3 → ∀ b, b < 3 → a ≠ b → (TX6 a).2.1 ≠ (TX6 b).2.1 := by decide +kernel
theorem tyX6_ok : ∀ k, k < 3 → parseFieldDescriptor (TX6 k).2.2.1 = some (tyX6 k) := by decide +kernel
abbrev cX6_init : ByteArray := prog_8_method_1_code
def yX6_init : MethodName := ⟨RX6, "<init>", "(LLabyrinthGarden$Garden;)V"⟩
abbrev cX6_forget : ByteArray := prog_8_method_2_code
def yX6_forget : MethodName := ⟨RX6, "forget", "()V"⟩
abbrev cX6_canGoOn : ByteArray := prog_8_method_3_code
def yX6_canGoOn : MethodName := ⟨RX6, "canGoOn", "()Z"⟩
abbrev cX6_begin : ByteArray := prog_8_method_4_code
def yX6_begin : MethodName := ⟨RX6, "begin", "(I)V"⟩
abbrev cX6_goOn : ByteArray := prog_8_method_5_code
def yX6_goOn : MethodName := ⟨RX6, "goOn", "(II)V"⟩
def RX7 : String := "LabyrinthGarden$Tape"
def TX7 : u_T := fun k => match k with
  | 0 => ("LabyrinthGarden$Tape", "bytes", "[I", true)
  | _ => ("LabyrinthGarden$Tape", "size", "I", false)
def tyX7 : Nat → FieldType := fun k => match k with
  | 0 => .array .int
  | _ => .int
abbrev wsX70 : List Cond := u_ws RX7 TX7 2
theorem nmX7 : ∀ a, a < 2 → ∀ b, b < 2 → a ≠ b → (TX7 a).2.1 ≠ (TX7 b).2.1 := by decide +kernel
theorem tyX7_ok : ∀ k, k < 2 → parseFieldDescriptor (TX7 k).2.2.1 = some (tyX7 k) := by decide +kernel
abbrev cX7_init : ByteArray := prog_9_method_1_code
def yX7_init : MethodName := ⟨RX7, "<init>", "()V"⟩
abbrev cX7_hasRoom : ByteArray := prog_9_method_2_code
def yX7_hasRoom : MethodName := ⟨RX7, "hasRoom", "()Z"⟩
abbrev cX7_add : ByteArray := prog_9_method_3_code
def yX7_add : MethodName := ⟨RX7, "add", "(I)V"⟩
def RX8 : String := "LabyrinthGarden$Walker"
def TX8 : u_T := fun k => match k with
  | 0 => ("LabyrinthGarden$Walker", "history", "[I", true)
  | 1 => ("LabyrinthGarden$Walker", "last", "I", false)
  | 2 => ("LabyrinthGarden$Walker", "garden", "LLabyrinthGarden$Garden;", true)
  | 3 => ("LabyrinthGarden$Walker", "openAt", "[I", true)
  | _ => ("LabyrinthGarden$Walker", "rules", "LLabyrinthGarden$Rules;", false)
def tyX8 : Nat → FieldType := fun k => match k with
  | 0 => .array .int
  | 1 => .int
  | 2 => .object "LabyrinthGarden$Garden"
  | 3 => .array .int
  | _ => .object "LabyrinthGarden$Rules"
abbrev wsX80 : List Cond := u_ws RX8 TX8 5
theorem nmX8 : ∀ a, a < 5 → ∀ b, b < 5 → a ≠ b → (TX8 a).2.1 ≠ (TX8 b).2.1 := by decide +kernel
theorem tyX8_ok : ∀ k, k < 5 → parseFieldDescriptor (TX8 k).2.2.1 = some (tyX8 k) := by decide +kernel
abbrev cX8_init : ByteArray := prog_10_method_1_code
def yX8_init : MethodName := ⟨RX8, "<init>", "(LLabyrinthGarden$Garden;LLabyrinthGarden$Rules;)V"⟩
abbrev cX8_prepare : ByteArray := prog_10_method_2_code
def yX8_prepare : MethodName := ⟨RX8, "prepare", "(LLabyrinthGarden$Rules;)V"⟩
abbrev cX8_comesOut : ByteArray := prog_10_method_3_code
def yX8_comesOut : MethodName := ⟨RX8, "comesOut", "(III)Z"⟩
abbrev cX8_placeBehind : ByteArray := prog_10_method_4_code
def yX8_placeBehind : MethodName := ⟨RX8, "placeBehind", "(III)I"⟩
abbrev cX8_lap : ByteArray := prog_10_method_5_code
def yX8_lap : MethodName := ⟨RX8, "lap", "()I"⟩
abbrev cX8_lead : ByteArray := prog_10_method_6_code
def yX8_lead : MethodName := ⟨RX8, "lead", "(I)I"⟩
def RX9 : String := "LabyrinthGarden"
def TX9 : u_T := fun k => match k with
  | 0 => ("LabyrinthGarden", "tape", "LLabyrinthGarden$Tape;", true)
  | 1 => ("LabyrinthGarden", "reader", "LLabyrinthGarden$Reader;", true)
  | 2 => ("LabyrinthGarden", "garden", "LLabyrinthGarden$Garden;", true)
  | 3 => ("LabyrinthGarden", "walker", "LLabyrinthGarden$Walker;", true)
  | 4 => ("LabyrinthGarden", "report", "LLabyrinthGarden$Report;", true)
  | 5 => ("LabyrinthGarden", "helper", "LLabyrinthGarden$Helper;", true)
  | 6 => ("LabyrinthGarden", "story", "LLabyrinthGarden$Tale;", true)
  | 7 => ("LabyrinthGarden", "homer", "LLabyrinthGarden$Homer;", true)
  | 8 => ("LabyrinthGarden", "rulesInUse", "LLabyrinthGarden$Rules;", false)
  | _ => ("LabyrinthGarden", "rulesToFill", "LLabyrinthGarden$Rules;", false)
def tyX9 : Nat → FieldType := fun k => match k with
  | 0 => .object "LabyrinthGarden$Tape"
  | 1 => .object "LabyrinthGarden$Reader"
  | 2 => .object "LabyrinthGarden$Garden"
  | 3 => .object "LabyrinthGarden$Walker"
  | 4 => .object "LabyrinthGarden$Report"
  | 5 => .object "LabyrinthGarden$Helper"
  | 6 => .object "LabyrinthGarden$Tale"
  | 7 => .object "LabyrinthGarden$Homer"
  | 8 => .object "LabyrinthGarden$Rules"
  | _ => .object "LabyrinthGarden$Rules"
abbrev wsX90 : List Cond := u_ws RX9 TX9 10
theorem nmX9 : ∀ a, a < 10 → ∀ b, b < 10 → a ≠ b → (TX9 a).2.1 ≠ (TX9 b).2.1 := by decide +kernel
theorem tyX9_ok : ∀ k, k < 10 → parseFieldDescriptor (TX9 k).2.2.1 = some (tyX9 k) := by decide +kernel
abbrev cX9_init : ByteArray := prog_1_method_1_code
def yX9_init : MethodName := ⟨RX9, "<init>", "()V"⟩
abbrev cX9_feed : ByteArray := prog_1_method_2_code
def yX9_feed : MethodName := ⟨RX9, "feed", "(IIIII)I"⟩
abbrev cX9_rules : ByteArray := prog_1_method_3_code
def yX9_rules : MethodName := ⟨RX9, "rules", "(I)I"⟩
abbrev cX9_fault : ByteArray := prog_1_method_4_code
def yX9_fault : MethodName := ⟨RX9, "fault", "(I)I"⟩
abbrev cX9_anew : ByteArray := prog_1_method_5_code
def yX9_anew : MethodName := ⟨RX9, "anew", "()V"⟩
abbrev cX9_junction : ByteArray := prog_1_method_6_code
def yX9_junction : MethodName := ⟨RX9, "junction", "(Z)I"⟩
abbrev cX9_path : ByteArray := prog_1_method_7_code
def yX9_path : MethodName := ⟨RX9, "path", "(II)I"⟩
abbrev cX9_mark : ByteArray := prog_1_method_8_code
def yX9_mark : MethodName := ⟨RX9, "mark", "(IZ)Z"⟩
abbrev cX9_period : ByteArray := prog_1_method_9_code
def yX9_period : MethodName := ⟨RX9, "period", "(I)Z"⟩
abbrev cX9_gate : ByteArray := prog_1_method_10_code
def yX9_gate : MethodName := ⟨RX9, "gate", "(II)Z"⟩
abbrev cX9_shut : ByteArray := prog_1_method_11_code
def yX9_shut : MethodName := ⟨RX9, "shut", "(IZ)Z"⟩
abbrev cX9_place : ByteArray := prog_1_method_12_code
def yX9_place : MethodName := ⟨RX9, "place", "(II)I"⟩
abbrev cX9_walk : ByteArray := prog_1_method_13_code
def yX9_walk : MethodName := ⟨RX9, "walk", "(I)I"⟩
abbrev cX9_walked : ByteArray := prog_1_method_14_code
def yX9_walked : MethodName := ⟨RX9, "walked", "(I)I"⟩
abbrev cX9_lost : ByteArray := prog_1_method_15_code
def yX9_lost : MethodName := ⟨RX9, "lost", "()J"⟩
abbrev cX9_help : ByteArray := prog_1_method_16_code
def yX9_help : MethodName := ⟨RX9, "help", "(I)I"⟩
abbrev cX9_helped : ByteArray := prog_1_method_17_code
def yX9_helped : MethodName := ⟨RX9, "helped", "(I)I"⟩
abbrev cX9_tale : ByteArray := prog_1_method_18_code
def yX9_tale : MethodName := ⟨RX9, "tale", "(I)J"⟩
abbrev cX9_turn : ByteArray := prog_1_method_19_code
def yX9_turn : MethodName := ⟨RX9, "turn", "(II)J"⟩
abbrev cX9_home : ByteArray := prog_1_method_20_code
def yX9_home : MethodName := ⟨RX9, "home", "()I"⟩
abbrev cX9_homing : ByteArray := prog_1_method_21_code
def yX9_homing : MethodName := ⟨RX9, "homing", "(I)I"⟩
abbrev cX9_look : ByteArray := prog_1_method_22_code
def yX9_look : MethodName := ⟨RX9, "look", "(II)I"⟩
abbrev cX9_count : ByteArray := prog_1_method_23_code
def yX9_count : MethodName := ⟨RX9, "count", "(I)I"⟩
abbrev cX9_isSeeable : ByteArray := prog_1_method_24_code
def yX9_isSeeable : MethodName := ⟨RX9, "isSeeable", "(I)Z"⟩
abbrev cX9_withBit : ByteArray := prog_1_method_25_code
def yX9_withBit : MethodName := ⟨RX9, "withBit", "(IIZ)I"⟩
abbrev cX9_hasBit : ByteArray := prog_1_method_26_code
def yX9_hasBit : MethodName := ⟨RX9, "hasBit", "(II)Z"⟩
def RX10 : String := "LabyrinthGardenModel"
def TX10 : u_T := fun k => match k with
  | 0 => ("LabyrinthGardenModel", "tape", "[I", true)
  | 1 => ("LabyrinthGardenModel", "tapeSize", "I", false)
  | 2 => ("LabyrinthGardenModel", "thrown", "I", false)
  | 3 => ("LabyrinthGardenModel", "fault", "I", false)
  | 4 => ("LabyrinthGardenModel", "faultPlace", "I", false)
  | 5 => ("LabyrinthGardenModel", "lines", "I", false)
  | 6 => ("LabyrinthGardenModel", "first", "I", false)
  | 7 => ("LabyrinthGardenModel", "act", "[I", true)
  | 8 => ("LabyrinthGardenModel", "junctions", "I", false)
  | 9 => ("LabyrinthGardenModel", "out", "[Z", true)
  | 10 => ("LabyrinthGardenModel", "marked", "[Z", true)
  | 11 => ("LabyrinthGardenModel", "paths", "I", false)
  | 12 => ("LabyrinthGardenModel", "end", "[I", true)
  | 13 => ("LabyrinthGardenModel", "gate", "[I", true)
  | 14 => ("LabyrinthGardenModel", "isShut", "[Z", true)
  | 15 => ("LabyrinthGardenModel", "period", "I", false)
  | 16 => ("LabyrinthGardenModel", "places", "I", false)
  | 17 => ("LabyrinthGardenModel", "at", "[I", true)
  | 18 => ("LabyrinthGardenModel", "ends", "[I", true)
  | 19 => ("LabyrinthGardenModel", "placeOf", "[I", true)
  | 20 => ("LabyrinthGardenModel", "size", "[I", true)
  | 21 => ("LabyrinthGardenModel", "base", "[I", true)
  | 22 => ("LabyrinthGardenModel", "words", "[I", true)
  | 23 => ("LabyrinthGardenModel", "stop", "I", false)
  | 24 => ("LabyrinthGardenModel", "next", "I", false)
  | 25 => ("LabyrinthGardenModel", "kind", "I", false)
  | 26 => ("LabyrinthGardenModel", "which", "I", false)
  | 27 => ("LabyrinthGardenModel", "token", "I", false)
  | 28 => ("LabyrinthGardenModel", "named", "I", false)
  | 29 => ("LabyrinthGardenModel", "namedState", "[I", true)
  | 30 => ("LabyrinthGardenModel", "namedPlace", "[I", true)
  | 31 => ("LabyrinthGardenModel", "told", "[Z", true)
  | 32 => ("LabyrinthGardenModel", "readLines", "I", false)
  | 33 => ("LabyrinthGardenModel", "readFirst", "I", false)
  | 34 => ("LabyrinthGardenModel", "was", "[I", true)
  | 35 => ("LabyrinthGardenModel", "beatOf", "[I", true)
  | 36 => ("LabyrinthGardenModel", "lies", "[Z", true)
  | 37 => ("LabyrinthGardenModel", "where", "I", false)
  | 38 => ("LabyrinthGardenModel", "state", "I", false)
  | 39 => ("LabyrinthGardenModel", "beat", "I", false)
  | 40 => ("LabyrinthGardenModel", "lead", "I", false)
  | 41 => ("LabyrinthGardenModel", "lap", "I", false)
  | 42 => ("LabyrinthGardenModel", "many", "I", false)
  | 43 => ("LabyrinthGardenModel", "isWalk", "Z", false)
  | 44 => ("LabyrinthGardenModel", "walkTold", "[I", true)
  | 45 => ("LabyrinthGardenModel", "helpMany", "I", false)
  | 46 => ("LabyrinthGardenModel", "helps", "[I", true)
  | 47 => ("LabyrinthGardenModel", "helpTold", "[I", true)
  | 48 => ("LabyrinthGardenModel", "taleMany", "I", false)
  | 49 => ("LabyrinthGardenModel", "here", "J", false)
  | 50 => ("LabyrinthGardenModel", "homeMany", "I", false)
  | 51 => ("LabyrinthGardenModel", "homeTold", "[I", true)
  | 52 => ("LabyrinthGardenModel", "tries", "[I", true)
  | 53 => ("LabyrinthGardenModel", "now", "[I", true)
  | _ => ("LabyrinthGardenModel", "sight", "[I", true)
def tyX10 : Nat → FieldType := fun k => match k with
  | 0 => .array .int
  | 1 => .int
  | 2 => .int
  | 3 => .int
  | 4 => .int
  | 5 => .int
  | 6 => .int
  | 7 => .array .int
  | 8 => .int
  | 9 => .array .boolean
  | 10 => .array .boolean
  | 11 => .int
  | 12 => .array .int
  | 13 => .array .int
  | 14 => .array .boolean
  | 15 => .int
  | 16 => .int
  | 17 => .array .int
  | 18 => .array .int
  | 19 => .array .int
  | 20 => .array .int
  | 21 => .array .int
  | 22 => .array .int
  | 23 => .int
  | 24 => .int
  | 25 => .int
  | 26 => .int
  | 27 => .int
  | 28 => .int
  | 29 => .array .int
  | 30 => .array .int
  | 31 => .array .boolean
  | 32 => .int
  | 33 => .int
  | 34 => .array .int
  | 35 => .array .int
  | 36 => .array .boolean
  | 37 => .int
  | 38 => .int
  | 39 => .int
  | 40 => .int
  | 41 => .int
  | 42 => .int
  | 43 => .boolean
  | 44 => .array .int
  | 45 => .int
  | 46 => .array .int
  | 47 => .array .int
  | 48 => .int
  | 49 => .long
  | 50 => .int
  | 51 => .array .int
  | 52 => .array .int
  | 53 => .array .int
  | _ => .array .int
abbrev wsX100 : List Cond := u_ws RX10 TX10 55
theorem nmX10 : ∀ a, a < 55 → ∀ b, b < 55 → a ≠ b → (TX10 a).2.1 ≠ (TX10 b).2.1 := by decide +kernel
theorem tyX10_ok : ∀ k, k < 55 → parseFieldDescriptor (TX10 k).2.2.1 = some (tyX10 k) := by decide +kernel
abbrev cX10_init : ByteArray := prog_12_method_1_code
def yX10_init : MethodName := ⟨RX10, "<init>", "()V"⟩
abbrev cX10_thrown : ByteArray := prog_12_method_2_code
def yX10_thrown : MethodName := ⟨RX10, "thrown", "()I"⟩
abbrev cX10_feed : ByteArray := prog_12_method_3_code
def yX10_feed : MethodName := ⟨RX10, "feed", "(IIIII)I"⟩
abbrev cX10_wrong : ByteArray := prog_12_method_4_code
def yX10_wrong : MethodName := ⟨RX10, "wrong", "(II)Z"⟩
abbrev cX10_wordAt : ByteArray := prog_12_method_5_code
def yX10_wordAt : MethodName := ⟨RX10, "wordAt", "(II)I"⟩
abbrev cX10_isSmall : ByteArray := prog_12_method_6_code
def yX10_isSmall : MethodName := ⟨RX10, "isSmall", "(I)Z"⟩
abbrev cX10_isDigit : ByteArray := prog_12_method_7_code
def yX10_isDigit : MethodName := ⟨RX10, "isDigit", "(I)Z"⟩
abbrev cX10_take : ByteArray := prog_12_method_8_code
def yX10_take : MethodName := ⟨RX10, "take", "()V"⟩
abbrev cX10_sign : ByteArray := prog_12_method_9_code
def yX10_sign : MethodName := ⟨RX10, "sign", "(I)Z"⟩
abbrev cX10_actAt : ByteArray := prog_12_method_10_code
def yX10_actAt : MethodName := ⟨RX10, "actAt", "(I)Z"⟩
abbrev cX10_line : ByteArray := prog_12_method_11_code
def yX10_line : MethodName := ⟨RX10, "line", "()Z"⟩
abbrev cX10_rules : ByteArray := prog_12_method_12_code
def yX10_rules : MethodName := ⟨RX10, "rules", "(I)I"⟩
abbrev cX10_fault : ByteArray := prog_12_method_13_code
def yX10_fault : MethodName := ⟨RX10, "fault", "(I)I"⟩
abbrev cX10_number : ByteArray := prog_12_method_14_code
def yX10_number : MethodName := ⟨RX10, "number", "()V"⟩
abbrev cX10_anew : ByteArray := prog_12_method_15_code
def yX10_anew : MethodName := ⟨RX10, "anew", "()V"⟩
abbrev cX10_junction : ByteArray := prog_12_method_16_code
def yX10_junction : MethodName := ⟨RX10, "junction", "(Z)I"⟩
abbrev cX10_isJunction : ByteArray := prog_12_method_17_code
def yX10_isJunction : MethodName := ⟨RX10, "isJunction", "(I)Z"⟩
abbrev cX10_isPath : ByteArray := prog_12_method_18_code
def yX10_isPath : MethodName := ⟨RX10, "isPath", "(I)Z"⟩
abbrev cX10_isPlace : ByteArray := prog_12_method_19_code
def yX10_isPlace : MethodName := ⟨RX10, "isPlace", "(I)Z"⟩
abbrev cX10_path : ByteArray := prog_12_method_20_code
def yX10_path : MethodName := ⟨RX10, "path", "(II)I"⟩
abbrev cX10_mark : ByteArray := prog_12_method_21_code
def yX10_mark : MethodName := ⟨RX10, "mark", "(IZ)Z"⟩
abbrev cX10_period : ByteArray := prog_12_method_22_code
def yX10_period : MethodName := ⟨RX10, "period", "(I)Z"⟩
abbrev cX10_gate : ByteArray := prog_12_method_23_code
def yX10_gate : MethodName := ⟨RX10, "gate", "(II)Z"⟩
abbrev cX10_shut : ByteArray := prog_12_method_24_code
def yX10_shut : MethodName := ⟨RX10, "shut", "(IZ)Z"⟩
abbrev cX10_place : ByteArray := prog_12_method_25_code
def yX10_place : MethodName := ⟨RX10, "place", "(II)I"⟩
abbrev cX10_isOpen : ByteArray := prog_12_method_26_code
def yX10_isOpen : MethodName := ⟨RX10, "isOpen", "(II)Z"⟩
abbrev cX10_turned : ByteArray := prog_12_method_27_code
def yX10_turned : MethodName := ⟨RX10, "turned", "(IIII)I"⟩
abbrev cX10_together : ByteArray := prog_12_method_28_code
def yX10_together : MethodName := ⟨RX10, "together", "()I"⟩
abbrev cX10_walks : ByteArray := prog_12_method_29_code
def yX10_walks : MethodName := ⟨RX10, "walks", "(I)I"⟩
abbrev cX10_goes : ByteArray := prog_12_method_30_code
def yX10_goes : MethodName := ⟨RX10, "goes", "(I)I"⟩
abbrev cX10_walk : ByteArray := prog_12_method_31_code
def yX10_walk : MethodName := ⟨RX10, "walk", "(I)I"⟩
abbrev cX10_walked : ByteArray := prog_12_method_32_code
def yX10_walked : MethodName := ⟨RX10, "walked", "(I)I"⟩
abbrev cX10_allOut : ByteArray := prog_12_method_33_code
def yX10_allOut : MethodName := ⟨RX10, "allOut", "()Z"⟩
abbrev cX10_lost : ByteArray := prog_12_method_34_code
def yX10_lost : MethodName := ⟨RX10, "lost", "()J"⟩
abbrev cX10_isFree : ByteArray := prog_12_method_35_code
def yX10_isFree : MethodName := ⟨RX10, "isFree", "(II)Z"⟩
abbrev cX10_put : ByteArray := prog_12_method_36_code
def yX10_put : MethodName := ⟨RX10, "put", "(IIZ)V"⟩
abbrev cX10_helping : ByteArray := prog_12_method_37_code
def yX10_helping : MethodName := ⟨RX10, "helping", "(I)I"⟩
abbrev cX10_help : ByteArray := prog_12_method_38_code
def yX10_help : MethodName := ⟨RX10, "help", "(I)I"⟩
abbrev cX10_helped : ByteArray := prog_12_method_39_code
def yX10_helped : MethodName := ⟨RX10, "helped", "(I)I"⟩
abbrev cX10_seeing : ByteArray := prog_12_method_40_code
def yX10_seeing : MethodName := ⟨RX10, "seeing", "(I)J"⟩
abbrev cX10_led : ByteArray := prog_12_method_41_code
def yX10_led : MethodName := ⟨RX10, "led", "(II)I"⟩
abbrev cX10_tale : ByteArray := prog_12_method_42_code
def yX10_tale : MethodName := ⟨RX10, "tale", "(I)J"⟩
abbrev cX10_turn : ByteArray := prog_12_method_43_code
def yX10_turn : MethodName := ⟨RX10, "turn", "(II)J"⟩
abbrev cX10_tells : ByteArray := prog_12_method_44_code
def yX10_tells : MethodName := ⟨RX10, "tells", "(I)Z"⟩
abbrev cX10_home : ByteArray := prog_12_method_45_code
def yX10_home : MethodName := ⟨RX10, "home", "()I"⟩
abbrev cX10_homing : ByteArray := prog_12_method_46_code
def yX10_homing : MethodName := ⟨RX10, "homing", "(I)I"⟩
abbrev cX10_fails : ByteArray := prog_12_method_47_code
def yX10_fails : MethodName := ⟨RX10, "fails", "(I)I"⟩
abbrev cX10_look : ByteArray := prog_12_method_48_code
def yX10_look : MethodName := ⟨RX10, "look", "(II)I"⟩
abbrev cX10_count : ByteArray := prog_12_method_49_code
def yX10_count : MethodName := ⟨RX10, "count", "(I)I"⟩
def RJ6 : String := "java/lang/Integer"
def TJ6 : u_T := fun k => match k with
  | _ => ("", "", "", false)
def tyJ6 : Nat → FieldType := fun k => match k with
  | _ => .int
abbrev wsJ60 : List Cond := u_ws RJ6 TJ6 0
theorem nmJ6 : ∀ a, a < 0 → ∀ b, b < 0 → a ≠ b → (TJ6 a).2.1 ≠ (TJ6 b).2.1 := by decide +kernel
theorem tyJ6_ok : ∀ k, k < 0 → parseFieldDescriptor (TJ6 k).2.2.1 = some (tyJ6 k) := by decide +kernel
abbrev cJ6_bitCount_0f7a4 : ByteArray := prog_15_method_49_code
def yJ6_bitCount_0f7a4 : MethodName := ⟨RJ6, "bitCount", "(I)I"⟩
def RJ9 : String := "java/lang/Math"
def TJ9 : u_T := fun k => match k with
  | _ => ("", "", "", false)
def tyJ9 : Nat → FieldType := fun k => match k with
  | _ => .int
abbrev wsJ90 : List Cond := u_ws RJ9 TJ9 0
theorem nmJ9 : ∀ a, a < 0 → ∀ b, b < 0 → a ≠ b → (TJ9 a).2.1 ≠ (TJ9 b).2.1 := by decide +kernel
theorem tyJ9_ok : ∀ k, k < 0 → parseFieldDescriptor (TJ9 k).2.2.1 = some (tyJ9 k) := by decide +kernel
abbrev cJ9_min_7cf53 : ByteArray := prog_16_method_69_code
def yJ9_min_7cf53 : MethodName := ⟨RJ9, "min", "(II)I"⟩
def RJ0 : String := "java/lang/String"
def TJ0 : u_T := fun k => match k with
  | _ => ("", "", "", false)
def tyJ0 : Nat → FieldType := fun k => match k with
  | _ => .int
abbrev wsJ00 : List Cond := u_ws RJ0 TJ0 0
theorem nmJ0 : ∀ a, a < 0 → ∀ b, b < 0 → a ≠ b → (TJ0 a).2.1 ≠ (TJ0 b).2.1 := by decide +kernel
theorem tyJ0_ok : ∀ k, k < 0 → parseFieldDescriptor (TJ0 k).2.2.1 = some (tyJ0 k) := by decide +kernel
def RJ10 : String := "java/lang/System"
def TJ10 : u_T := fun k => match k with
  | _ => ("", "", "", false)
def tyJ10 : Nat → FieldType := fun k => match k with
  | _ => .int
abbrev wsJ100 : List Cond := u_ws RJ10 TJ10 0
theorem nmJ10 : ∀ a, a < 0 → ∀ b, b < 0 → a ≠ b → (TJ10 a).2.1 ≠ (TJ10 b).2.1 := by decide +kernel
theorem tyJ10_ok : ∀ k, k < 0 → parseFieldDescriptor (TJ10 k).2.2.1 = some (tyJ10 k) := by decide +kernel
def RL : String := "LabyrinthGardenLaw"
abbrev cL_look : ByteArray := method_3_code
def yL_look : MethodName := ⟨RL, "look", "(LLabyrinthGarden;II[J)I"⟩
abbrev cL_law : ByteArray := code
def yL_law : MethodName := ⟨RL, "law", "([I)Z"⟩
def wsL_law0_r1 : List Cond := [Cond.classLink RL 8 RX9, Cond.instantiable RX9 10, Cond.initialized RX9, Cond.classLink RL 18 RX10, Cond.instantiable RX10 55, Cond.initialized RX10, Cond.arrayClass .long, Cond.methodLink RL 17 yX9_init, Cond.instanceMethod yX9_init, Cond.code yX9_init cX9_init 1 none, Cond.methodLink RX9 1 objectInit, Cond.instanceMethod objectInit, Cond.code objectInit ⟨#[0xb1]⟩ 1 none, Cond.classLink RX9 7 RX7, Cond.instantiable RX7 2, Cond.initialized RX7, Cond.fieldLink RX9 10 "LabyrinthGarden" "tape" "LLabyrinthGarden$Tape;", Cond.classLink RX9 16 RX3, Cond.instantiable RX3 11, Cond.initialized RX3, Cond.fieldLink RX9 21 "LabyrinthGarden" "reader" "LLabyrinthGarden$Reader;", Cond.classLink RX9 25 RX0, Cond.instantiable RX0 16, Cond.initialized RX0]
def wsL_law0_r2 : List Cond := [Cond.fieldLink RX9 28 "LabyrinthGarden" "garden" "LLabyrinthGarden$Garden;", Cond.classLink RX9 32 RX5, Cond.instantiable RX5 7, Cond.initialized RX5, Cond.fieldLink RX9 35 "LabyrinthGarden" "rulesInUse" "LLabyrinthGarden$Rules;", Cond.fieldLink RX9 39 "LabyrinthGarden" "rulesToFill" "LLabyrinthGarden$Rules;", Cond.classLink RX9 42 RX8, Cond.instantiable RX8 5, Cond.initialized RX8, Cond.fieldLink RX9 47 "LabyrinthGarden" "walker" "LLabyrinthGarden$Walker;", Cond.classLink RX9 51 RX4, Cond.instantiable RX4 1, Cond.initialized RX4, Cond.fieldLink RX9 54 "LabyrinthGarden" "report" "LLabyrinthGarden$Report;", Cond.classLink RX9 58 RX1, Cond.instantiable RX1 5, Cond.initialized RX1, Cond.fieldLink RX9 63 "LabyrinthGarden" "helper" "LLabyrinthGarden$Helper;", Cond.classLink RX9 67 RX6, Cond.instantiable RX6 3, Cond.initialized RX6, Cond.fieldLink RX9 72 "LabyrinthGarden" "story" "LLabyrinthGarden$Tale;", Cond.classLink RX9 76 RX2, Cond.instantiable RX2 11]
def wsL_law0_r3 : List Cond := [Cond.initialized RX2, Cond.fieldLink RX9 79 "LabyrinthGarden" "homer" "LLabyrinthGarden$Homer;", Cond.instanceMethod yX7_init, Cond.code yX7_init cX7_init 1 none, Cond.methodLink RX7 1 objectInit, Cond.arrayClass .int, Cond.fieldLink RX7 9 "LabyrinthGarden$Tape" "bytes" "[I", Cond.fieldLink RX7 13 "LabyrinthGarden$Tape" "size" "I", Cond.methodLink RX9 18 yX3_init, Cond.instanceMethod yX3_init, Cond.code yX3_init cX3_init 2 none, Cond.methodLink RX3 3 objectInit, Cond.fieldLink RX3 11 "LabyrinthGarden$Reader" "fault" "I", Cond.fieldLink RX3 15 "LabyrinthGarden$Reader" "faultAt" "I", Cond.fieldLink RX3 18 "LabyrinthGarden$Reader" "length" "I", Cond.fieldLink RX3 21 "LabyrinthGarden$Reader" "position" "I", Cond.fieldLink RX3 24 "LabyrinthGarden$Reader" "token" "I", Cond.fieldLink RX3 27 "LabyrinthGarden$Reader" "tokenAt" "I", Cond.fieldLink RX3 30 "LabyrinthGarden$Reader" "tokenValue" "I", Cond.fieldLink RX3 35 "LabyrinthGarden$Reader" "meant" "[I", Cond.fieldLink RX3 39 "LabyrinthGarden$Reader" "meantAt" "[I", Cond.fieldLink RX3 42 "LabyrinthGarden$Reader" "meantCount" "I", Cond.fieldLink RX3 45 "LabyrinthGarden$Tape" "bytes" "[I", Cond.fieldLink RX3 50 "LabyrinthGarden$Reader" "text" "[I"]
def wsL_law0_r4 : List Cond := [Cond.instanceMethod yX0_init, Cond.code yX0_init cX0_init 1 none, Cond.methodLink RX0 5 objectInit, Cond.fieldLink RX0 11 "LabyrinthGarden$Garden" "junctions" "I", Cond.fieldLink RX0 15 "LabyrinthGarden$Garden" "paths" "I", Cond.fieldLink RX0 18 "LabyrinthGarden$Garden" "places" "I", Cond.fieldLink RX0 21 "LabyrinthGarden$Garden" "outs" "I", Cond.fieldLink RX0 24 "LabyrinthGarden$Garden" "marks" "I", Cond.fieldLink RX0 27 "LabyrinthGarden$Garden" "shuts" "I", Cond.fieldLink RX0 30 "LabyrinthGarden$Garden" "beats" "I", Cond.fieldLink RX0 33 "LabyrinthGarden$Garden" "gates" "[I", Cond.fieldLink RX0 37 "LabyrinthGarden$Garden" "endsOf" "[I", Cond.fieldLink RX0 40 "LabyrinthGarden$Garden" "firstPlaceOf" "[I", Cond.fieldLink RX0 43 "LabyrinthGarden$Garden" "junctionAt" "[I", Cond.fieldLink RX0 46 "LabyrinthGarden$Garden" "endAt" "[I", Cond.fieldLink RX0 49 "LabyrinthGarden$Garden" "pathAt" "[I", Cond.fieldLink RX0 52 "LabyrinthGarden$Garden" "otherOf" "[I", Cond.fieldLink RX0 55 "LabyrinthGarden$Garden" "rings" "[I", Cond.fieldLink RX0 58 "LabyrinthGarden$Garden" "placeOfSide" "[I", Cond.instanceMethod yX5_init, Cond.code yX5_init cX5_init 1 none, Cond.methodLink RX5 3 objectInit, Cond.fieldLink RX5 9 "LabyrinthGarden$Rules" "number" "[I", Cond.fieldLink RX5 13 "LabyrinthGarden$Rules" "deed" "[I"]
def wsL_law0_r5 : List Cond := [Cond.fieldLink RX5 16 "LabyrinthGarden$Rules" "next" "[I", Cond.fieldLink RX5 19 "LabyrinthGarden$Rules" "lines" "I", Cond.fieldLink RX5 23 "LabyrinthGarden$Rules" "firstState" "I", Cond.fieldLink RX5 26 "LabyrinthGarden$Rules" "told" "I", Cond.fieldLink RX5 29 "LabyrinthGarden$Rules" "forked" "I", Cond.methodLink RX9 44 yX8_init, Cond.instanceMethod yX8_init, Cond.code yX8_init cX8_init 3 none, Cond.methodLink RX8 3 objectInit, Cond.fieldLink RX8 11 "LabyrinthGarden$Walker" "history" "[I", Cond.fieldLink RX8 15 "LabyrinthGarden$Walker" "last" "I", Cond.fieldLink RX8 21 "LabyrinthGarden$Walker" "openAt" "[I", Cond.fieldLink RX8 24 "LabyrinthGarden$Walker" "garden" "LLabyrinthGarden$Garden;", Cond.fieldLink RX8 28 "LabyrinthGarden$Walker" "rules" "LLabyrinthGarden$Rules;", Cond.instanceMethod yX4_init, Cond.code yX4_init cX4_init 1 none, Cond.methodLink RX4 3 objectInit, Cond.fieldLink RX4 9 "LabyrinthGarden$Report" "rows" "[I", Cond.methodLink RX9 60 yX1_init, Cond.instanceMethod yX1_init, Cond.code yX1_init cX1_init 3 none, Cond.methodLink RX1 3 objectInit, Cond.fieldLink RX1 9 "LabyrinthGarden$Helper" "kept" "[I", Cond.fieldLink RX1 15 "LabyrinthGarden$Helper" "keptCount" "I"]
def wsL_law0_r6 : List Cond := [Cond.fieldLink RX1 19 "LabyrinthGarden$Helper" "lostLately" "I", Cond.fieldLink RX1 22 "LabyrinthGarden$Helper" "garden" "LLabyrinthGarden$Garden;", Cond.fieldLink RX1 26 "LabyrinthGarden$Helper" "walker" "LLabyrinthGarden$Walker;", Cond.methodLink RX9 69 yX6_init, Cond.instanceMethod yX6_init, Cond.code yX6_init cX6_init 2 none, Cond.methodLink RX6 3 objectInit, Cond.fieldLink RX6 9 "LabyrinthGarden$Tale" "here" "I", Cond.fieldLink RX6 15 "LabyrinthGarden$Tale" "turns" "I", Cond.fieldLink RX6 18 "LabyrinthGarden$Tale" "garden" "LLabyrinthGarden$Garden;", Cond.methodLink RX9 78 yX2_init, Cond.instanceMethod yX2_init, Cond.code yX2_init cX2_init 2 none, Cond.methodLink RX2 5 objectInit, Cond.fieldLink RX2 13 "LabyrinthGarden$Homer" "kept" "[I", Cond.fieldLink RX2 17 "LabyrinthGarden$Homer" "keptCount" "I", Cond.fieldLink RX2 21 "LabyrinthGarden$Homer" "turnsToTry" "I", Cond.fieldLink RX2 24 "LabyrinthGarden$Homer" "beyond" "[I", Cond.fieldLink RX2 27 "LabyrinthGarden$Homer" "turns" "[I", Cond.fieldLink RX2 30 "LabyrinthGarden$Homer" "twins" "[I", Cond.fieldLink RX2 33 "LabyrinthGarden$Homer" "at" "[I", Cond.fieldLink RX2 36 "LabyrinthGarden$Homer" "alike" "[I", Cond.fieldLink RX2 39 "LabyrinthGarden$Homer" "unsure" "[I", Cond.fieldLink RX2 42 "LabyrinthGarden$Homer" "seen" "[I"]
def wsL_law0_r7 : List Cond := [Cond.fieldLink RX2 45 "LabyrinthGarden$Homer" "garden" "LLabyrinthGarden$Garden;", Cond.methodLink RL 20 yX10_init, Cond.instanceMethod yX10_init, Cond.code yX10_init cX10_init 1 none, Cond.methodLink RX10 1 objectInit, Cond.fieldLink RX10 7 "LabyrinthGardenModel" "tape" "[I", Cond.fieldLink RX10 13 "LabyrinthGardenModel" "faultPlace" "I", Cond.fieldLink RX10 17 "LabyrinthGardenModel" "act" "[I", Cond.arrayClass .boolean, Cond.fieldLink RX10 20 "LabyrinthGardenModel" "out" "[Z", Cond.fieldLink RX10 24 "LabyrinthGardenModel" "marked" "[Z", Cond.fieldLink RX10 27 "LabyrinthGardenModel" "end" "[I", Cond.fieldLink RX10 30 "LabyrinthGardenModel" "gate" "[I", Cond.fieldLink RX10 33 "LabyrinthGardenModel" "isShut" "[Z", Cond.fieldLink RX10 36 "LabyrinthGardenModel" "period" "I", Cond.fieldLink RX10 39 "LabyrinthGardenModel" "at" "[I", Cond.fieldLink RX10 42 "LabyrinthGardenModel" "ends" "[I", Cond.fieldLink RX10 45 "LabyrinthGardenModel" "placeOf" "[I", Cond.fieldLink RX10 48 "LabyrinthGardenModel" "size" "[I", Cond.fieldLink RX10 51 "LabyrinthGardenModel" "base" "[I", Cond.fieldLink RX10 54 "LabyrinthGardenModel" "words" "[I", Cond.fieldLink RX10 57 "LabyrinthGardenModel" "namedState" "[I", Cond.fieldLink RX10 60 "LabyrinthGardenModel" "namedPlace" "[I", Cond.fieldLink RX10 63 "LabyrinthGardenModel" "told" "[Z"]
def wsL_law0_r8 : List Cond := [Cond.fieldLink RX10 66 "LabyrinthGardenModel" "was" "[I", Cond.constant RX10 69 (196608), Cond.fieldLink RX10 70 "LabyrinthGardenModel" "beatOf" "[I", Cond.fieldLink RX10 73 "LabyrinthGardenModel" "lies" "[Z", Cond.fieldLink RX10 76 "LabyrinthGardenModel" "walkTold" "[I", Cond.fieldLink RX10 79 "LabyrinthGardenModel" "helps" "[I", Cond.fieldLink RX10 82 "LabyrinthGardenModel" "helpTold" "[I", Cond.fieldLink RX10 85 "LabyrinthGardenModel" "taleMany" "I", Cond.fieldLink RX10 88 "LabyrinthGardenModel" "homeTold" "[I", Cond.fieldLink RX10 91 "LabyrinthGardenModel" "tries" "[I", Cond.fieldLink RX10 94 "LabyrinthGardenModel" "now" "[I", Cond.fieldLink RX10 97 "LabyrinthGardenModel" "sight" "[I", Cond.methodLink RL 21 yX9_feed, Cond.instanceMethod yX9_feed, Cond.selects RX9 yX9_feed yX9_feed, Cond.code yX9_feed cX9_feed 6 (some .int), Cond.fieldLink RX9 91 "LabyrinthGarden$Tape" "size" "I", Cond.methodLink RX9 83 yX7_hasRoom, Cond.instanceMethod yX7_hasRoom, Cond.selects RX7 yX7_hasRoom yX7_hasRoom, Cond.code yX7_hasRoom cX7_hasRoom 1 (some .boolean), Cond.methodLink RX9 87 yX7_add, Cond.instanceMethod yX7_add, Cond.selects RX7 yX7_add yX7_add]
def wsL_law0_r9 : List Cond := [Cond.code yX7_add cX7_add 3 none, Cond.methodLink RL 25 yX10_feed, Cond.instanceMethod yX10_feed, Cond.selects RX10 yX10_feed yX10_feed, Cond.code yX10_feed cX10_feed 8 (some .int), Cond.fieldLink RX10 100 "LabyrinthGardenModel" "thrown" "I", Cond.fieldLink RX10 103 "LabyrinthGardenModel" "tapeSize" "I", Cond.methodLink RL 26 yX9_rules, Cond.instanceMethod yX9_rules, Cond.selects RX9 yX9_rules yX9_rules, Cond.code yX9_rules cX9_rules 3 (some .int), Cond.fieldLink RX9 99 "LabyrinthGarden$Reader" "fault" "I", Cond.fieldLink RX9 102 "LabyrinthGarden$Rules" "lines" "I", Cond.methodLink RX9 95 yX3_read, Cond.instanceMethod yX3_read, Cond.selects RX3 yX3_read yX3_read, Cond.code yX3_read cX3_read 4 none, Cond.methodLink RX3 53 Lib.Math.min.name, Cond.static Lib.Math.min.name, Cond.initialized "java/lang/Math", Cond.code Lib.Math.min.name Lib.Math.min.code 2 (some .int), Cond.methodLink RX3 59 yX5_clear, Cond.instanceMethod yX5_clear, Cond.selects RX5 yX5_clear yX5_clear]
def wsL_law0_r10 : List Cond := [Cond.code yX5_clear cX5_clear 1 none, Cond.methodLink RX3 62 yX3_takes, Cond.instanceMethod yX3_takes, Cond.selects RX3 yX3_takes yX3_takes, Cond.code yX3_takes cX3_takes 2 (some .boolean), Cond.methodLink RX3 109 yX3_isBlank, Cond.static yX3_isBlank, Cond.code yX3_isBlank cX3_isBlank 1 (some .boolean), Cond.methodLink RX3 112 yX3_isDigit, Cond.static yX3_isDigit, Cond.code yX3_isDigit cX3_isDigit 1 (some .boolean), Cond.methodLink RX3 115 yX3_takeNumber, Cond.instanceMethod yX3_takeNumber, Cond.selects RX3 yX3_takeNumber yX3_takeNumber, Cond.code yX3_takeNumber cX3_takeNumber 1 none, Cond.methodLink RX3 118 yX3_isLetter, Cond.static yX3_isLetter, Cond.code yX3_isLetter cX3_isLetter 1 (some .boolean), Cond.methodLink RX3 121 yX3_takeLetters, Cond.instanceMethod yX3_takeLetters, Cond.selects RX3 yX3_takeLetters yX3_takeLetters, Cond.code yX3_takeLetters cX3_takeLetters 3 none, Cond.methodLink RX3 128 yX3_takeDeed, Cond.instanceMethod yX3_takeDeed]
def wsL_law0_r11 : List Cond := [Cond.selects RX3 yX3_takeDeed yX3_takeDeed, Cond.code yX3_takeDeed cX3_takeDeed 2 none, Cond.methodLink RX3 124 yX3_signOf, Cond.static yX3_signOf, Cond.code yX3_signOf cX3_signOf 1 (some .int), Cond.methodLink RX3 81 yX3_fail, Cond.instanceMethod yX3_fail, Cond.selects RX3 yX3_fail yX3_fail, Cond.code yX3_fail cX3_fail 3 none, Cond.methodLink RX3 66 yX3_readLine, Cond.instanceMethod yX3_readLine, Cond.selects RX3 yX3_readLine yX3_readLine, Cond.code yX3_readLine cX3_readLine 3 (some .boolean), Cond.fieldLink RX3 74 "LabyrinthGarden$Rules" "told" "I", Cond.fieldLink RX3 93 "LabyrinthGarden$Rules" "forked" "I", Cond.static yX9_hasBit, Cond.code yX9_hasBit cX9_hasBit 2 (some .boolean), Cond.methodLink RX3 85 yX5_addLine, Cond.instanceMethod yX5_addLine, Cond.selects RX5 yX5_addLine yX5_addLine, Cond.code yX5_addLine cX5_addLine 2 none, Cond.static yX9_withBit, Cond.code yX9_withBit cX9_withBit 3 (some .int), Cond.methodLink RX3 89 yX3_readAct]
def wsL_law0_r12 : List Cond := [Cond.instanceMethod yX3_readAct, Cond.selects RX3 yX3_readAct yX3_readAct, Cond.code yX3_readAct cX3_readAct 3 (some .boolean), Cond.fieldLink RX3 100 "LabyrinthGarden$Rules" "number" "[I", Cond.fieldLink RX3 103 "LabyrinthGarden$Rules" "deed" "[I", Cond.fieldLink RX3 106 "LabyrinthGarden$Rules" "next" "[I", Cond.methodLink RX3 70 yX3_findNotTold, Cond.instanceMethod yX3_findNotTold, Cond.selects RX3 yX3_findNotTold yX3_findNotTold, Cond.code yX3_findNotTold cX3_findNotTold 3 none, Cond.methodLink RL 30 yX10_rules, Cond.instanceMethod yX10_rules, Cond.selects RX10 yX10_rules yX10_rules, Cond.code yX10_rules cX10_rules 4 (some .int), Cond.fieldLink RX10 109 "LabyrinthGardenModel" "stop" "I", Cond.fieldLink RX10 106 "LabyrinthGardenModel" "fault" "I", Cond.fieldLink RX10 142 "LabyrinthGardenModel" "named" "I", Cond.fieldLink RX10 145 "LabyrinthGardenModel" "readLines" "I", Cond.fieldLink RX10 112 "LabyrinthGardenModel" "next" "I", Cond.fieldLink RX10 118 "LabyrinthGardenModel" "kind" "I", Cond.fieldLink RX10 161 "LabyrinthGardenModel" "lines" "I", Cond.fieldLink RX10 148 "LabyrinthGardenModel" "readFirst" "I", Cond.fieldLink RX10 164 "LabyrinthGardenModel" "first" "I", Cond.methodLink RX10 139 yX10_take]
def wsL_law0_r13 : List Cond := [Cond.instanceMethod yX10_take, Cond.selects RX10 yX10_take yX10_take, Cond.code yX10_take cX10_take 1 none, Cond.fieldLink RX10 115 "LabyrinthGardenModel" "token" "I", Cond.fieldLink RX10 125 "LabyrinthGardenModel" "which" "I", Cond.methodLink RX10 121 yX10_isSmall, Cond.instanceMethod yX10_isSmall, Cond.selects RX10 yX10_isSmall yX10_isSmall, Cond.code yX10_isSmall cX10_isSmall 2 (some .boolean), Cond.methodLink RX10 128 yX10_wordAt, Cond.instanceMethod yX10_wordAt, Cond.selects RX10 yX10_wordAt yX10_wordAt, Cond.code yX10_wordAt cX10_wordAt 8 (some .int), Cond.methodLink RX10 132 yX10_isDigit, Cond.instanceMethod yX10_isDigit, Cond.selects RX10 yX10_isDigit yX10_isDigit, Cond.code yX10_isDigit cX10_isDigit 2 (some .boolean), Cond.methodLink RX10 157 yX10_line, Cond.instanceMethod yX10_line, Cond.selects RX10 yX10_line yX10_line, Cond.code yX10_line cX10_line 3 (some .boolean), Cond.methodLink RX10 135 yX10_wrong, Cond.instanceMethod yX10_wrong, Cond.selects RX10 yX10_wrong yX10_wrong]
def wsL_law0_r14 : List Cond := [Cond.code yX10_wrong cX10_wrong 3 (some .boolean), Cond.methodLink RX10 151 yX10_sign, Cond.instanceMethod yX10_sign, Cond.selects RX10 yX10_sign yX10_sign, Cond.code yX10_sign cX10_sign 2 (some .boolean), Cond.methodLink RX10 154 yX10_actAt, Cond.instanceMethod yX10_actAt, Cond.selects RX10 yX10_actAt yX10_actAt, Cond.code yX10_actAt cX10_actAt 2 (some .boolean), Cond.methodLink RL 31 yX9_fault, Cond.instanceMethod yX9_fault, Cond.selects RX9 yX9_fault yX9_fault, Cond.code yX9_fault cX9_fault 2 (some .int), Cond.fieldLink RX9 105 "LabyrinthGarden$Reader" "faultAt" "I", Cond.methodLink RL 34 yX10_fault, Cond.instanceMethod yX10_fault, Cond.selects RX10 yX10_fault yX10_fault, Cond.code yX10_fault cX10_fault 2 (some .int), Cond.methodLink RL 35 yX9_anew, Cond.instanceMethod yX9_anew, Cond.selects RX9 yX9_anew yX9_anew, Cond.code yX9_anew cX9_anew 1 none, Cond.methodLink RX9 108 yX0_clear, Cond.instanceMethod yX0_clear]
def wsL_law0_r15 : List Cond := [Cond.selects RX0 yX0_clear yX0_clear, Cond.code yX0_clear cX0_clear 1 none, Cond.methodLink RX9 111 yX6_forget, Cond.instanceMethod yX6_forget, Cond.selects RX6 yX6_forget yX6_forget, Cond.code yX6_forget cX6_forget 1 none, Cond.methodLink RL 38 yX10_anew, Cond.instanceMethod yX10_anew, Cond.selects RX10 yX10_anew yX10_anew, Cond.code yX10_anew cX10_anew 1 none, Cond.fieldLink RX10 170 "LabyrinthGardenModel" "junctions" "I", Cond.fieldLink RX10 173 "LabyrinthGardenModel" "paths" "I", Cond.methodLink RX10 176 yX10_number, Cond.instanceMethod yX10_number, Cond.selects RX10 yX10_number yX10_number, Cond.code yX10_number cX10_number 3 none, Cond.fieldLink RX10 167 "LabyrinthGardenModel" "places" "I", Cond.methodLink RL 39 yX9_junction, Cond.instanceMethod yX9_junction, Cond.selects RX9 yX9_junction yX9_junction, Cond.code yX9_junction cX9_junction 2 (some .int), Cond.methodLink RX9 114 yX0_addJunction, Cond.instanceMethod yX0_addJunction, Cond.selects RX0 yX0_addJunction yX0_addJunction]
def wsL_law0_r16 : List Cond := [Cond.code yX0_addJunction cX0_addJunction 3 (some .int), Cond.methodLink RL 43 yX10_junction, Cond.instanceMethod yX10_junction, Cond.selects RX10 yX10_junction yX10_junction, Cond.code yX10_junction cX10_junction 2 (some .int), Cond.methodLink RL 44 yX9_path, Cond.instanceMethod yX9_path, Cond.selects RX9 yX9_path yX9_path, Cond.code yX9_path cX9_path 4 (some .int), Cond.methodLink RX9 118 yX0_addPath, Cond.instanceMethod yX0_addPath, Cond.selects RX0 yX0_addPath yX0_addPath, Cond.code yX0_addPath cX0_addPath 5 (some .int), Cond.methodLink RX0 61 yX0_hasJunction, Cond.instanceMethod yX0_hasJunction, Cond.selects RX0 yX0_hasJunction yX0_hasJunction, Cond.code yX0_hasJunction cX0_hasJunction 2 (some .boolean), Cond.methodLink RX0 69 yX0_addEnd, Cond.instanceMethod yX0_addEnd, Cond.selects RX0 yX0_addEnd yX0_addEnd, Cond.code yX0_addEnd cX0_addEnd 3 none, Cond.methodLink RX0 73 yX0_numberPlaces, Cond.instanceMethod yX0_numberPlaces, Cond.selects RX0 yX0_numberPlaces yX0_numberPlaces]
def wsL_law0_r17 : List Cond := [Cond.code yX0_numberPlaces cX0_numberPlaces 4 none, Cond.methodLink RL 47 yX10_path, Cond.instanceMethod yX10_path, Cond.selects RX10 yX10_path yX10_path, Cond.code yX10_path cX10_path 3 (some .int), Cond.methodLink RX10 179 yX10_isJunction, Cond.instanceMethod yX10_isJunction, Cond.selects RX10 yX10_isJunction yX10_isJunction, Cond.code yX10_isJunction cX10_isJunction 2 (some .boolean), Cond.methodLink RL 48 yX9_mark, Cond.instanceMethod yX9_mark, Cond.selects RX9 yX9_mark yX9_mark, Cond.code yX9_mark cX9_mark 3 (some .boolean), Cond.fieldLink RX9 126 "LabyrinthGarden$Garden" "marks" "I", Cond.methodLink RX9 122 yX0_hasJunction, Cond.methodLink RX9 129 yX9_withBit, Cond.methodLink RL 52 yX10_mark, Cond.instanceMethod yX10_mark, Cond.selects RX10 yX10_mark yX10_mark, Cond.code yX10_mark cX10_mark 3 (some .boolean), Cond.methodLink RL 53 yX9_period, Cond.instanceMethod yX9_period, Cond.selects RX9 yX9_period yX9_period, Cond.code yX9_period cX9_period 2 (some .boolean)]
def wsL_law0_r18 : List Cond := [Cond.fieldLink RX9 133 "LabyrinthGarden$Garden" "beats" "I", Cond.methodLink RL 57 yX10_period, Cond.instanceMethod yX10_period, Cond.selects RX10 yX10_period yX10_period, Cond.code yX10_period cX10_period 2 (some .boolean), Cond.methodLink RL 58 yX9_gate, Cond.instanceMethod yX9_gate, Cond.selects RX9 yX9_gate yX9_gate, Cond.code yX9_gate cX9_gate 3 (some .boolean), Cond.fieldLink RX9 139 "LabyrinthGarden$Garden" "gates" "[I", Cond.methodLink RX9 136 yX0_hasPath, Cond.instanceMethod yX0_hasPath, Cond.selects RX0 yX0_hasPath yX0_hasPath, Cond.code yX0_hasPath cX0_hasPath 2 (some .boolean), Cond.methodLink RL 62 yX10_gate, Cond.instanceMethod yX10_gate, Cond.selects RX10 yX10_gate yX10_gate, Cond.code yX10_gate cX10_gate 3 (some .boolean), Cond.methodLink RX10 182 yX10_isPath, Cond.instanceMethod yX10_isPath, Cond.selects RX10 yX10_isPath yX10_isPath, Cond.code yX10_isPath cX10_isPath 2 (some .boolean), Cond.methodLink RL 63 yX9_shut, Cond.instanceMethod yX9_shut]
def wsL_law0_r19 : List Cond := [Cond.selects RX9 yX9_shut yX9_shut, Cond.code yX9_shut cX9_shut 3 (some .boolean), Cond.fieldLink RX9 143 "LabyrinthGarden$Garden" "shuts" "I", Cond.methodLink RL 66 yX10_shut, Cond.instanceMethod yX10_shut, Cond.selects RX10 yX10_shut yX10_shut, Cond.code yX10_shut cX10_shut 3 (some .boolean), Cond.methodLink RL 67 yX9_place, Cond.instanceMethod yX9_place, Cond.selects RX9 yX9_place yX9_place, Cond.code yX9_place cX9_place 3 (some .int), Cond.methodLink RX9 146 yX0_placeOf, Cond.instanceMethod yX0_placeOf, Cond.selects RX0 yX0_placeOf yX0_placeOf, Cond.code yX0_placeOf cX0_placeOf 3 (some .int), Cond.methodLink RL 70 yX10_place, Cond.instanceMethod yX10_place, Cond.selects RX10 yX10_place yX10_place, Cond.code yX10_place cX10_place 3 (some .int), Cond.methodLink RL 71 yX9_walk, Cond.instanceMethod yX9_walk, Cond.selects RX9 yX9_walk yX9_walk, Cond.code yX9_walk cX9_walk 3 (some .int), Cond.methodLink RX9 149 yX0_hasPlace]
def wsL_law0_r20 : List Cond := [Cond.instanceMethod yX0_hasPlace, Cond.selects RX0 yX0_hasPlace yX0_hasPlace, Cond.code yX0_hasPlace cX0_hasPlace 2 (some .boolean), Cond.methodLink RX9 152 yX8_prepare, Cond.instanceMethod yX8_prepare, Cond.selects RX8 yX8_prepare yX8_prepare, Cond.code yX8_prepare cX8_prepare 3 none, Cond.fieldLink RX8 32 "LabyrinthGarden$Garden" "beats" "I", Cond.methodLink RX8 35 yX0_placesOpenAt, Cond.instanceMethod yX0_placesOpenAt, Cond.selects RX0 yX0_placesOpenAt yX0_placesOpenAt, Cond.code yX0_placesOpenAt cX0_placesOpenAt 4 (some .int), Cond.methodLink RX0 84 yX0_placesOfPaths, Cond.instanceMethod yX0_placesOfPaths, Cond.selects RX0 yX0_placesOfPaths yX0_placesOfPaths, Cond.code yX0_placesOfPaths cX0_placesOfPaths 4 (some .int), Cond.methodLink RX9 156 yX8_comesOut, Cond.instanceMethod yX8_comesOut, Cond.selects RX8 yX8_comesOut yX8_comesOut, Cond.code yX8_comesOut cX8_comesOut 13 (some .boolean), Cond.fieldLink RX8 39 "LabyrinthGarden$Rules" "firstState" "I", Cond.fieldLink RX8 44 "LabyrinthGarden$Garden" "junctionAt" "[I", Cond.fieldLink RX8 47 "LabyrinthGarden$Garden" "outs" "I", Cond.fieldLink RX8 62 "LabyrinthGarden$Rules" "number" "[I"]
def wsL_law0_r21 : List Cond := [Cond.fieldLink RX8 68 "LabyrinthGarden$Rules" "next" "[I", Cond.methodLink RX8 54 yX5_actOf, Cond.instanceMethod yX5_actOf, Cond.selects RX5 yX5_actOf yX5_actOf, Cond.code yX5_actOf cX5_actOf 3 (some .int), Cond.methodLink RX8 58 yX5_marksAfter, Cond.instanceMethod yX5_marksAfter, Cond.selects RX5 yX5_marksAfter yX5_marksAfter, Cond.code yX5_marksAfter cX5_marksAfter 4 (some .int), Cond.methodLink RX8 65 yX8_placeBehind, Cond.instanceMethod yX8_placeBehind, Cond.selects RX8 yX8_placeBehind yX8_placeBehind, Cond.code yX8_placeBehind cX8_placeBehind 12 (some .int), Cond.fieldLink RX8 71 "LabyrinthGarden$Garden" "firstPlaceOf" "[I", Cond.fieldLink RX8 74 "LabyrinthGarden$Garden" "endsOf" "[I", Cond.fieldLink RX8 82 "LabyrinthGarden$Garden" "endAt" "[I", Cond.fieldLink RX8 85 "LabyrinthGarden$Garden" "otherOf" "[I", Cond.methodLink RX8 77 yJ6_bitCount_0f7a4, Cond.static yJ6_bitCount_0f7a4, Cond.initialized RJ6, Cond.code yJ6_bitCount_0f7a4 cJ6_bitCount_0f7a4 1 (some .int), Cond.constant RJ6 265 (1431655765), Cond.constant RJ6 266 (858993459), Cond.constant RJ6 267 (252645135)]
def wsL_law0_r22 : List Cond := [Cond.methodLink RX9 160 yX4_take, Cond.instanceMethod yX4_take, Cond.selects RX4 yX4_take yX4_take, Cond.code yX4_take cX4_take 7 (some .int), Cond.fieldLink RX4 25 "LabyrinthGarden$Walker" "last" "I", Cond.fieldLink RX4 29 "LabyrinthGarden$Walker" "history" "[I", Cond.methodLink RX4 15 yX8_lap, Cond.instanceMethod yX8_lap, Cond.selects RX8 yX8_lap yX8_lap, Cond.code yX8_lap cX8_lap 2 (some .int), Cond.methodLink RX4 21 yX8_lead, Cond.instanceMethod yX8_lead, Cond.selects RX8 yX8_lead yX8_lead, Cond.code yX8_lead cX8_lead 3 (some .int), Cond.methodLink RX4 32 yJ6_bitCount_0f7a4, Cond.methodLink RL 74 yX10_walk, Cond.instanceMethod yX10_walk, Cond.selects RX10 yX10_walk yX10_walk, Cond.code yX10_walk cX10_walk 4 (some .int), Cond.fieldLink RX10 224 "LabyrinthGardenModel" "isWalk" "Z", Cond.fieldLink RX10 194 "LabyrinthGardenModel" "beat" "I", Cond.fieldLink RX10 204 "LabyrinthGardenModel" "lead" "I", Cond.fieldLink RX10 207 "LabyrinthGardenModel" "lap" "I", Cond.fieldLink RX10 188 "LabyrinthGardenModel" "where" "I"]
def wsL_law0_r23 : List Cond := [Cond.fieldLink RX10 191 "LabyrinthGardenModel" "state" "I", Cond.methodLink RX10 218 yX10_isPlace, Cond.instanceMethod yX10_isPlace, Cond.selects RX10 yX10_isPlace yX10_isPlace, Cond.code yX10_isPlace cX10_isPlace 2 (some .boolean), Cond.methodLink RX10 221 yX10_walks, Cond.instanceMethod yX10_walks, Cond.selects RX10 yX10_walks yX10_walks, Cond.code yX10_walks cX10_walks 4 (some .int), Cond.fieldLink RX10 197 "LabyrinthGardenModel" "many" "I", Cond.methodLink RX10 200 yX10_goes, Cond.instanceMethod yX10_goes, Cond.selects RX10 yX10_goes yX10_goes, Cond.code yX10_goes cX10_goes 6 (some .int), Cond.methodLink RX10 210 yX10_together, Cond.instanceMethod yX10_together, Cond.selects RX10 yX10_together yX10_together, Cond.code yX10_together cX10_together 3 (some .int), Cond.methodLink RX10 214 yX10_turned, Cond.instanceMethod yX10_turned, Cond.selects RX10 yX10_turned yX10_turned, Cond.code yX10_turned cX10_turned 8 (some .int), Cond.methodLink RX10 185 yX10_isOpen, Cond.instanceMethod yX10_isOpen]
def wsL_law0_r24 : List Cond := [Cond.selects RX10 yX10_isOpen yX10_isOpen, Cond.code yX10_isOpen cX10_isOpen 3 (some .boolean), Cond.methodLink RL 75 yX9_walked, Cond.instanceMethod yX9_walked, Cond.selects RX9 yX9_walked yX9_walked, Cond.code yX9_walked cX9_walked 2 (some .int), Cond.fieldLink RX9 164 "LabyrinthGarden$Report" "rows" "[I", Cond.methodLink RL 78 yX10_walked, Cond.instanceMethod yX10_walked, Cond.selects RX10 yX10_walked yX10_walked, Cond.code yX10_walked cX10_walked 2 (some .int), Cond.methodLink RL 79 yX9_lost, Cond.instanceMethod yX9_lost, Cond.selects RX9 yX9_lost yX9_lost, Cond.code yX9_lost cX9_lost 4 (some .long), Cond.constantLong RX9 167 (-1), Cond.fieldLink RX9 169 "LabyrinthGarden$Garden" "places" "I", Cond.methodLink RL 83 yX10_lost, Cond.instanceMethod yX10_lost, Cond.selects RX10 yX10_lost yX10_lost, Cond.code yX10_lost cX10_lost 4 (some .long), Cond.constantLong RX10 228 (-1), Cond.methodLink RL 84 yX9_help, Cond.instanceMethod yX9_help]
def wsL_law0_r25 : List Cond := [Cond.selects RX9 yX9_help yX9_help, Cond.code yX9_help cX9_help 2 (some .int), Cond.methodLink RX9 172 yX1_seek, Cond.instanceMethod yX1_seek, Cond.selects RX1 yX1_seek yX1_seek, Cond.code yX1_seek cX1_seek 6 (some .int), Cond.fieldLink RX1 38 "LabyrinthGarden$Garden" "junctions" "I", Cond.fieldLink RX1 43 "LabyrinthGarden$Garden" "paths" "I", Cond.fieldLink RX1 46 "LabyrinthGarden$Garden" "marks" "I", Cond.fieldLink RX1 49 "LabyrinthGarden$Garden" "shuts" "I", Cond.methodLink RX1 30 yX1_saves, Cond.instanceMethod yX1_saves, Cond.selects RX1 yX1_saves yX1_saves, Cond.code yX1_saves cX1_saves 3 (some .boolean), Cond.methodLink RX1 55 yX1_nobodyIsLost, Cond.instanceMethod yX1_nobodyIsLost, Cond.selects RX1 yX1_nobodyIsLost yX1_nobodyIsLost, Cond.code yX1_nobodyIsLost cX1_nobodyIsLost 5 (some .boolean), Cond.fieldLink RX1 62 "LabyrinthGarden$Garden" "places" "I", Cond.methodLink RX1 65 yX8_comesOut, Cond.methodLink RX1 58 yX0_placesOfPaths, Cond.methodLink RX1 34 yX1_keep, Cond.instanceMethod yX1_keep, Cond.selects RX1 yX1_keep yX1_keep]
def wsL_law0_r26 : List Cond := [Cond.code yX1_keep cX1_keep 4 (some .int), Cond.methodLink RL 87 yX10_help, Cond.instanceMethod yX10_help, Cond.selects RX10 yX10_help yX10_help, Cond.code yX10_help cX10_help 4 (some .int), Cond.fieldLink RX10 243 "LabyrinthGardenModel" "helpMany" "I", Cond.methodLink RX10 240 yX10_helping, Cond.instanceMethod yX10_helping, Cond.selects RX10 yX10_helping yX10_helping, Cond.code yX10_helping cX10_helping 5 (some .int), Cond.methodLink RX10 230 yX10_allOut, Cond.instanceMethod yX10_allOut, Cond.selects RX10 yX10_allOut yX10_allOut, Cond.code yX10_allOut cX10_allOut 2 (some .boolean), Cond.methodLink RX10 233 yX10_isFree, Cond.instanceMethod yX10_isFree, Cond.selects RX10 yX10_isFree yX10_isFree, Cond.code yX10_isFree cX10_isFree 3 (some .boolean), Cond.methodLink RX10 236 yX10_put, Cond.instanceMethod yX10_put, Cond.selects RX10 yX10_put yX10_put, Cond.code yX10_put cX10_put 4 none, Cond.methodLink RL 88 yX9_helped, Cond.instanceMethod yX9_helped]
def wsL_law0_r27 : List Cond := [Cond.selects RX9 yX9_helped yX9_helped, Cond.code yX9_helped cX9_helped 2 (some .int), Cond.fieldLink RX9 176 "LabyrinthGarden$Helper" "keptCount" "I", Cond.fieldLink RX9 179 "LabyrinthGarden$Helper" "kept" "[I", Cond.methodLink RL 91 yX10_helped, Cond.instanceMethod yX10_helped, Cond.selects RX10 yX10_helped yX10_helped, Cond.code yX10_helped cX10_helped 2 (some .int), Cond.methodLink RL 92 yX9_tale, Cond.instanceMethod yX9_tale, Cond.selects RX9 yX9_tale yX9_tale, Cond.code yX9_tale cX9_tale 2 (some .long), Cond.fieldLink RX9 188 "LabyrinthGarden$Tale" "here" "I", Cond.methodLink RX9 182 yX9_isSeeable, Cond.static yX9_isSeeable, Cond.code yX9_isSeeable cX9_isSeeable 1 (some .boolean), Cond.methodLink RX9 185 yX6_begin, Cond.instanceMethod yX6_begin, Cond.selects RX6 yX6_begin yX6_begin, Cond.code yX6_begin cX6_begin 2 none, Cond.methodLink RX6 22 yX0_placesWithEnds, Cond.instanceMethod yX0_placesWithEnds, Cond.selects RX0 yX0_placesWithEnds yX0_placesWithEnds, Cond.code yX0_placesWithEnds cX0_placesWithEnds 4 (some .int)]
def wsL_law0_r28 : List Cond := [Cond.methodLink RX0 76 yX0_endsAt, Cond.instanceMethod yX0_endsAt, Cond.selects RX0 yX0_endsAt yX0_endsAt, Cond.code yX0_endsAt cX0_endsAt 2 (some .int), Cond.methodLink RL 96 yX10_tale, Cond.instanceMethod yX10_tale, Cond.selects RX10 yX10_tale yX10_tale, Cond.code yX10_tale cX10_tale 2 (some .long), Cond.fieldLink RX10 250 "LabyrinthGardenModel" "here" "J", Cond.methodLink RX10 246 yX10_seeing, Cond.instanceMethod yX10_seeing, Cond.selects RX10 yX10_seeing yX10_seeing, Cond.code yX10_seeing cX10_seeing 5 (some .long), Cond.methodLink RL 97 yX9_turn, Cond.instanceMethod yX9_turn, Cond.selects RX9 yX9_turn yX9_turn, Cond.code yX9_turn cX9_turn 3 (some .long), Cond.methodLink RX9 191 yX6_canGoOn, Cond.instanceMethod yX6_canGoOn, Cond.selects RX6 yX6_canGoOn yX6_canGoOn, Cond.code yX6_canGoOn cX6_canGoOn 1 (some .boolean), Cond.methodLink RX9 194 yX6_goOn, Cond.instanceMethod yX6_goOn, Cond.selects RX6 yX6_goOn yX6_goOn]
def wsL_law0_r29 : List Cond := [Cond.code yX6_goOn cX6_goOn 5 none, Cond.fieldLink RX6 28 "LabyrinthGarden$Garden" "places" "I", Cond.methodLink RX6 35 yX0_beyond, Cond.instanceMethod yX0_beyond, Cond.selects RX0 yX0_beyond yX0_beyond, Cond.code yX0_beyond cX0_beyond 4 (some .int), Cond.methodLink RL 101 yX10_turn, Cond.instanceMethod yX10_turn, Cond.selects RX10 yX10_turn yX10_turn, Cond.code yX10_turn cX10_turn 6 (some .long), Cond.methodLink RX10 254 yX10_led, Cond.instanceMethod yX10_led, Cond.selects RX10 yX10_led yX10_led, Cond.code yX10_led cX10_led 4 (some .int), Cond.methodLink RL 102 yX9_home, Cond.instanceMethod yX9_home, Cond.selects RX9 yX9_home yX9_home, Cond.code yX9_home cX9_home 1 (some .int), Cond.methodLink RX9 198 yX2_seek, Cond.instanceMethod yX2_seek, Cond.selects RX2 yX2_seek yX2_seek, Cond.code yX2_seek cX2_seek 3 (some .int), Cond.methodLink RX2 63 arraycopyName, Cond.native arraycopyName]
def wsL_law0_r30 : List Cond := [Cond.static arraycopyName, Cond.initialized "java/lang/System", Cond.methodLink RX2 49 yX2_chooseTurns, Cond.instanceMethod yX2_chooseTurns, Cond.selects RX2 yX2_chooseTurns yX2_chooseTurns, Cond.code yX2_chooseTurns cX2_chooseTurns 3 none, Cond.fieldLink RX2 72 "LabyrinthGarden$Garden" "places" "I", Cond.methodLink RX2 69 yX2_allEndsDivide, Cond.instanceMethod yX2_allEndsDivide, Cond.selects RX2 yX2_allEndsDivide yX2_allEndsDivide, Cond.code yX2_allEndsDivide cX2_allEndsDivide 4 (some .boolean), Cond.fieldLink RX2 78 "LabyrinthGarden$Garden" "junctions" "I", Cond.fieldLink RX2 81 "LabyrinthGarden$Garden" "endsOf" "[I", Cond.methodLink RX2 75 yX0_beyond, Cond.methodLink RX2 52 yX2_leastTurns, Cond.instanceMethod yX2_leastTurns, Cond.selects RX2 yX2_leastTurns yX2_leastTurns, Cond.code yX2_leastTurns cX2_leastTurns 2 (some .int), Cond.methodLink RX2 84 yX0_endsAt, Cond.methodLink RX2 88 yX0_placesWithEnds, Cond.methodLink RX2 91 yX2_partTwins, Cond.instanceMethod yX2_partTwins, Cond.selects RX2 yX2_partTwins yX2_partTwins, Cond.code yX2_partTwins cX2_partTwins 5 none]
def wsL_law0_r31 : List Cond := [Cond.methodLink RX2 102 yX2_anyTurnParts, Cond.instanceMethod yX2_anyTurnParts, Cond.selects RX2 yX2_anyTurnParts yX2_anyTurnParts, Cond.code yX2_anyTurnParts cX2_anyTurnParts 6 (some .boolean), Cond.methodLink RX2 95 yX2_hasTwins, Cond.instanceMethod yX2_hasTwins, Cond.selects RX2 yX2_hasTwins yX2_hasTwins, Cond.code yX2_hasTwins cX2_hasTwins 3 (some .boolean), Cond.methodLink RX2 56 yX2_begin, Cond.instanceMethod yX2_begin, Cond.selects RX2 yX2_begin yX2_begin, Cond.code yX2_begin cX2_begin 2 none, Cond.methodLink RX2 59 yX2_tellsWith, Cond.instanceMethod yX2_tellsWith, Cond.selects RX2 yX2_tellsWith yX2_tellsWith, Cond.code yX2_tellsWith cX2_tellsWith 5 (some .boolean), Cond.methodLink RX2 110 yX2_makeTurn, Cond.instanceMethod yX2_makeTurn, Cond.selects RX2 yX2_makeTurn yX2_makeTurn, Cond.code yX2_makeTurn cX2_makeTurn 7 none, Cond.methodLink RX2 113 yX2_isHopeless, Cond.instanceMethod yX2_isHopeless, Cond.selects RX2 yX2_isHopeless yX2_isHopeless, Cond.code yX2_isHopeless cX2_isHopeless 5 (some .boolean)]
def wsL_law0_r32 : List Cond := [Cond.methodLink RX2 119 yX2_meetsTwin, Cond.instanceMethod yX2_meetsTwin, Cond.selects RX2 yX2_meetsTwin yX2_meetsTwin, Cond.code yX2_meetsTwin cX2_meetsTwin 5 (some .boolean), Cond.methodLink RX2 116 yX2_nextTale, Cond.instanceMethod yX2_nextTale, Cond.selects RX2 yX2_nextTale yX2_nextTale, Cond.code yX2_nextTale cX2_nextTale 3 (some .int), Cond.methodLink RL 106 yX10_home, Cond.instanceMethod yX10_home, Cond.selects RX10 yX10_home yX10_home, Cond.code yX10_home cX10_home 6 (some .int), Cond.fieldLink RX10 260 "LabyrinthGardenModel" "homeMany" "I", Cond.methodLink RX10 257 yX10_tells, Cond.instanceMethod yX10_tells, Cond.selects RX10 yX10_tells yX10_tells, Cond.code yX10_tells cX10_tells 4 (some .boolean), Cond.methodLink RL 107 yX9_homing, Cond.instanceMethod yX9_homing, Cond.selects RX9 yX9_homing yX9_homing, Cond.code yX9_homing cX9_homing 2 (some .int), Cond.fieldLink RX9 201 "LabyrinthGarden$Homer" "keptCount" "I", Cond.fieldLink RX9 202 "LabyrinthGarden$Homer" "kept" "[I", Cond.methodLink RL 110 yX10_homing]
def wsL_law0_r33 : List Cond := [Cond.instanceMethod yX10_homing, Cond.selects RX10 yX10_homing yX10_homing, Cond.code yX10_homing cX10_homing 2 (some .int), Cond.methodLink RL 111 yL_look, Cond.static yL_look, Cond.initialized RL, Cond.codeWith yL_look cL_look 5 (some .int) [(0, 10, 13, 13), (0, 10, 17, 15)], Cond.classLink RL 13 "java/lang/IndexOutOfBoundsException", Cond.classLink RL 15 "java/util/NoSuchElementException", Cond.methodLink RL 7 yX9_look, Cond.instanceMethod yX9_look, Cond.selects RX9 yX9_look yX9_look, Cond.code yX9_look cX9_look 3 (some .int), Cond.classLink RX9 203 "java/lang/IndexOutOfBoundsException", Cond.initialized "java/lang/IndexOutOfBoundsException", Cond.classLink RX9 222 "java/util/NoSuchElementException", Cond.initialized "java/util/NoSuchElementException", Cond.fieldLink RX9 210 "LabyrinthGarden$Garden" "junctionAt" "[I", Cond.fieldLink RX9 213 "LabyrinthGarden$Garden" "endAt" "[I", Cond.fieldLink RX9 216 "LabyrinthGarden$Garden" "pathAt" "[I", Cond.fieldLink RX9 219 "LabyrinthGarden$Garden" "otherOf" "[I", Cond.methodLink RL 116 yX10_look, Cond.instanceMethod yX10_look, Cond.selects RX10 yX10_look yX10_look]
def wsL_law0_r34 : List Cond := [Cond.code yX10_look cX10_look 3 (some .int), Cond.methodLink RX10 263 yX10_fails, Cond.instanceMethod yX10_fails, Cond.selects RX10 yX10_fails yX10_fails, Cond.code yX10_fails cX10_fails 2 (some .int), Cond.methodLink RL 117 yX10_thrown, Cond.instanceMethod yX10_thrown, Cond.selects RX10 yX10_thrown yX10_thrown, Cond.code yX10_thrown cX10_thrown 1 (some .int), Cond.methodLink RL 120 yX9_count, Cond.instanceMethod yX9_count, Cond.selects RX9 yX9_count yX9_count, Cond.code yX9_count cX9_count 2 (some .int), Cond.fieldLink RX9 227 "LabyrinthGarden$Garden" "junctions" "I", Cond.fieldLink RX9 230 "LabyrinthGarden$Garden" "paths" "I", Cond.fieldLink RX9 238 "LabyrinthGarden$Tale" "turns" "I", Cond.methodLink RX9 233 yJ6_bitCount_0f7a4, Cond.methodLink RL 123 yX10_count, Cond.instanceMethod yX10_count, Cond.selects RX10 yX10_count yX10_count, Cond.code yX10_count cX10_count 4 (some .int)]
def wsL_law0 : List Cond := (wsL_law0_r1 ++ (wsL_law0_r2 ++ (wsL_law0_r3 ++ (wsL_law0_r4 ++ (wsL_law0_r5 ++ (wsL_law0_r6 ++ (wsL_law0_r7 ++ (wsL_law0_r8 ++ (wsL_law0_r9 ++ (wsL_law0_r10 ++ (wsL_law0_r11 ++ (wsL_law0_r12 ++ (wsL_law0_r13 ++ (wsL_law0_r14 ++ (wsL_law0_r15 ++ (wsL_law0_r16 ++ (wsL_law0_r17 ++ (wsL_law0_r18 ++ (wsL_law0_r19 ++ (wsL_law0_r20 ++ (wsL_law0_r21 ++ (wsL_law0_r22 ++ (wsL_law0_r23 ++ (wsL_law0_r24 ++ (wsL_law0_r25 ++ (wsL_law0_r26 ++ (wsL_law0_r27 ++ (wsL_law0_r28 ++ (wsL_law0_r29 ++ (wsL_law0_r30 ++ (wsL_law0_r31 ++ (wsL_law0_r32 ++ (wsL_law0_r33 ++ wsL_law0_r34))))))))))))))))))))))))))))))))) ++ wsX90 ++ wsX100 ++ wsX70 ++ wsX30 ++ wsX00 ++ wsX50 ++ wsX80 ++ wsX40 ++ wsX10 ++ wsX60 ++ wsX20 ++ ([] : List Cond)
abbrev vwCl : List vw_C := [(RX0, TX0, 16), (RX1, TX1, 5), (RX2, TX2, 11), (RX3, TX3, 11), (RX4, TX4, 1), (RX5, TX5, 7), (RX6, TX6, 3), (RX7, TX7, 2), (RX8, TX8, 5), (RX9, TX9, 10), (RX10, TX10, 55)]
theorem inX9 : ∀ w ∈ wsX90, w ∈ wsL_law0 := fun _ h => List.mem_append_left _ (List.mem_append_left _ (List.mem_append_left _ (List.mem_append_left _ (List.mem_append_left _ (List.mem_append_left _ (List.mem_append_left _ (List.mem_append_left _ (List.mem_append_left _ (List.mem_append_left _ (List.mem_append_left _ (List.mem_append_right _ h)))))))))))
theorem inX10 : ∀ w ∈ wsX100, w ∈ wsL_law0 := fun _ h => List.mem_append_left _ (List.mem_append_left _ (List.mem_append_left _ (List.mem_append_left _ (List.mem_append_left _ (List.mem_append_left _ (List.mem_append_left _ (List.mem_append_left _ (List.mem_append_left _ (List.mem_append_left _ (List.mem_append_right _ h))))))))))
theorem inX7 : ∀ w ∈ wsX70, w ∈ wsL_law0 := fun _ h => List.mem_append_left _ (List.mem_append_left _ (List.mem_append_left _ (List.mem_append_left _ (List.mem_append_left _ (List.mem_append_left _ (List.mem_append_left _ (List.mem_append_left _ (List.mem_append_left _ (List.mem_append_right _ h)))))))))
theorem inX3 : ∀ w ∈ wsX30, w ∈ wsL_law0 := fun _ h => List.mem_append_left _ (List.mem_append_left _ (List.mem_append_left _ (List.mem_append_left _ (List.mem_append_left _ (List.mem_append_left _ (List.mem_append_left _ (List.mem_append_left _ (List.mem_append_right _ h))))))))
theorem inX0 : ∀ w ∈ wsX00, w ∈ wsL_law0 := fun _ h => List.mem_append_left _ (List.mem_append_left _ (List.mem_append_left _ (List.mem_append_left _ (List.mem_append_left _ (List.mem_append_left _ (List.mem_append_left _ (List.mem_append_right _ h)))))))
theorem inX5 : ∀ w ∈ wsX50, w ∈ wsL_law0 := fun _ h => List.mem_append_left _ (List.mem_append_left _ (List.mem_append_left _ (List.mem_append_left _ (List.mem_append_left _ (List.mem_append_left _ (List.mem_append_right _ h))))))
theorem inX8 : ∀ w ∈ wsX80, w ∈ wsL_law0 := fun _ h => List.mem_append_left _ (List.mem_append_left _ (List.mem_append_left _ (List.mem_append_left _ (List.mem_append_left _ (List.mem_append_right _ h)))))
theorem inX4 : ∀ w ∈ wsX40, w ∈ wsL_law0 := fun _ h => List.mem_append_left _ (List.mem_append_left _ (List.mem_append_left _ (List.mem_append_left _ (List.mem_append_right _ h))))
theorem inX1 : ∀ w ∈ wsX10, w ∈ wsL_law0 := fun _ h => List.mem_append_left _ (List.mem_append_left _ (List.mem_append_left _ (List.mem_append_right _ h)))
theorem inX6 : ∀ w ∈ wsX60, w ∈ wsL_law0 := fun _ h => List.mem_append_left _ (List.mem_append_left _ (List.mem_append_right _ h))
theorem inX2 : ∀ w ∈ wsX20, w ∈ wsL_law0 := fun _ h => List.mem_append_left _ (List.mem_append_right _ h)
theorem in_r1 : ∀ w ∈ wsL_law0_r1, w ∈ wsL_law0 := fun _ h => List.mem_append_left _ (List.mem_append_left _ (List.mem_append_left _ (List.mem_append_left _ (List.mem_append_left _ (List.mem_append_left _ (List.mem_append_left _ (List.mem_append_left _ (List.mem_append_left _ (List.mem_append_left _ (List.mem_append_left _ (List.mem_append_left _ (List.mem_append_left _ h))))))))))))
theorem in_r2 : ∀ w ∈ wsL_law0_r2, w ∈ wsL_law0 := fun _ h => List.mem_append_left _ (List.mem_append_left _ (List.mem_append_left _ (List.mem_append_left _ (List.mem_append_left _ (List.mem_append_left _ (List.mem_append_left _ (List.mem_append_left _ (List.mem_append_left _ (List.mem_append_left _ (List.mem_append_left _ (List.mem_append_left _ (List.mem_append_right _ (List.mem_append_left _ h)))))))))))))
theorem in_r3 : ∀ w ∈ wsL_law0_r3, w ∈ wsL_law0 := fun _ h => List.mem_append_left _ (List.mem_append_left _ (List.mem_append_left _ (List.mem_append_left _ (List.mem_append_left _ (List.mem_append_left _ (List.mem_append_left _ (List.mem_append_left _ (List.mem_append_left _ (List.mem_append_left _ (List.mem_append_left _ (List.mem_append_left _ (List.mem_append_right _ (List.mem_append_right _ (List.mem_append_left _ h))))))))))))))
theorem in_r4 : ∀ w ∈ wsL_law0_r4, w ∈ wsL_law0 := fun _ h => List.mem_append_left _ (List.mem_append_left _ (List.mem_append_left _ (List.mem_append_left _ (List.mem_append_left _ (List.mem_append_left _ (List.mem_append_left _ (List.mem_append_left _ (List.mem_append_left _ (List.mem_append_left _ (List.mem_append_left _ (List.mem_append_left _ (List.mem_append_right _ (List.mem_append_right _ (List.mem_append_right _ (List.mem_append_left _ h)))))))))))))))
theorem in_r5 : ∀ w ∈ wsL_law0_r5, w ∈ wsL_law0 := fun _ h => List.mem_append_left _ (List.mem_append_left _ (List.mem_append_left _ (List.mem_append_left _ (List.mem_append_left _ (List.mem_append_left _ (List.mem_append_left _ (List.mem_append_left _ (List.mem_append_left _ (List.mem_append_left _ (List.mem_append_left _ (List.mem_append_left _ (List.mem_append_right _ (List.mem_append_right _ (List.mem_append_right _ (List.mem_append_right _ (List.mem_append_left _ h))))))))))))))))
theorem in_r6 : ∀ w ∈ wsL_law0_r6, w ∈ wsL_law0 := fun _ h => List.mem_append_left _ (List.mem_append_left _ (List.mem_append_left _ (List.mem_append_left _ (List.mem_append_left _ (List.mem_append_left _ (List.mem_append_left _ (List.mem_append_left _ (List.mem_append_left _ (List.mem_append_left _ (List.mem_append_left _ (List.mem_append_left _ (List.mem_append_right _ (List.mem_append_right _ (List.mem_append_right _ (List.mem_append_right _ (List.mem_append_right _ (List.mem_append_left _ h)))))))))))))))))
theorem in_r7 : ∀ w ∈ wsL_law0_r7, w ∈ wsL_law0 := fun _ h => List.mem_append_left _ (List.mem_append_left _ (List.mem_append_left _ (List.mem_append_left _ (List.mem_append_left _ (List.mem_append_left _ (List.mem_append_left _ (List.mem_append_left _ (List.mem_append_left _ (List.mem_append_left _ (List.mem_append_left _ (List.mem_append_left _ (List.mem_append_right _ (List.mem_append_right _ (List.mem_append_right _ (List.mem_append_right _ (List.mem_append_right _ (List.mem_append_right _ (List.mem_append_left _ h))))))))))))))))))
theorem in_r8 : ∀ w ∈ wsL_law0_r8, w ∈ wsL_law0 := fun _ h => List.mem_append_left _ (List.mem_append_left _ (List.mem_append_left _ (List.mem_append_left _ (List.mem_append_left _ (List.mem_append_left _ (List.mem_append_left _ (List.mem_append_left _ (List.mem_append_left _ (List.mem_append_left _ (List.mem_append_left _ (List.mem_append_left _ (List.mem_append_right _ (List.mem_append_right _ (List.mem_append_right _ (List.mem_append_right _ (List.mem_append_right _ (List.mem_append_right _ (List.mem_append_right _ (List.mem_append_left _ h)))))))))))))))))))
theorem in_r9 : ∀ w ∈ wsL_law0_r9, w ∈ wsL_law0 := fun _ h => List.mem_append_left _ (List.mem_append_left _ (List.mem_append_left _ (List.mem_append_left _ (List.mem_append_left _ (List.mem_append_left _ (List.mem_append_left _ (List.mem_append_left _ (List.mem_append_left _ (List.mem_append_left _ (List.mem_append_left _ (List.mem_append_left _ (List.mem_append_right _ (List.mem_append_right _ (List.mem_append_right _ (List.mem_append_right _ (List.mem_append_right _ (List.mem_append_right _ (List.mem_append_right _ (List.mem_append_right _ (List.mem_append_left _ h))))))))))))))))))))
theorem in_r10 : ∀ w ∈ wsL_law0_r10, w ∈ wsL_law0 := fun _ h => List.mem_append_left _ (List.mem_append_left _ (List.mem_append_left _ (List.mem_append_left _ (List.mem_append_left _ (List.mem_append_left _ (List.mem_append_left _ (List.mem_append_left _ (List.mem_append_left _ (List.mem_append_left _ (List.mem_append_left _ (List.mem_append_left _ (List.mem_append_right _ (List.mem_append_right _ (List.mem_append_right _ (List.mem_append_right _ (List.mem_append_right _ (List.mem_append_right _ (List.mem_append_right _ (List.mem_append_right _ (List.mem_append_right _ (List.mem_append_left _ h)))))))))))))))))))))
theorem in_r11 : ∀ w ∈ wsL_law0_r11, w ∈ wsL_law0 := fun _ h => List.mem_append_left _ (List.mem_append_left _ (List.mem_append_left _ (List.mem_append_left _ (List.mem_append_left _ (List.mem_append_left _ (List.mem_append_left _ (List.mem_append_left _ (List.mem_append_left _ (List.mem_append_left _ (List.mem_append_left _ (List.mem_append_left _ (List.mem_append_right _ (List.mem_append_right _ (List.mem_append_right _ (List.mem_append_right _ (List.mem_append_right _ (List.mem_append_right _ (List.mem_append_right _ (List.mem_append_right _ (List.mem_append_right _ (List.mem_append_right _ (List.mem_append_left _ h))))))))))))))))))))))
theorem in_r12 : ∀ w ∈ wsL_law0_r12, w ∈ wsL_law0 := fun _ h => List.mem_append_left _ (List.mem_append_left _ (List.mem_append_left _ (List.mem_append_left _ (List.mem_append_left _ (List.mem_append_left _ (List.mem_append_left _ (List.mem_append_left _ (List.mem_append_left _ (List.mem_append_left _ (List.mem_append_left _ (List.mem_append_left _ (List.mem_append_right _ (List.mem_append_right _ (List.mem_append_right _ (List.mem_append_right _ (List.mem_append_right _ (List.mem_append_right _ (List.mem_append_right _ (List.mem_append_right _ (List.mem_append_right _ (List.mem_append_right _ (List.mem_append_right _ (List.mem_append_left _ h)))))))))))))))))))))))
theorem in_r13 : ∀ w ∈ wsL_law0_r13, w ∈ wsL_law0 := fun _ h => List.mem_append_left _ (List.mem_append_left _ (List.mem_append_left _ (List.mem_append_left _ (List.mem_append_left _ (List.mem_append_left _ (List.mem_append_left _ (List.mem_append_left _ (List.mem_append_left _ (List.mem_append_left _ (List.mem_append_left _ (List.mem_append_left _ (List.mem_append_right _ (List.mem_append_right _ (List.mem_append_right _ (List.mem_append_right _ (List.mem_append_right _ (List.mem_append_right _ (List.mem_append_right _ (List.mem_append_right _ (List.mem_append_right _ (List.mem_append_right _ (List.mem_append_right _ (List.mem_append_right _ (List.mem_append_left _ h))))))))))))))))))))))))
theorem in_r14 : ∀ w ∈ wsL_law0_r14, w ∈ wsL_law0 := fun _ h => List.mem_append_left _ (List.mem_append_left _ (List.mem_append_left _ (List.mem_append_left _ (List.mem_append_left _ (List.mem_append_left _ (List.mem_append_left _ (List.mem_append_left _ (List.mem_append_left _ (List.mem_append_left _ (List.mem_append_left _ (List.mem_append_left _ (List.mem_append_right _ (List.mem_append_right _ (List.mem_append_right _ (List.mem_append_right _ (List.mem_append_right _ (List.mem_append_right _ (List.mem_append_right _ (List.mem_append_right _ (List.mem_append_right _ (List.mem_append_right _ (List.mem_append_right _ (List.mem_append_right _ (List.mem_append_right _ (List.mem_append_left _ h)))))))))))))))))))))))))
theorem in_r15 : ∀ w ∈ wsL_law0_r15, w ∈ wsL_law0 := fun _ h => List.mem_append_left _ (List.mem_append_left _ (List.mem_append_left _ (List.mem_append_left _ (List.mem_append_left _ (List.mem_append_left _ (List.mem_append_left _ (List.mem_append_left _ (List.mem_append_left _ (List.mem_append_left _ (List.mem_append_left _ (List.mem_append_left _ (List.mem_append_right _ (List.mem_append_right _ (List.mem_append_right _ (List.mem_append_right _ (List.mem_append_right _ (List.mem_append_right _ (List.mem_append_right _ (List.mem_append_right _ (List.mem_append_right _ (List.mem_append_right _ (List.mem_append_right _ (List.mem_append_right _ (List.mem_append_right _ (List.mem_append_right _ (List.mem_append_left _ h))))))))))))))))))))))))))
theorem in_r16 : ∀ w ∈ wsL_law0_r16, w ∈ wsL_law0 := fun _ h => List.mem_append_left _ (List.mem_append_left _ (List.mem_append_left _ (List.mem_append_left _ (List.mem_append_left _ (List.mem_append_left _ (List.mem_append_left _ (List.mem_append_left _ (List.mem_append_left _ (List.mem_append_left _ (List.mem_append_left _ (List.mem_append_left _ (List.mem_append_right _ (List.mem_append_right _ (List.mem_append_right _ (List.mem_append_right _ (List.mem_append_right _ (List.mem_append_right _ (List.mem_append_right _ (List.mem_append_right _ (List.mem_append_right _ (List.mem_append_right _ (List.mem_append_right _ (List.mem_append_right _ (List.mem_append_right _ (List.mem_append_right _ (List.mem_append_right _ (List.mem_append_left _ h)))))))))))))))))))))))))))
theorem in_r17 : ∀ w ∈ wsL_law0_r17, w ∈ wsL_law0 := fun _ h => List.mem_append_left _ (List.mem_append_left _ (List.mem_append_left _ (List.mem_append_left _ (List.mem_append_left _ (List.mem_append_left _ (List.mem_append_left _ (List.mem_append_left _ (List.mem_append_left _ (List.mem_append_left _ (List.mem_append_left _ (List.mem_append_left _ (List.mem_append_right _ (List.mem_append_right _ (List.mem_append_right _ (List.mem_append_right _ (List.mem_append_right _ (List.mem_append_right _ (List.mem_append_right _ (List.mem_append_right _ (List.mem_append_right _ (List.mem_append_right _ (List.mem_append_right _ (List.mem_append_right _ (List.mem_append_right _ (List.mem_append_right _ (List.mem_append_right _ (List.mem_append_right _ (List.mem_append_left _ h))))))))))))))))))))))))))))
theorem in_r18 : ∀ w ∈ wsL_law0_r18, w ∈ wsL_law0 := fun _ h => List.mem_append_left _ (List.mem_append_left _ (List.mem_append_left _ (List.mem_append_left _ (List.mem_append_left _ (List.mem_append_left _ (List.mem_append_left _ (List.mem_append_left _ (List.mem_append_left _ (List.mem_append_left _ (List.mem_append_left _ (List.mem_append_left _ (List.mem_append_right _ (List.mem_append_right _ (List.mem_append_right _ (List.mem_append_right _ (List.mem_append_right _ (List.mem_append_right _ (List.mem_append_right _ (List.mem_append_right _ (List.mem_append_right _ (List.mem_append_right _ (List.mem_append_right _ (List.mem_append_right _ (List.mem_append_right _ (List.mem_append_right _ (List.mem_append_right _ (List.mem_append_right _ (List.mem_append_right _ (List.mem_append_left _ h)))))))))))))))))))))))))))))
theorem in_r19 : ∀ w ∈ wsL_law0_r19, w ∈ wsL_law0 := fun _ h => List.mem_append_left _ (List.mem_append_left _ (List.mem_append_left _ (List.mem_append_left _ (List.mem_append_left _ (List.mem_append_left _ (List.mem_append_left _ (List.mem_append_left _ (List.mem_append_left _ (List.mem_append_left _ (List.mem_append_left _ (List.mem_append_left _ (List.mem_append_right _ (List.mem_append_right _ (List.mem_append_right _ (List.mem_append_right _ (List.mem_append_right _ (List.mem_append_right _ (List.mem_append_right _ (List.mem_append_right _ (List.mem_append_right _ (List.mem_append_right _ (List.mem_append_right _ (List.mem_append_right _ (List.mem_append_right _ (List.mem_append_right _ (List.mem_append_right _ (List.mem_append_right _ (List.mem_append_right _ (List.mem_append_right _ (List.mem_append_left _ h))))))))))))))))))))))))))))))
theorem in_r20 : ∀ w ∈ wsL_law0_r20, w ∈ wsL_law0 := fun _ h => List.mem_append_left _ (List.mem_append_left _ (List.mem_append_left _ (List.mem_append_left _ (List.mem_append_left _ (List.mem_append_left _ (List.mem_append_left _ (List.mem_append_left _ (List.mem_append_left _ (List.mem_append_left _ (List.mem_append_left _ (List.mem_append_left _ (List.mem_append_right _ (List.mem_append_right _ (List.mem_append_right _ (List.mem_append_right _ (List.mem_append_right _ (List.mem_append_right _ (List.mem_append_right _ (List.mem_append_right _ (List.mem_append_right _ (List.mem_append_right _ (List.mem_append_right _ (List.mem_append_right _ (List.mem_append_right _ (List.mem_append_right _ (List.mem_append_right _ (List.mem_append_right _ (List.mem_append_right _ (List.mem_append_right _ (List.mem_append_right _ (List.mem_append_left _ h)))))))))))))))))))))))))))))))
theorem in_r21 : ∀ w ∈ wsL_law0_r21, w ∈ wsL_law0 := fun _ h => List.mem_append_left _ (List.mem_append_left _ (List.mem_append_left _ (List.mem_append_left _ (List.mem_append_left _ (List.mem_append_left _ (List.mem_append_left _ (List.mem_append_left _ (List.mem_append_left _ (List.mem_append_left _ (List.mem_append_left _ (List.mem_append_left _ (List.mem_append_right _ (List.mem_append_right _ (List.mem_append_right _ (List.mem_append_right _ (List.mem_append_right _ (List.mem_append_right _ (List.mem_append_right _ (List.mem_append_right _ (List.mem_append_right _ (List.mem_append_right _ (List.mem_append_right _ (List.mem_append_right _ (List.mem_append_right _ (List.mem_append_right _ (List.mem_append_right _ (List.mem_append_right _ (List.mem_append_right _ (List.mem_append_right _ (List.mem_append_right _ (List.mem_append_right _ (List.mem_append_left _ h))))))))))))))))))))))))))))))))
theorem in_r22 : ∀ w ∈ wsL_law0_r22, w ∈ wsL_law0 := fun _ h => List.mem_append_left _ (List.mem_append_left _ (List.mem_append_left _ (List.mem_append_left _ (List.mem_append_left _ (List.mem_append_left _ (List.mem_append_left _ (List.mem_append_left _ (List.mem_append_left _ (List.mem_append_left _ (List.mem_append_left _ (List.mem_append_left _ (List.mem_append_right _ (List.mem_append_right _ (List.mem_append_right _ (List.mem_append_right _ (List.mem_append_right _ (List.mem_append_right _ (List.mem_append_right _ (List.mem_append_right _ (List.mem_append_right _ (List.mem_append_right _ (List.mem_append_right _ (List.mem_append_right _ (List.mem_append_right _ (List.mem_append_right _ (List.mem_append_right _ (List.mem_append_right _ (List.mem_append_right _ (List.mem_append_right _ (List.mem_append_right _ (List.mem_append_right _ (List.mem_append_right _ (List.mem_append_left _ h)))))))))))))))))))))))))))))))))
theorem in_r23 : ∀ w ∈ wsL_law0_r23, w ∈ wsL_law0 := fun _ h => List.mem_append_left _ (List.mem_append_left _ (List.mem_append_left _ (List.mem_append_left _ (List.mem_append_left _ (List.mem_append_left _ (List.mem_append_left _ (List.mem_append_left _ (List.mem_append_left _ (List.mem_append_left _ (List.mem_append_left _ (List.mem_append_left _ (List.mem_append_right _ (List.mem_append_right _ (List.mem_append_right _ (List.mem_append_right _ (List.mem_append_right _ (List.mem_append_right _ (List.mem_append_right _ (List.mem_append_right _ (List.mem_append_right _ (List.mem_append_right _ (List.mem_append_right _ (List.mem_append_right _ (List.mem_append_right _ (List.mem_append_right _ (List.mem_append_right _ (List.mem_append_right _ (List.mem_append_right _ (List.mem_append_right _ (List.mem_append_right _ (List.mem_append_right _ (List.mem_append_right _ (List.mem_append_right _ (List.mem_append_left _ h))))))))))))))))))))))))))))))))))
theorem in_r24 : ∀ w ∈ wsL_law0_r24, w ∈ wsL_law0 := fun _ h => List.mem_append_left _ (List.mem_append_left _ (List.mem_append_left _ (List.mem_append_left _ (List.mem_append_left _ (List.mem_append_left _ (List.mem_append_left _ (List.mem_append_left _ (List.mem_append_left _ (List.mem_append_left _ (List.mem_append_left _ (List.mem_append_left _ (List.mem_append_right _ (List.mem_append_right _ (List.mem_append_right _ (List.mem_append_right _ (List.mem_append_right _ (List.mem_append_right _ (List.mem_append_right _ (List.mem_append_right _ (List.mem_append_right _ (List.mem_append_right _ (List.mem_append_right _ (List.mem_append_right _ (List.mem_append_right _ (List.mem_append_right _ (List.mem_append_right _ (List.mem_append_right _ (List.mem_append_right _ (List.mem_append_right _ (List.mem_append_right _ (List.mem_append_right _ (List.mem_append_right _ (List.mem_append_right _ (List.mem_append_right _ (List.mem_append_left _ h)))))))))))))))))))))))))))))))))))
theorem in_r25 : ∀ w ∈ wsL_law0_r25, w ∈ wsL_law0 := fun _ h => List.mem_append_left _ (List.mem_append_left _ (List.mem_append_left _ (List.mem_append_left _ (List.mem_append_left _ (List.mem_append_left _ (List.mem_append_left _ (List.mem_append_left _ (List.mem_append_left _ (List.mem_append_left _ (List.mem_append_left _ (List.mem_append_left _ (List.mem_append_right _ (List.mem_append_right _ (List.mem_append_right _ (List.mem_append_right _ (List.mem_append_right _ (List.mem_append_right _ (List.mem_append_right _ (List.mem_append_right _ (List.mem_append_right _ (List.mem_append_right _ (List.mem_append_right _ (List.mem_append_right _ (List.mem_append_right _ (List.mem_append_right _ (List.mem_append_right _ (List.mem_append_right _ (List.mem_append_right _ (List.mem_append_right _ (List.mem_append_right _ (List.mem_append_right _ (List.mem_append_right _ (List.mem_append_right _ (List.mem_append_right _ (List.mem_append_right _ (List.mem_append_left _ h))))))))))))))))))))))))))))))))))))
theorem in_r26 : ∀ w ∈ wsL_law0_r26, w ∈ wsL_law0 := fun _ h => List.mem_append_left _ (List.mem_append_left _ (List.mem_append_left _ (List.mem_append_left _ (List.mem_append_left _ (List.mem_append_left _ (List.mem_append_left _ (List.mem_append_left _ (List.mem_append_left _ (List.mem_append_left _ (List.mem_append_left _ (List.mem_append_left _ (List.mem_append_right _ (List.mem_append_right _ (List.mem_append_right _ (List.mem_append_right _ (List.mem_append_right _ (List.mem_append_right _ (List.mem_append_right _ (List.mem_append_right _ (List.mem_append_right _ (List.mem_append_right _ (List.mem_append_right _ (List.mem_append_right _ (List.mem_append_right _ (List.mem_append_right _ (List.mem_append_right _ (List.mem_append_right _ (List.mem_append_right _ (List.mem_append_right _ (List.mem_append_right _ (List.mem_append_right _ (List.mem_append_right _ (List.mem_append_right _ (List.mem_append_right _ (List.mem_append_right _ (List.mem_append_right _ (List.mem_append_left _ h)))))))))))))))))))))))))))))))))))))
theorem in_r27 : ∀ w ∈ wsL_law0_r27, w ∈ wsL_law0 := fun _ h => List.mem_append_left _ (List.mem_append_left _ (List.mem_append_left _ (List.mem_append_left _ (List.mem_append_left _ (List.mem_append_left _ (List.mem_append_left _ (List.mem_append_left _ (List.mem_append_left _ (List.mem_append_left _ (List.mem_append_left _ (List.mem_append_left _ (List.mem_append_right _ (List.mem_append_right _ (List.mem_append_right _ (List.mem_append_right _ (List.mem_append_right _ (List.mem_append_right _ (List.mem_append_right _ (List.mem_append_right _ (List.mem_append_right _ (List.mem_append_right _ (List.mem_append_right _ (List.mem_append_right _ (List.mem_append_right _ (List.mem_append_right _ (List.mem_append_right _ (List.mem_append_right _ (List.mem_append_right _ (List.mem_append_right _ (List.mem_append_right _ (List.mem_append_right _ (List.mem_append_right _ (List.mem_append_right _ (List.mem_append_right _ (List.mem_append_right _ (List.mem_append_right _ (List.mem_append_right _ (List.mem_append_left _ h))))))))))))))))))))))))))))))))))))))
theorem in_r28 : ∀ w ∈ wsL_law0_r28, w ∈ wsL_law0 := fun _ h => List.mem_append_left _ (List.mem_append_left _ (List.mem_append_left _ (List.mem_append_left _ (List.mem_append_left _ (List.mem_append_left _ (List.mem_append_left _ (List.mem_append_left _ (List.mem_append_left _ (List.mem_append_left _ (List.mem_append_left _ (List.mem_append_left _ (List.mem_append_right _ (List.mem_append_right _ (List.mem_append_right _ (List.mem_append_right _ (List.mem_append_right _ (List.mem_append_right _ (List.mem_append_right _ (List.mem_append_right _ (List.mem_append_right _ (List.mem_append_right _ (List.mem_append_right _ (List.mem_append_right _ (List.mem_append_right _ (List.mem_append_right _ (List.mem_append_right _ (List.mem_append_right _ (List.mem_append_right _ (List.mem_append_right _ (List.mem_append_right _ (List.mem_append_right _ (List.mem_append_right _ (List.mem_append_right _ (List.mem_append_right _ (List.mem_append_right _ (List.mem_append_right _ (List.mem_append_right _ (List.mem_append_right _ (List.mem_append_left _ h)))))))))))))))))))))))))))))))))))))))
theorem in_r29 : ∀ w ∈ wsL_law0_r29, w ∈ wsL_law0 := fun _ h => List.mem_append_left _ (List.mem_append_left _ (List.mem_append_left _ (List.mem_append_left _ (List.mem_append_left _ (List.mem_append_left _ (List.mem_append_left _ (List.mem_append_left _ (List.mem_append_left _ (List.mem_append_left _ (List.mem_append_left _ (List.mem_append_left _ (List.mem_append_right _ (List.mem_append_right _ (List.mem_append_right _ (List.mem_append_right _ (List.mem_append_right _ (List.mem_append_right _ (List.mem_append_right _ (List.mem_append_right _ (List.mem_append_right _ (List.mem_append_right _ (List.mem_append_right _ (List.mem_append_right _ (List.mem_append_right _ (List.mem_append_right _ (List.mem_append_right _ (List.mem_append_right _ (List.mem_append_right _ (List.mem_append_right _ (List.mem_append_right _ (List.mem_append_right _ (List.mem_append_right _ (List.mem_append_right _ (List.mem_append_right _ (List.mem_append_right _ (List.mem_append_right _ (List.mem_append_right _ (List.mem_append_right _ (List.mem_append_right _ (List.mem_append_left _ h))))))))))))))))))))))))))))))))))))))))
theorem in_r30 : ∀ w ∈ wsL_law0_r30, w ∈ wsL_law0 := fun _ h => List.mem_append_left _ (List.mem_append_left _ (List.mem_append_left _ (List.mem_append_left _ (List.mem_append_left _ (List.mem_append_left _ (List.mem_append_left _ (List.mem_append_left _ (List.mem_append_left _ (List.mem_append_left _ (List.mem_append_left _ (List.mem_append_left _ (List.mem_append_right _ (List.mem_append_right _ (List.mem_append_right _ (List.mem_append_right _ (List.mem_append_right _ (List.mem_append_right _ (List.mem_append_right _ (List.mem_append_right _ (List.mem_append_right _ (List.mem_append_right _ (List.mem_append_right _ (List.mem_append_right _ (List.mem_append_right _ (List.mem_append_right _ (List.mem_append_right _ (List.mem_append_right _ (List.mem_append_right _ (List.mem_append_right _ (List.mem_append_right _ (List.mem_append_right _ (List.mem_append_right _ (List.mem_append_right _ (List.mem_append_right _ (List.mem_append_right _ (List.mem_append_right _ (List.mem_append_right _ (List.mem_append_right _ (List.mem_append_right _ (List.mem_append_right _ (List.mem_append_left _ h)))))))))))))))))))))))))))))))))))))))))
theorem in_r31 : ∀ w ∈ wsL_law0_r31, w ∈ wsL_law0 := fun _ h => List.mem_append_left _ (List.mem_append_left _ (List.mem_append_left _ (List.mem_append_left _ (List.mem_append_left _ (List.mem_append_left _ (List.mem_append_left _ (List.mem_append_left _ (List.mem_append_left _ (List.mem_append_left _ (List.mem_append_left _ (List.mem_append_left _ (List.mem_append_right _ (List.mem_append_right _ (List.mem_append_right _ (List.mem_append_right _ (List.mem_append_right _ (List.mem_append_right _ (List.mem_append_right _ (List.mem_append_right _ (List.mem_append_right _ (List.mem_append_right _ (List.mem_append_right _ (List.mem_append_right _ (List.mem_append_right _ (List.mem_append_right _ (List.mem_append_right _ (List.mem_append_right _ (List.mem_append_right _ (List.mem_append_right _ (List.mem_append_right _ (List.mem_append_right _ (List.mem_append_right _ (List.mem_append_right _ (List.mem_append_right _ (List.mem_append_right _ (List.mem_append_right _ (List.mem_append_right _ (List.mem_append_right _ (List.mem_append_right _ (List.mem_append_right _ (List.mem_append_right _ (List.mem_append_left _ h))))))))))))))))))))))))))))))))))))))))))
theorem in_r32 : ∀ w ∈ wsL_law0_r32, w ∈ wsL_law0 := fun _ h => List.mem_append_left _ (List.mem_append_left _ (List.mem_append_left _ (List.mem_append_left _ (List.mem_append_left _ (List.mem_append_left _ (List.mem_append_left _ (List.mem_append_left _ (List.mem_append_left _ (List.mem_append_left _ (List.mem_append_left _ (List.mem_append_left _ (List.mem_append_right _ (List.mem_append_right _ (List.mem_append_right _ (List.mem_append_right _ (List.mem_append_right _ (List.mem_append_right _ (List.mem_append_right _ (List.mem_append_right _ (List.mem_append_right _ (List.mem_append_right _ (List.mem_append_right _ (List.mem_append_right _ (List.mem_append_right _ (List.mem_append_right _ (List.mem_append_right _ (List.mem_append_right _ (List.mem_append_right _ (List.mem_append_right _ (List.mem_append_right _ (List.mem_append_right _ (List.mem_append_right _ (List.mem_append_right _ (List.mem_append_right _ (List.mem_append_right _ (List.mem_append_right _ (List.mem_append_right _ (List.mem_append_right _ (List.mem_append_right _ (List.mem_append_right _ (List.mem_append_right _ (List.mem_append_right _ (List.mem_append_left _ h)))))))))))))))))))))))))))))))))))))))))))
theorem in_r33 : ∀ w ∈ wsL_law0_r33, w ∈ wsL_law0 := fun _ h => List.mem_append_left _ (List.mem_append_left _ (List.mem_append_left _ (List.mem_append_left _ (List.mem_append_left _ (List.mem_append_left _ (List.mem_append_left _ (List.mem_append_left _ (List.mem_append_left _ (List.mem_append_left _ (List.mem_append_left _ (List.mem_append_left _ (List.mem_append_right _ (List.mem_append_right _ (List.mem_append_right _ (List.mem_append_right _ (List.mem_append_right _ (List.mem_append_right _ (List.mem_append_right _ (List.mem_append_right _ (List.mem_append_right _ (List.mem_append_right _ (List.mem_append_right _ (List.mem_append_right _ (List.mem_append_right _ (List.mem_append_right _ (List.mem_append_right _ (List.mem_append_right _ (List.mem_append_right _ (List.mem_append_right _ (List.mem_append_right _ (List.mem_append_right _ (List.mem_append_right _ (List.mem_append_right _ (List.mem_append_right _ (List.mem_append_right _ (List.mem_append_right _ (List.mem_append_right _ (List.mem_append_right _ (List.mem_append_right _ (List.mem_append_right _ (List.mem_append_right _ (List.mem_append_right _ (List.mem_append_right _ (List.mem_append_left _ h))))))))))))))))))))))))))))))))))))))))))))
theorem in_r34 : ∀ w ∈ wsL_law0_r34, w ∈ wsL_law0 := fun _ h => List.mem_append_left _ (List.mem_append_left _ (List.mem_append_left _ (List.mem_append_left _ (List.mem_append_left _ (List.mem_append_left _ (List.mem_append_left _ (List.mem_append_left _ (List.mem_append_left _ (List.mem_append_left _ (List.mem_append_left _ (List.mem_append_left _ (List.mem_append_right _ (List.mem_append_right _ (List.mem_append_right _ (List.mem_append_right _ (List.mem_append_right _ (List.mem_append_right _ (List.mem_append_right _ (List.mem_append_right _ (List.mem_append_right _ (List.mem_append_right _ (List.mem_append_right _ (List.mem_append_right _ (List.mem_append_right _ (List.mem_append_right _ (List.mem_append_right _ (List.mem_append_right _ (List.mem_append_right _ (List.mem_append_right _ (List.mem_append_right _ (List.mem_append_right _ (List.mem_append_right _ (List.mem_append_right _ (List.mem_append_right _ (List.mem_append_right _ (List.mem_append_right _ (List.mem_append_right _ (List.mem_append_right _ (List.mem_append_right _ (List.mem_append_right _ (List.mem_append_right _ (List.mem_append_right _ (List.mem_append_right _ (List.mem_append_right _ h))))))))))))))))))))))))))))))))))))))))))))
set_option maxRecDepth 20000 in
theorem big_good : wsL_law0.all goodWord = true := by decide +kernel
