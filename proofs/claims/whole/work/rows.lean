section
/-! ===== BEGIN words of one list among another's, by their places ===== -/
theorem goodIn_r {big : List Cond} (ws : List Cond) (ps : List Nat) (hp : ws = ps.filterMap (fun i => big[i]?)) (h : ws.all goodWord = true) : GoodIn big ws := by
  intro w hw
  have h1 := List.all_eq_true.mp h w hw
  rw [hp] at hw
  obtain ⟨i, -, hi⟩ := List.mem_filterMap.mp hw
  have hm : w ∈ big := by first | exact List.mem_of_getElem? hi | exact List.getElem?_mem hi
  exact ⟨hm, good_of_word h1⟩
theorem goodIn_app {big a b : List Cond} (ha : GoodIn big a) (hb : GoodIn big b) : GoodIn big (a ++ b) := fun w h => (List.mem_append.mp h).elim (ha w) (hb w)
theorem goodIn_ca {big a b : List Cond} {c : Cond} (ha : GoodIn big (c :: a)) (hb : GoodIn big b) : GoodIn big (c :: (a ++ b)) := fun w h => (List.mem_cons.mp h).elim (fun e => ha w (List.mem_cons.mpr (Or.inl e))) (fun h => (List.mem_append.mp h).elim (fun h => ha w (List.mem_cons.mpr (Or.inr h))) (hb w))
theorem goodIn_sub {big ws : List Cond} (hm : ∀ w ∈ ws, w ∈ big) (h : ws.all goodWord = true) : GoodIn big ws := fun w hw => ⟨hm w hw, good_of_word (List.all_eq_true.mp h w hw)⟩
/-! ===== END ===== -/

/-! ===== BEGIN printed: names, fields, word lists, decode rows ===== -/
def RX0 : String := "PlusCodes$Ballot"
def TX0 : u_T := fun k => match k with
  | 0 => ("PlusCodes$Ballot", "message", "I", false)
  | 1 => ("PlusCodes$Ballot", "mended", "I", false)
  | 2 => ("PlusCodes$Ballot", "ties", "I", false)
  | 3 => ("PlusCodes$Ballot", "closest", "I", false)
  | _ => ("PlusCodes$Ballot", "margin", "I", false)
def tyX0 : Nat → FieldType := fun k => match k with
  | 0 => .int
  | 1 => .int
  | 2 => .int
  | 3 => .int
  | _ => .int
abbrev wsX00 : List Cond := u_ws RX0 TX0 5
theorem nmX0 : ∀ a, a < 5 → ∀ b, b < 5 → a ≠ b → (TX0 a).2.1 ≠ (TX0 b).2.1 := by decide +kernel
theorem tyX0_ok : ∀ k, k < 5 → parseFieldDescriptor (TX0 k).2.2.1 = some (tyX0 k) := by decide +kernel
abbrev cX0_init : ByteArray := prog_2_method_1_code
def yX0_init : MethodName := ⟨RX0, "<init>", "()V"⟩
abbrev cX0_hold : ByteArray := prog_2_method_2_code
def yX0_hold : MethodName := ⟨RX0, "hold", "(LPlusCodes$Code;I)V"⟩
abbrev cX0_wordVoted : ByteArray := prog_2_method_3_code
def yX0_wordVoted : MethodName := ⟨RX0, "wordVoted", "(LPlusCodes$Code;II)I"⟩
abbrev cX0_isCarried : ByteArray := prog_2_method_4_code
def yX0_isCarried : MethodName := ⟨RX0, "isCarried", "(LPlusCodes$Code;II)Z"⟩
def RX1 : String := "PlusCodes$Code"
def TX1 : u_T := fun k => match k with
  | 0 => ("PlusCodes$Code", "order", "I", false)
  | 1 => ("PlusCodes$Code", "length", "I", false)
  | 2 => ("PlusCodes$Code", "places", "I", false)
  | 3 => ("PlusCodes$Code", "count", "I", false)
  | _ => ("PlusCodes$Code", "terms", "[I", true)
def tyX1 : Nat → FieldType := fun k => match k with
  | 0 => .int
  | 1 => .int
  | 2 => .int
  | 3 => .int
  | _ => .array .int
abbrev wsX10 : List Cond := u_ws RX1 TX1 5
theorem nmX1 : ∀ a, a < 5 → ∀ b, b < 5 → a ≠ b → (TX1 a).2.1 ≠ (TX1 b).2.1 := by decide +kernel
theorem tyX1_ok : ∀ k, k < 5 → parseFieldDescriptor (TX1 k).2.2.1 = some (tyX1 k) := by decide +kernel
abbrev cX1_init : ByteArray := prog_3_method_1_code
def yX1_init : MethodName := ⟨RX1, "<init>", "()V"⟩
abbrev cX1_become : ByteArray := prog_3_method_2_code
def yX1_become : MethodName := ⟨RX1, "become", "(II)V"⟩
abbrev cX1_distance : ByteArray := prog_3_method_3_code
def yX1_distance : MethodName := ⟨RX1, "distance", "()I"⟩
abbrev cX1_allPlaces : ByteArray := prog_3_method_4_code
def yX1_allPlaces : MethodName := ⟨RX1, "allPlaces", "()I"⟩
abbrev cX1_allTerms : ByteArray := prog_3_method_5_code
def yX1_allTerms : MethodName := ⟨RX1, "allTerms", "()I"⟩
abbrev cX1_hasPlace : ByteArray := prog_3_method_6_code
def yX1_hasPlace : MethodName := ⟨RX1, "hasPlace", "(I)Z"⟩
abbrev cX1_canBeWalked : ByteArray := prog_3_method_7_code
def yX1_canBeWalked : MethodName := ⟨RX1, "canBeWalked", "()Z"⟩
abbrev cX1_summed : ByteArray := prog_3_method_8_code
def yX1_summed : MethodName := ⟨RX1, "summed", "(I)I"⟩
abbrev cX1_wordOfTerm : ByteArray := prog_3_method_9_code
def yX1_wordOfTerm : MethodName := ⟨RX1, "wordOfTerm", "(I)I"⟩
abbrev cX1_wordOf : ByteArray := prog_3_method_10_code
def yX1_wordOf : MethodName := ⟨RX1, "wordOf", "(I)I"⟩
abbrev cX1_termPlaces : ByteArray := prog_3_method_11_code
def yX1_termPlaces : MethodName := ⟨RX1, "termPlaces", "()I"⟩
abbrev cX1_setAt : ByteArray := prog_3_method_12_code
def yX1_setAt : MethodName := ⟨RX1, "setAt", "(I)I"⟩
def RX2 : String := "PlusCodes$Halver"
def TX2 : u_T := fun k => match k with
  | _ => ("PlusCodes$Halver", "rows", "[[I", true)
def tyX2 : Nat → FieldType := fun k => match k with
  | _ => .array (.array .int)
abbrev wsX20 : List Cond := u_ws RX2 TX2 1
theorem nmX2 : ∀ a, a < 1 → ∀ b, b < 1 → a ≠ b → (TX2 a).2.1 ≠ (TX2 b).2.1 := by decide +kernel
theorem tyX2_ok : ∀ k, k < 1 → parseFieldDescriptor (TX2 k).2.2.1 = some (tyX2 k) := by decide +kernel
abbrev cX2_init : ByteArray := prog_4_method_1_code
def yX2_init : MethodName := ⟨RX2, "<init>", "()V"⟩
abbrev cX2_solve : ByteArray := prog_4_method_2_code
def yX2_solve : MethodName := ⟨RX2, "solve", "(LPlusCodes$Code;[I)I"⟩
abbrev cX2_wordFor : ByteArray := prog_4_method_3_code
def yX2_wordFor : MethodName := ⟨RX2, "wordFor", "(II)I"⟩
abbrev cX2_allAlike : ByteArray := prog_4_method_4_code
def yX2_allAlike : MethodName := ⟨RX2, "allAlike", "(I)I"⟩
abbrev cX2_eachAlone : ByteArray := prog_4_method_5_code
def yX2_eachAlone : MethodName := ⟨RX2, "eachAlone", "(I)I"⟩
abbrev cX2_putLesser : ByteArray := prog_4_method_6_code
def yX2_putLesser : MethodName := ⟨RX2, "putLesser", "(I)V"⟩
abbrev cX2_putTogether : ByteArray := prog_4_method_7_code
def yX2_putTogether : MethodName := ⟨RX2, "putTogether", "(II)V"⟩
def RX3 : String := "PlusCodes$Merits"
def TX3 : u_T := fun k => match k with
  | _ => ("PlusCodes$Merits", "sums", "[I", true)
def tyX3 : Nat → FieldType := fun k => match k with
  | _ => .array .int
abbrev wsX30 : List Cond := u_ws RX3 TX3 1
theorem nmX3 : ∀ a, a < 1 → ∀ b, b < 1 → a ≠ b → (TX3 a).2.1 ≠ (TX3 b).2.1 := by decide +kernel
theorem tyX3_ok : ∀ k, k < 1 → parseFieldDescriptor (TX3 k).2.2.1 = some (tyX3 k) := by decide +kernel
abbrev cX3_init : ByteArray := prog_5_method_1_code
def yX3_init : MethodName := ⟨RX3, "<init>", "()V"⟩
abbrev cX3_weigh : ByteArray := prog_5_method_2_code
def yX3_weigh : MethodName := ⟨RX3, "weigh", "([I)V"⟩
abbrev cX3_sumFor : ByteArray := prog_5_method_3_code
def yX3_sumFor : MethodName := ⟨RX3, "sumFor", "(I)I"⟩
def RX4 : String := "PlusCodes$Past"
def TX4 : u_T := fun k => match k with
  | 0 => ("PlusCodes$Past", "ring", "[LPlusCodes$State;", true)
  | 1 => ("PlusCodes$Past", "next", "I", false)
  | _ => ("PlusCodes$Past", "count", "I", false)
def tyX4 : Nat → FieldType := fun k => match k with
  | 0 => .array (.object "PlusCodes$State")
  | 1 => .int
  | _ => .int
abbrev wsX40 : List Cond := u_ws RX4 TX4 3
theorem nmX4 : ∀ a, a < 3 → ∀ b, b < 3 → a ≠ b → (TX4 a).2.1 ≠ (TX4 b).2.1 := by decide +kernel
theorem tyX4_ok : ∀ k, k < 3 → parseFieldDescriptor (TX4 k).2.2.1 = some (tyX4 k) := by decide +kernel
abbrev cX4_init : ByteArray := prog_6_method_1_code
def yX4_init : MethodName := ⟨RX4, "<init>", "()V"⟩
abbrev cX4_keep : ByteArray := prog_6_method_2_code
def yX4_keep : MethodName := ⟨RX4, "keep", "(LPlusCodes$State;)V"⟩
abbrev cX4_giveBack : ByteArray := prog_6_method_3_code
def yX4_giveBack : MethodName := ⟨RX4, "giveBack", "(LPlusCodes$State;)V"⟩
def RX5 : String := "PlusCodes$State"
def TX5 : u_T := fun k => match k with
  | 0 => ("PlusCodes$State", "code", "LPlusCodes$Code;", true)
  | 1 => ("PlusCodes$State", "soft", "[I", true)
  | _ => ("PlusCodes$State", "word", "I", false)
def tyX5 : Nat → FieldType := fun k => match k with
  | 0 => .object "PlusCodes$Code"
  | 1 => .array .int
  | _ => .int
abbrev wsX50 : List Cond := u_ws RX5 TX5 3
theorem nmX5 : ∀ a, a < 3 → ∀ b, b < 3 → a ≠ b → (TX5 a).2.1 ≠ (TX5 b).2.1 := by decide +kernel
theorem tyX5_ok : ∀ k, k < 3 → parseFieldDescriptor (TX5 k).2.2.1 = some (tyX5 k) := by decide +kernel
abbrev cX5_init : ByteArray := prog_7_method_1_code
def yX5_init : MethodName := ⟨RX5, "<init>", "()V"⟩
abbrev cX5_start : ByteArray := prog_7_method_2_code
def yX5_start : MethodName := ⟨RX5, "start", "(II)V"⟩
abbrev cX5_copy : ByteArray := prog_7_method_3_code
def yX5_copy : MethodName := ⟨RX5, "copy", "(LPlusCodes$State;)V"⟩
abbrev cX5_bit : ByteArray := prog_7_method_4_code
def yX5_bit : MethodName := ⟨RX5, "bit", "(I)I"⟩
def RX6 : String := "PlusCodes$Text"
def TX6 : u_T := fun k => match k with
  | 0 => ("PlusCodes$Text", "bytes", "[B", true)
  | 1 => ("PlusCodes$Text", "next", "I", false)
  | 2 => ("PlusCodes$Text", "size", "I", false)
  | _ => ("PlusCodes$Text", "fault", "I", false)
def tyX6 : Nat → FieldType := fun k => match k with
  | 0 => .array .byte
  | 1 => .int
  | 2 => .int
  | _ => .int
abbrev wsX60 : List Cond := u_ws RX6 TX6 4
theorem nmX6 : ∀ a, a < 4 → ∀ b, b < 4 → a ≠ b → (TX6 a).2.1 ≠ (TX6 b).2.1 := by decide +kernel
theorem tyX6_ok : ∀ k, k < 4 → parseFieldDescriptor (TX6 k).2.2.1 = some (tyX6 k) := by decide +kernel
abbrev cX6_init : ByteArray := prog_8_method_1_code
def yX6_init : MethodName := ⟨RX6, "<init>", "()V"⟩
abbrev cX6_append : ByteArray := prog_8_method_2_code
def yX6_append : MethodName := ⟨RX6, "append", "(I)V"⟩
abbrev cX6_rewind : ByteArray := prog_8_method_3_code
def yX6_rewind : MethodName := ⟨RX6, "rewind", "()V"⟩
abbrev cX6_isAtEnd : ByteArray := prog_8_method_4_code
def yX6_isAtEnd : MethodName := ⟨RX6, "isAtEnd", "()Z"⟩
abbrev cX6_readOneOf : ByteArray := prog_8_method_5_code
def yX6_readOneOf : MethodName := ⟨RX6, "readOneOf", "(Ljava/lang/String;)I"⟩
abbrev cX6_readNumber : ByteArray := prog_8_method_6_code
def yX6_readNumber : MethodName := ⟨RX6, "readNumber", "(II)I"⟩
abbrev cX6_readHex : ByteArray := prog_8_method_7_code
def yX6_readHex : MethodName := ⟨RX6, "readHex", "(I)I"⟩
abbrev cX6_hexValue : ByteArray := prog_8_method_8_code
def yX6_hexValue : MethodName := ⟨RX6, "hexValue", "(I)I"⟩
abbrev cX6_skipBlanks : ByteArray := prog_8_method_9_code
def yX6_skipBlanks : MethodName := ⟨RX6, "skipBlanks", "()V"⟩
abbrev cX6_failAt : ByteArray := prog_8_method_10_code
def yX6_failAt : MethodName := ⟨RX6, "failAt", "(I)V"⟩
def RX7 : String := "PlusCodes$Walk"
def TX7 : u_T := fun k => match k with
  | 0 => ("PlusCodes$Walk", "steps", "[I", true)
  | 1 => ("PlusCodes$Walk", "messages", "I", false)
  | 2 => ("PlusCodes$Walk", "word", "I", false)
  | 3 => ("PlusCodes$Walk", "least", "I", false)
  | 4 => ("PlusCodes$Walk", "asNear", "I", false)
  | _ => ("PlusCodes$Walk", "found", "I", false)
def tyX7 : Nat → FieldType := fun k => match k with
  | 0 => .array .int
  | 1 => .int
  | 2 => .int
  | 3 => .int
  | 4 => .int
  | _ => .int
abbrev wsX70 : List Cond := u_ws RX7 TX7 6
theorem nmX7 : ∀ a, a < 6 → ∀ b, b < 6 → a ≠ b → (TX7 a).2.1 ≠ (TX7 b).2.1 := by decide +kernel
theorem tyX7_ok : ∀ k, k < 6 → parseFieldDescriptor (TX7 k).2.2.1 = some (tyX7 k) := by decide +kernel
abbrev cX7_init : ByteArray := prog_9_method_1_code
def yX7_init : MethodName := ⟨RX7, "<init>", "()V"⟩
abbrev cX7_seek : ByteArray := prog_9_method_2_code
def yX7_seek : MethodName := ⟨RX7, "seek", "(LPlusCodes$Code;I)V"⟩
abbrev cX7_howManyWeigh : ByteArray := prog_9_method_3_code
def yX7_howManyWeigh : MethodName := ⟨RX7, "howManyWeigh", "(LPlusCodes$Code;I)I"⟩
abbrev cX7_greatest : ByteArray := prog_9_method_4_code
def yX7_greatest : MethodName := ⟨RX7, "greatest", "(LPlusCodes$Code;LPlusCodes$Merits;)I"⟩
abbrev cX7_prepare : ByteArray := prog_9_method_5_code
def yX7_prepare : MethodName := ⟨RX7, "prepare", "(LPlusCodes$Code;)V"⟩
abbrev cX7_stepTo : ByteArray := prog_9_method_6_code
def yX7_stepTo : MethodName := ⟨RX7, "stepTo", "(I)V"⟩
def RX8 : String := "PlusCodes"
def TX8 : u_T := fun k => match k with
  | 0 => ("PlusCodes", "live", "LPlusCodes$State;", true)
  | 1 => ("PlusCodes", "before", "LPlusCodes$State;", true)
  | 2 => ("PlusCodes", "past", "LPlusCodes$Past;", true)
  | 3 => ("PlusCodes", "text", "LPlusCodes$Text;", true)
  | 4 => ("PlusCodes", "ballot", "LPlusCodes$Ballot;", true)
  | 5 => ("PlusCodes", "halver", "LPlusCodes$Halver;", true)
  | 6 => ("PlusCodes", "merits", "LPlusCodes$Merits;", true)
  | 7 => ("PlusCodes", "walk", "LPlusCodes$Walk;", true)
  | 8 => ("PlusCodes", "badTimes", "I", false)
  | 9 => ("PlusCodes", "noTimes", "I", false)
  | _ => ("PlusCodes", "fullTimes", "I", false)
def tyX8 : Nat → FieldType := fun k => match k with
  | 0 => .object "PlusCodes$State"
  | 1 => .object "PlusCodes$State"
  | 2 => .object "PlusCodes$Past"
  | 3 => .object "PlusCodes$Text"
  | 4 => .object "PlusCodes$Ballot"
  | 5 => .object "PlusCodes$Halver"
  | 6 => .object "PlusCodes$Merits"
  | 7 => .object "PlusCodes$Walk"
  | 8 => .int
  | 9 => .int
  | _ => .int
abbrev wsX80 : List Cond := u_ws RX8 TX8 11
theorem nmX8 : ∀ a, a < 11 → ∀ b, b < 11 → a ≠ b → (TX8 a).2.1 ≠ (TX8 b).2.1 := by decide +kernel
theorem tyX8_ok : ∀ k, k < 11 → parseFieldDescriptor (TX8 k).2.2.1 = some (tyX8 k) := by decide +kernel
abbrev cX8_init : ByteArray := prog_1_method_1_code
def yX8_init : MethodName := ⟨RX8, "<init>", "()V"⟩
abbrev cX8_code : ByteArray := prog_1_method_2_code
def yX8_code : MethodName := ⟨RX8, "code", "(II)I"⟩
abbrev cX8_of : ByteArray := prog_1_method_3_code
def yX8_of : MethodName := ⟨RX8, "of", "(I)I"⟩
abbrev cX8_term : ByteArray := prog_1_method_4_code
def yX8_term : MethodName := ⟨RX8, "term", "(I)I"⟩
abbrev cX8_word : ByteArray := prog_1_method_5_code
def yX8_word : MethodName := ⟨RX8, "word", "(I)I"⟩
abbrev cX8_encode : ByteArray := prog_1_method_6_code
def yX8_encode : MethodName := ⟨RX8, "encode", "(I)I"⟩
abbrev cX8_flip : ByteArray := prog_1_method_7_code
def yX8_flip : MethodName := ⟨RX8, "flip", "(I)I"⟩
abbrev cX8_hurt : ByteArray := prog_1_method_8_code
def yX8_hurt : MethodName := ⟨RX8, "hurt", "(II)I"⟩
abbrev cX8_now : ByteArray := prog_1_method_9_code
def yX8_now : MethodName := ⟨RX8, "now", "()I"⟩
abbrev cX8_at : ByteArray := prog_1_method_10_code
def yX8_at : MethodName := ⟨RX8, "at", "(I)I"⟩
abbrev cX8_weight : ByteArray := prog_1_method_11_code
def yX8_weight : MethodName := ⟨RX8, "weight", "()I"⟩
abbrev cX8_isWord : ByteArray := prog_1_method_12_code
def yX8_isWord : MethodName := ⟨RX8, "isWord", "()I"⟩
abbrev cX8_coefficient : ByteArray := prog_1_method_13_code
def yX8_coefficient : MethodName := ⟨RX8, "coefficient", "(I)I"⟩
abbrev cX8_votes : ByteArray := prog_1_method_14_code
def yX8_votes : MethodName := ⟨RX8, "votes", "()I"⟩
abbrev cX8_vote : ByteArray := prog_1_method_15_code
def yX8_vote : MethodName := ⟨RX8, "vote", "(I)I"⟩
abbrev cX8_mends : ByteArray := prog_1_method_16_code
def yX8_mends : MethodName := ⟨RX8, "mends", "()I"⟩
abbrev cX8_sign : ByteArray := prog_1_method_17_code
def yX8_sign : MethodName := ⟨RX8, "sign", "(I)I"⟩
abbrev cX8_best : ByteArray := prog_1_method_18_code
def yX8_best : MethodName := ⟨RX8, "best", "(I)I"⟩
abbrev cX8_nearest : ByteArray := prog_1_method_19_code
def yX8_nearest : MethodName := ⟨RX8, "nearest", "(I)I"⟩
abbrev cX8_near : ByteArray := prog_1_method_20_code
def yX8_near : MethodName := ⟨RX8, "near", "()I"⟩
abbrev cX8_soft : ByteArray := prog_1_method_21_code
def yX8_soft : MethodName := ⟨RX8, "soft", "(II)I"⟩
abbrev cX8_harden : ByteArray := prog_1_method_22_code
def yX8_harden : MethodName := ⟨RX8, "harden", "(I)I"⟩
abbrev cX8_halves : ByteArray := prog_1_method_23_code
def yX8_halves : MethodName := ⟨RX8, "halves", "()I"⟩
abbrev cX8_merit : ByteArray := prog_1_method_24_code
def yX8_merit : MethodName := ⟨RX8, "merit", "(I)I"⟩
abbrev cX8_weights : ByteArray := prog_1_method_25_code
def yX8_weights : MethodName := ⟨RX8, "weights", "(I)I"⟩
abbrev cX8_perpendicular : ByteArray := prog_1_method_26_code
def yX8_perpendicular : MethodName := ⟨RX8, "perpendicular", "()I"⟩
abbrev cX8_asked : ByteArray := prog_1_method_27_code
def yX8_asked : MethodName := ⟨RX8, "asked", "(I)I"⟩
abbrev cX8_type : ByteArray := prog_1_method_28_code
def yX8_type : MethodName := ⟨RX8, "type", "(I)I"⟩
abbrev cX8_clear : ByteArray := prog_1_method_29_code
def yX8_clear : MethodName := ⟨RX8, "clear", "()I"⟩
abbrev cX8_does : ByteArray := prog_1_method_30_code
def yX8_does : MethodName := ⟨RX8, "does", "()I"⟩
abbrev cX8_back : ByteArray := prog_1_method_31_code
def yX8_back : MethodName := ⟨RX8, "back", "()I"⟩
abbrev cX8_told : ByteArray := prog_1_method_32_code
def yX8_told : MethodName := ⟨RX8, "told", "(I)I"⟩
abbrev cX8_digest : ByteArray := prog_1_method_33_code
def yX8_digest : MethodName := ⟨RX8, "digest", "()J"⟩
abbrev cX8_refuseBad : ByteArray := prog_1_method_34_code
def yX8_refuseBad : MethodName := ⟨RX8, "refuseBad", "(I)I"⟩
abbrev cX8_refuseNo : ByteArray := prog_1_method_35_code
def yX8_refuseNo : MethodName := ⟨RX8, "refuseNo", "(I)I"⟩
abbrev cX8_drawPlaces : ByteArray := prog_1_method_36_code
def yX8_drawPlaces : MethodName := ⟨RX8, "drawPlaces", "(II)I"⟩
abbrev cX8_signsFor : ByteArray := prog_1_method_37_code
def yX8_signsFor : MethodName := ⟨RX8, "signsFor", "(I)I"⟩
abbrev cX8_carryOutAll : ByteArray := prog_1_method_38_code
def yX8_carryOutAll : MethodName := ⟨RX8, "carryOutAll", "()I"⟩
abbrev cX8_carryOutNext : ByteArray := prog_1_method_39_code
def yX8_carryOutNext : MethodName := ⟨RX8, "carryOutNext", "()V"⟩
abbrev cX8_orderCode : ByteArray := prog_1_method_40_code
def yX8_orderCode : MethodName := ⟨RX8, "orderCode", "()V"⟩
abbrev cX8_orderVotes : ByteArray := prog_1_method_41_code
def yX8_orderVotes : MethodName := ⟨RX8, "orderVotes", "()V"⟩
abbrev cX8_orderSoft : ByteArray := prog_1_method_42_code
def yX8_orderSoft : MethodName := ⟨RX8, "orderSoft", "()V"⟩
abbrev cX8_isOdd : ByteArray := prog_1_method_43_code
def yX8_isOdd : MethodName := ⟨RX8, "isOdd", "(I)Z"⟩
abbrev cX8_partsOf : ByteArray := prog_1_method_44_code
def yX8_partsOf : MethodName := ⟨RX8, "partsOf", "(I)I"⟩
abbrev cX8_lowest : ByteArray := prog_1_method_45_code
def yX8_lowest : MethodName := ⟨RX8, "lowest", "(I)I"⟩
def RX9 : String := "PlusCodesModel"
def TX9 : u_T := fun k => match k with
  | 0 => ("PlusCodesModel", "all", "[I", true)
  | 1 => ("PlusCodesModel", "past", "[I", true)
  | 2 => ("PlusCodesModel", "states", "I", false)
  | 3 => ("PlusCodesModel", "refused", "[I", true)
  | 4 => ("PlusCodesModel", "terms", "[I", true)
  | 5 => ("PlusCodesModel", "termsMany", "I", false)
  | 6 => ("PlusCodesModel", "message", "I", false)
  | 7 => ("PlusCodesModel", "mended", "I", false)
  | 8 => ("PlusCodesModel", "ties", "I", false)
  | 9 => ("PlusCodesModel", "closest", "I", false)
  | 10 => ("PlusCodesModel", "closestBy", "I", false)
  | 11 => ("PlusCodesModel", "basis", "[I", true)
  | 12 => ("PlusCodesModel", "nearWord", "I", false)
  | 13 => ("PlusCodesModel", "nearBy", "I", false)
  | 14 => ("PlusCodesModel", "nearMany", "I", false)
  | 15 => ("PlusCodesModel", "numbers", "[I", true)
  | 16 => ("PlusCodesModel", "orderAt", "[I", true)
  | 17 => ("PlusCodesModel", "lengthAt", "[I", true)
  | 18 => ("PlusCodesModel", "phase", "[I", true)
  | 19 => ("PlusCodesModel", "upon", "[I", true)
  | 20 => ("PlusCodesModel", "text", "[I", true)
  | 21 => ("PlusCodesModel", "textLong", "I", false)
  | 22 => ("PlusCodesModel", "place", "I", false)
  | 23 => ("PlusCodesModel", "value", "I", false)
  | 24 => ("PlusCodesModel", "first", "I", false)
  | 25 => ("PlusCodesModel", "aside", "[I", true)
  | _ => ("PlusCodesModel", "behind", "[I", true)
def tyX9 : Nat → FieldType := fun k => match k with
  | 0 => .array .int
  | 1 => .array .int
  | 2 => .int
  | 3 => .array .int
  | 4 => .array .int
  | 5 => .int
  | 6 => .int
  | 7 => .int
  | 8 => .int
  | 9 => .int
  | 10 => .int
  | 11 => .array .int
  | 12 => .int
  | 13 => .int
  | 14 => .int
  | 15 => .array .int
  | 16 => .array .int
  | 17 => .array .int
  | 18 => .array .int
  | 19 => .array .int
  | 20 => .array .int
  | 21 => .int
  | 22 => .int
  | 23 => .int
  | 24 => .int
  | 25 => .array .int
  | _ => .array .int
abbrev wsX90 : List Cond := u_ws RX9 TX9 27
theorem nmX9 : ∀ a, a < 27 → ∀ b, b < 27 → a ≠ b → (TX9 a).2.1 ≠ (TX9 b).2.1 := by decide +kernel
theorem tyX9_ok : ∀ k, k < 27 → parseFieldDescriptor (TX9 k).2.2.1 = some (tyX9 k) := by decide +kernel
abbrev cX9_init : ByteArray := prog_11_method_1_code
def yX9_init : MethodName := ⟨RX9, "<init>", "()V"⟩
abbrev cX9_in : ByteArray := prog_11_method_3_code
def yX9_in : MethodName := ⟨RX9, "in", "(JJJ)Z"⟩
abbrev cX9_bad : ByteArray := prog_11_method_4_code
def yX9_bad : MethodName := ⟨RX9, "bad", "(I)I"⟩
abbrev cX9_no : ByteArray := prog_11_method_5_code
def yX9_no : MethodName := ⟨RX9, "no", "(I)I"⟩
abbrev cX9_full : ByteArray := prog_11_method_6_code
def yX9_full : MethodName := ⟨RX9, "full", "()I"⟩
abbrev cX9_has : ByteArray := prog_11_method_7_code
def yX9_has : MethodName := ⟨RX9, "has", "(II)Z"⟩
abbrev cX9_bits : ByteArray := prog_11_method_8_code
def yX9_bits : MethodName := ⟨RX9, "bits", "(I)I"⟩
abbrev cX9_order : ByteArray := prog_11_method_9_code
def yX9_order : MethodName := ⟨RX9, "order", "()I"⟩
abbrev cX9_length : ByteArray := prog_11_method_10_code
def yX9_length : MethodName := ⟨RX9, "length", "()I"⟩
abbrev cX9_places : ByteArray := prog_11_method_11_code
def yX9_places : MethodName := ⟨RX9, "places", "()I"⟩
abbrev cX9_theWord : ByteArray := prog_11_method_12_code
def yX9_theWord : MethodName := ⟨RX9, "theWord", "()I"⟩
abbrev cX9_allOf : ByteArray := prog_11_method_13_code
def yX9_allOf : MethodName := ⟨RX9, "allOf", "(I)I"⟩
abbrev cX9_keep : ByteArray := prog_11_method_14_code
def yX9_keep : MethodName := ⟨RX9, "keep", "()V"⟩
abbrev cX9_lays : ByteArray := prog_11_method_15_code
def yX9_lays : MethodName := ⟨RX9, "lays", "(I)V"⟩
abbrev cX9_many : ByteArray := prog_11_method_16_code
def yX9_many : MethodName := ⟨RX9, "many", "()I"⟩
abbrev cX9_wordOf : ByteArray := prog_11_method_17_code
def yX9_wordOf : MethodName := ⟨RX9, "wordOf", "(I)I"⟩
abbrev cX9_sumOf : ByteArray := prog_11_method_18_code
def yX9_sumOf : MethodName := ⟨RX9, "sumOf", "(II)I"⟩
abbrev cX9_isCode : ByteArray := prog_11_method_19_code
def yX9_isCode : MethodName := ⟨RX9, "isCode", "(II)Z"⟩
abbrev cX9_becomesCode : ByteArray := prog_11_method_20_code
def yX9_becomesCode : MethodName := ⟨RX9, "becomesCode", "(II)V"⟩
abbrev cX9_code : ByteArray := prog_11_method_21_code
def yX9_code : MethodName := ⟨RX9, "code", "(II)I"⟩
abbrev cX9_distance : ByteArray := prog_11_method_22_code
def yX9_distance : MethodName := ⟨RX9, "distance", "()I"⟩
abbrev cX9_of : ByteArray := prog_11_method_23_code
def yX9_of : MethodName := ⟨RX9, "of", "(I)I"⟩
abbrev cX9_term : ByteArray := prog_11_method_24_code
def yX9_term : MethodName := ⟨RX9, "term", "(I)I"⟩
abbrev cX9_isWithin : ByteArray := prog_11_method_25_code
def yX9_isWithin : MethodName := ⟨RX9, "isWithin", "(II)Z"⟩
abbrev cX9_word : ByteArray := prog_11_method_26_code
def yX9_word : MethodName := ⟨RX9, "word", "(I)I"⟩
abbrev cX9_encodes : ByteArray := prog_11_method_27_code
def yX9_encodes : MethodName := ⟨RX9, "encodes", "(I)I"⟩
abbrev cX9_encode : ByteArray := prog_11_method_28_code
def yX9_encode : MethodName := ⟨RX9, "encode", "(I)I"⟩
abbrev cX9_isPlace : ByteArray := prog_11_method_29_code
def yX9_isPlace : MethodName := ⟨RX9, "isPlace", "(I)Z"⟩
abbrev cX9_flips : ByteArray := prog_11_method_30_code
def yX9_flips : MethodName := ⟨RX9, "flips", "(I)I"⟩
abbrev cX9_flip : ByteArray := prog_11_method_31_code
def yX9_flip : MethodName := ⟨RX9, "flip", "(I)I"⟩
abbrev cX9_hurt : ByteArray := prog_11_method_32_code
def yX9_hurt : MethodName := ⟨RX9, "hurt", "(II)I"⟩
abbrev cX9_now : ByteArray := prog_11_method_33_code
def yX9_now : MethodName := ⟨RX9, "now", "()I"⟩
abbrev cX9_at : ByteArray := prog_11_method_34_code
def yX9_at : MethodName := ⟨RX9, "at", "(I)I"⟩
abbrev cX9_weight : ByteArray := prog_11_method_35_code
def yX9_weight : MethodName := ⟨RX9, "weight", "()I"⟩
abbrev cX9_coefficientOf : ByteArray := prog_11_method_36_code
def yX9_coefficientOf : MethodName := ⟨RX9, "coefficientOf", "(II)I"⟩
abbrev cX9_isWord : ByteArray := prog_11_method_37_code
def yX9_isWord : MethodName := ⟨RX9, "isWord", "()I"⟩
abbrev cX9_coefficient : ByteArray := prog_11_method_38_code
def yX9_coefficient : MethodName := ⟨RX9, "coefficient", "(I)I"⟩
abbrev cX9_voted : ByteArray := prog_11_method_39_code
def yX9_voted : MethodName := ⟨RX9, "voted", "(II)I"⟩
abbrev cX9_votesNow : ByteArray := prog_11_method_40_code
def yX9_votesNow : MethodName := ⟨RX9, "votesNow", "()V"⟩
abbrev cX9_votes : ByteArray := prog_11_method_41_code
def yX9_votes : MethodName := ⟨RX9, "votes", "()I"⟩
abbrev cX9_vote : ByteArray := prog_11_method_42_code
def yX9_vote : MethodName := ⟨RX9, "vote", "(I)I"⟩
abbrev cX9_mendsNow : ByteArray := prog_11_method_43_code
def yX9_mendsNow : MethodName := ⟨RX9, "mendsNow", "()I"⟩
abbrev cX9_mends : ByteArray := prog_11_method_44_code
def yX9_mends : MethodName := ⟨RX9, "mends", "()I"⟩
abbrev cX9_signOf : ByteArray := prog_11_method_45_code
def yX9_signOf : MethodName := ⟨RX9, "signOf", "(I)I"⟩
abbrev cX9_sign : ByteArray := prog_11_method_46_code
def yX9_sign : MethodName := ⟨RX9, "sign", "(I)I"⟩
abbrev cX9_far : ByteArray := prog_11_method_47_code
def yX9_far : MethodName := ⟨RX9, "far", "(I)I"⟩
abbrev cX9_best : ByteArray := prog_11_method_48_code
def yX9_best : MethodName := ⟨RX9, "best", "(I)I"⟩
abbrev cX9_isFew : ByteArray := prog_11_method_49_code
def yX9_isFew : MethodName := ⟨RX9, "isFew", "()Z"⟩
abbrev cX9_laysBasis : ByteArray := prog_11_method_50_code
def yX9_laysBasis : MethodName := ⟨RX9, "laysBasis", "()V"⟩
abbrev cX9_finds : ByteArray := prog_11_method_51_code
def yX9_finds : MethodName := ⟨RX9, "finds", "()V"⟩
abbrev cX9_nearest : ByteArray := prog_11_method_52_code
def yX9_nearest : MethodName := ⟨RX9, "nearest", "(I)I"⟩
abbrev cX9_near : ByteArray := prog_11_method_53_code
def yX9_near : MethodName := ⟨RX9, "near", "()I"⟩
abbrev cX9_softOf : ByteArray := prog_11_method_54_code
def yX9_softOf : MethodName := ⟨RX9, "softOf", "(I)I"⟩
abbrev cX9_softens : ByteArray := prog_11_method_55_code
def yX9_softens : MethodName := ⟨RX9, "softens", "(II)I"⟩
abbrev cX9_soft : ByteArray := prog_11_method_56_code
def yX9_soft : MethodName := ⟨RX9, "soft", "(II)I"⟩
abbrev cX9_harden : ByteArray := prog_11_method_57_code
def yX9_harden : MethodName := ⟨RX9, "harden", "(I)I"⟩
abbrev cX9_plain : ByteArray := prog_11_method_58_code
def yX9_plain : MethodName := ⟨RX9, "plain", "(I)I"⟩
abbrev cX9_lesser : ByteArray := prog_11_method_59_code
def yX9_lesser : MethodName := ⟨RX9, "lesser", "(II)I"⟩
abbrev cX9_begins : ByteArray := prog_11_method_60_code
def yX9_begins : MethodName := ⟨RX9, "begins", "(III)V"⟩
abbrev cX9_halvesOf : ByteArray := prog_11_method_61_code
def yX9_halvesOf : MethodName := ⟨RX9, "halvesOf", "()I"⟩
abbrev cX9_halves : ByteArray := prog_11_method_62_code
def yX9_halves : MethodName := ⟨RX9, "halves", "()I"⟩
abbrev cX9_meritOf : ByteArray := prog_11_method_63_code
def yX9_meritOf : MethodName := ⟨RX9, "meritOf", "(I)I"⟩
abbrev cX9_greatest : ByteArray := prog_11_method_64_code
def yX9_greatest : MethodName := ⟨RX9, "greatest", "()I"⟩
abbrev cX9_merit : ByteArray := prog_11_method_65_code
def yX9_merit : MethodName := ⟨RX9, "merit", "(I)I"⟩
abbrev cX9_weights : ByteArray := prog_11_method_66_code
def yX9_weights : MethodName := ⟨RX9, "weights", "(I)I"⟩
abbrev cX9_perpendicular : ByteArray := prog_11_method_67_code
def yX9_perpendicular : MethodName := ⟨RX9, "perpendicular", "()I"⟩
abbrev cX9_around : ByteArray := prog_11_method_68_code
def yX9_around : MethodName := ⟨RX9, "around", "(II)I"⟩
abbrev cX9_asked : ByteArray := prog_11_method_69_code
def yX9_asked : MethodName := ⟨RX9, "asked", "(I)I"⟩
abbrev cX9_type : ByteArray := prog_11_method_70_code
def yX9_type : MethodName := ⟨RX9, "type", "(I)I"⟩
abbrev cX9_clear : ByteArray := prog_11_method_71_code
def yX9_clear : MethodName := ⟨RX9, "clear", "()I"⟩
abbrev cX9_here : ByteArray := prog_11_method_72_code
def yX9_here : MethodName := ⟨RX9, "here", "()I"⟩
abbrev cX9_isFigure : ByteArray := prog_11_method_73_code
def yX9_isFigure : MethodName := ⟨RX9, "isFigure", "(I)Z"⟩
abbrev cX9_takes : ByteArray := prog_11_method_74_code
def yX9_takes : MethodName := ⟨RX9, "takes", "(II)Z"⟩
abbrev cX9_hexAt : ByteArray := prog_11_method_75_code
def yX9_hexAt : MethodName := ⟨RX9, "hexAt", "(I)I"⟩
abbrev cX9_takesHex : ByteArray := prog_11_method_76_code
def yX9_takesHex : MethodName := ⟨RX9, "takesHex", "(I)Z"⟩
abbrev cX9_readsOne : ByteArray := prog_11_method_77_code
def yX9_readsOne : MethodName := ⟨RX9, "readsOne", "()Z"⟩
abbrev cX9_doesOne : ByteArray := prog_11_method_78_code
def yX9_doesOne : MethodName := ⟨RX9, "doesOne", "(I)V"⟩
abbrev cX9_does : ByteArray := prog_11_method_79_code
def yX9_does : MethodName := ⟨RX9, "does", "()I"⟩
abbrev cX9_keepsAside : ByteArray := prog_11_method_80_code
def yX9_keepsAside : MethodName := ⟨RX9, "keepsAside", "()V"⟩
abbrev cX9_back : ByteArray := prog_11_method_81_code
def yX9_back : MethodName := ⟨RX9, "back", "()I"⟩
abbrev cX9_toldOf : ByteArray := prog_11_method_82_code
def yX9_toldOf : MethodName := ⟨RX9, "toldOf", "(I)I"⟩
abbrev cX9_told : ByteArray := prog_11_method_83_code
def yX9_told : MethodName := ⟨RX9, "told", "(I)I"⟩
abbrev cX9_digest : ByteArray := prog_11_method_84_code
def yX9_digest : MethodName := ⟨RX9, "digest", "()J"⟩
def RJx145de : String := "java/io/Serializable"
def TJx145de : u_T := fun k => match k with
  | _ => ("", "", "", false)
def tyJx145de : Nat → FieldType := fun k => match k with
  | _ => .int
abbrev wsJx145de0 : List Cond := u_ws RJx145de TJx145de 0
theorem nmJx145de : ∀ a, a < 0 → ∀ b, b < 0 → a ≠ b → (TJx145de a).2.1 ≠ (TJx145de b).2.1 := by decide +kernel
theorem tyJx145de_ok : ∀ k, k < 0 → parseFieldDescriptor (TJx145de k).2.2.1 = some (tyJx145de k) := by decide +kernel
def RJx9f9b0 : String := "java/lang/CharSequence"
def TJx9f9b0 : u_T := fun k => match k with
  | _ => ("", "", "", false)
def tyJx9f9b0 : Nat → FieldType := fun k => match k with
  | _ => .int
abbrev wsJx9f9b00 : List Cond := u_ws RJx9f9b0 TJx9f9b0 0
theorem nmJx9f9b0 : ∀ a, a < 0 → ∀ b, b < 0 → a ≠ b → (TJx9f9b0 a).2.1 ≠ (TJx9f9b0 b).2.1 := by decide +kernel
theorem tyJx9f9b0_ok : ∀ k, k < 0 → parseFieldDescriptor (TJx9f9b0 k).2.2.1 = some (tyJx9f9b0 k) := by decide +kernel
def RJ11 : String := "java/lang/Character"
def TJ11 : u_T := fun k => match k with
  | _ => ("", "", "", false)
def tyJ11 : Nat → FieldType := fun k => match k with
  | _ => .int
abbrev wsJ110 : List Cond := u_ws RJ11 TJ11 0
theorem nmJ11 : ∀ a, a < 0 → ∀ b, b < 0 → a ≠ b → (TJ11 a).2.1 ≠ (TJ11 b).2.1 := by decide +kernel
theorem tyJ11_ok : ∀ k, k < 0 → parseFieldDescriptor (TJ11 k).2.2.1 = some (tyJ11 k) := by decide +kernel
abbrev cJ11_isValidCodePoint_9a6ad : ByteArray := prog_12_method_11_code
def yJ11_isValidCodePoint_9a6ad : MethodName := ⟨RJ11, "isValidCodePoint", "(I)Z"⟩
abbrev cJ11_highSurrogate_5068e : ByteArray := prog_12_method_28_code
def yJ11_highSurrogate_5068e : MethodName := ⟨RJ11, "highSurrogate", "(I)C"⟩
abbrev cJ11_lowSurrogate_5068e : ByteArray := prog_12_method_29_code
def yJ11_lowSurrogate_5068e : MethodName := ⟨RJ11, "lowSurrogate", "(I)C"⟩
def RJxb160c : String := "java/lang/Comparable"
def TJxb160c : u_T := fun k => match k with
  | _ => ("", "", "", false)
def tyJxb160c : Nat → FieldType := fun k => match k with
  | _ => .int
abbrev wsJxb160c0 : List Cond := u_ws RJxb160c TJxb160c 0
theorem nmJxb160c : ∀ a, a < 0 → ∀ b, b < 0 → a ≠ b → (TJxb160c a).2.1 ≠ (TJxb160c b).2.1 := by decide +kernel
theorem tyJxb160c_ok : ∀ k, k < 0 → parseFieldDescriptor (TJxb160c k).2.2.1 = some (tyJxb160c k) := by decide +kernel
def RJ6 : String := "java/lang/Integer"
def TJ6 : u_T := fun k => match k with
  | _ => ("", "", "", false)
def tyJ6 : Nat → FieldType := fun k => match k with
  | _ => .int
abbrev wsJ60 : List Cond := u_ws RJ6 TJ6 0
theorem nmJ6 : ∀ a, a < 0 → ∀ b, b < 0 → a ≠ b → (TJ6 a).2.1 ≠ (TJ6 b).2.1 := by decide +kernel
theorem tyJ6_ok : ∀ k, k < 0 → parseFieldDescriptor (TJ6 k).2.2.1 = some (tyJ6 k) := by decide +kernel
abbrev cJ6_numberOfTrailingZeros_0f7a4 : ByteArray := prog_13_method_48_code
def yJ6_numberOfTrailingZeros_0f7a4 : MethodName := ⟨RJ6, "numberOfTrailingZeros", "(I)I"⟩
abbrev cJ6_bitCount_0f7a4 : ByteArray := prog_13_method_49_code
def yJ6_bitCount_0f7a4 : MethodName := ⟨RJ6, "bitCount", "(I)I"⟩
def RJ9 : String := "java/lang/Math"
def TJ9 : u_T := fun k => match k with
  | _ => ("", "", "", false)
def tyJ9 : Nat → FieldType := fun k => match k with
  | _ => .int
abbrev wsJ90 : List Cond := u_ws RJ9 TJ9 0
theorem nmJ9 : ∀ a, a < 0 → ∀ b, b < 0 → a ≠ b → (TJ9 a).2.1 ≠ (TJ9 b).2.1 := by decide +kernel
theorem tyJ9_ok : ∀ k, k < 0 → parseFieldDescriptor (TJ9 k).2.2.1 = some (tyJ9 k) := by decide +kernel
abbrev cJ9_abs_0f7a4 : ByteArray := prog_14_method_59_code
def yJ9_abs_0f7a4 : MethodName := ⟨RJ9, "abs", "(I)I"⟩
abbrev cJ9_max_7cf53 : ByteArray := prog_14_method_65_code
def yJ9_max_7cf53 : MethodName := ⟨RJ9, "max", "(II)I"⟩
abbrev cJ9_min_7cf53 : ByteArray := prog_14_method_69_code
def yJ9_min_7cf53 : MethodName := ⟨RJ9, "min", "(II)I"⟩
def RJ0 : String := "java/lang/String"
def TJ0 : u_T := fun k => match k with
  | _ => ("", "", "", false)
def tyJ0 : Nat → FieldType := fun k => match k with
  | _ => .int
abbrev wsJ00 : List Cond := u_ws RJ0 TJ0 0
theorem nmJ0 : ∀ a, a < 0 → ∀ b, b < 0 → a ≠ b → (TJ0 a).2.1 ≠ (TJ0 b).2.1 := by decide +kernel
theorem tyJ0_ok : ∀ k, k < 0 → parseFieldDescriptor (TJ0 k).2.2.1 = some (tyJ0 k) := by decide +kernel
abbrev cJ0_length_8abf5 : ByteArray := prog_15_method_54_code
def yJ0_length_8abf5 : MethodName := ⟨RJ0, "length", "()I"⟩
abbrev cJ0_indexOf_0f7a4 : ByteArray := prog_15_method_79_code
def yJ0_indexOf_0f7a4 : MethodName := ⟨RJ0, "indexOf", "(I)I"⟩
abbrev cJ0_indexOf_7cf53 : ByteArray := prog_15_method_80_code
def yJ0_indexOf_7cf53 : MethodName := ⟨RJ0, "indexOf", "(II)I"⟩
abbrev cJ0_coder_7d493 : ByteArray := prog_15_method_152_code
def yJ0_coder_7d493 : MethodName := ⟨RJ0, "coder", "()B"⟩
abbrev cJ0_isLatin1_aae02 : ByteArray := prog_15_method_154_code
def yJ0_isLatin1_aae02 : MethodName := ⟨RJ0, "isLatin1", "()Z"⟩
abbrev cJ0_checkBoundsBeginEnd_23922 : ByteArray := prog_15_method_158_code
def yJ0_checkBoundsBeginEnd_23922 : MethodName := ⟨RJ0, "checkBoundsBeginEnd", "(III)V"⟩
def RJ1 : String := "java/lang/StringLatin1"
def TJ1 : u_T := fun k => match k with
  | _ => ("", "", "", false)
def tyJ1 : Nat → FieldType := fun k => match k with
  | _ => .int
abbrev wsJ10 : List Cond := u_ws RJ1 TJ1 0
theorem nmJ1 : ∀ a, a < 0 → ∀ b, b < 0 → a ≠ b → (TJ1 a).2.1 ≠ (TJ1 b).2.1 := by decide +kernel
theorem tyJ1_ok : ∀ k, k < 0 → parseFieldDescriptor (TJ1 k).2.2.1 = some (tyJ1 k) := by decide +kernel
abbrev cJ1_canEncode_9a6ad : ByteArray := prog_16_method_4_code
def yJ1_canEncode_9a6ad : MethodName := ⟨RJ1, "canEncode", "(I)Z"⟩
abbrev cJ1_indexOf_4cfef : ByteArray := prog_16_method_22_code
def yJ1_indexOf_4cfef : MethodName := ⟨RJ1, "indexOf", "([BIII)I"⟩
abbrev cJ1_indexOfChar_4cfef : ByteArray := prog_16_method_23_code
def yJ1_indexOfChar_4cfef : MethodName := ⟨RJ1, "indexOfChar", "([BIII)I"⟩
def RJ2 : String := "java/lang/StringUTF16"
def TJ2 : u_T := fun k => match k with
  | _ => ("", "", "", false)
def tyJ2 : Nat → FieldType := fun k => match k with
  | _ => .int
abbrev wsJ20 : List Cond := u_ws RJ2 TJ2 0
theorem nmJ2 : ∀ a, a < 0 → ∀ b, b < 0 → a ≠ b → (TJ2 a).2.1 ≠ (TJ2 b).2.1 := by decide +kernel
theorem tyJ2_ok : ∀ k, k < 0 → parseFieldDescriptor (TJ2 k).2.2.1 = some (tyJ2 k) := by decide +kernel
abbrev cJ2_getChar_3b067 : ByteArray := prog_17_method_5_code
def yJ2_getChar_3b067 : MethodName := ⟨RJ2, "getChar", "([BI)C"⟩
abbrev cJ2_length_9d52b : ByteArray := prog_17_method_6_code
def yJ2_length_9d52b : MethodName := ⟨RJ2, "length", "([B)I"⟩
abbrev cJ2_indexOf_4cfef : ByteArray := prog_17_method_40_code
def yJ2_indexOf_4cfef : MethodName := ⟨RJ2, "indexOf", "([BIII)I"⟩
abbrev cJ2_indexOfChar_4cfef : ByteArray := prog_17_method_47_code
def yJ2_indexOfChar_4cfef : MethodName := ⟨RJ2, "indexOfChar", "([BIII)I"⟩
abbrev cJ2_indexOfCharUnsafe_4cfef : ByteArray := prog_17_method_48_code
def yJ2_indexOfCharUnsafe_4cfef : MethodName := ⟨RJ2, "indexOfCharUnsafe", "([BIII)I"⟩
abbrev cJ2_indexOfSupplementary_4cfef : ByteArray := prog_17_method_49_code
def yJ2_indexOfSupplementary_4cfef : MethodName := ⟨RJ2, "indexOfSupplementary", "([BIII)I"⟩
abbrev cJ2_checkBoundsBeginEnd_d044e : ByteArray := prog_17_method_93_code
def yJ2_checkBoundsBeginEnd_d044e : MethodName := ⟨RJ2, "checkBoundsBeginEnd", "(II[B)V"⟩
def RJ10 : String := "java/lang/System"
def TJ10 : u_T := fun k => match k with
  | _ => ("", "", "", false)
def tyJ10 : Nat → FieldType := fun k => match k with
  | _ => .int
abbrev wsJ100 : List Cond := u_ws RJ10 TJ10 0
theorem nmJ10 : ∀ a, a < 0 → ∀ b, b < 0 → a ≠ b → (TJ10 a).2.1 ≠ (TJ10 b).2.1 := by decide +kernel
theorem tyJ10_ok : ∀ k, k < 0 → parseFieldDescriptor (TJ10 k).2.2.1 = some (tyJ10 k) := by decide +kernel
def RJxfd54e : String := "java/lang/constant/Constable"
def TJxfd54e : u_T := fun k => match k with
  | _ => ("", "", "", false)
def tyJxfd54e : Nat → FieldType := fun k => match k with
  | _ => .int
abbrev wsJxfd54e0 : List Cond := u_ws RJxfd54e TJxfd54e 0
theorem nmJxfd54e : ∀ a, a < 0 → ∀ b, b < 0 → a ≠ b → (TJxfd54e a).2.1 ≠ (TJxfd54e b).2.1 := by decide +kernel
theorem tyJxfd54e_ok : ∀ k, k < 0 → parseFieldDescriptor (TJxfd54e k).2.2.1 = some (tyJxfd54e k) := by decide +kernel
def RJx3cf43 : String := "java/lang/constant/ConstantDesc"
def TJx3cf43 : u_T := fun k => match k with
  | _ => ("", "", "", false)
def tyJx3cf43 : Nat → FieldType := fun k => match k with
  | _ => .int
abbrev wsJx3cf430 : List Cond := u_ws RJx3cf43 TJx3cf43 0
theorem nmJx3cf43 : ∀ a, a < 0 → ∀ b, b < 0 → a ≠ b → (TJx3cf43 a).2.1 ≠ (TJx3cf43 b).2.1 := by decide +kernel
theorem tyJx3cf43_ok : ∀ k, k < 0 → parseFieldDescriptor (TJx3cf43 k).2.2.1 = some (tyJx3cf43 k) := by decide +kernel
def RJ7 : String := "java/util/Arrays"
def TJ7 : u_T := fun k => match k with
  | _ => ("", "", "", false)
def tyJ7 : Nat → FieldType := fun k => match k with
  | _ => .int
abbrev wsJ70 : List Cond := u_ws RJ7 TJ7 0
theorem nmJ7 : ∀ a, a < 0 → ∀ b, b < 0 → a ≠ b → (TJ7 a).2.1 ≠ (TJ7 b).2.1 := by decide +kernel
theorem tyJ7_ok : ∀ k, k < 0 → parseFieldDescriptor (TJ7 k).2.2.1 = some (tyJ7 k) := by decide +kernel
abbrev cJ7_fill_53178 : ByteArray := prog_19_method_103_code
def yJ7_fill_53178 : MethodName := ⟨RJ7, "fill", "([II)V"⟩
def RJ3 : String := "jdk/internal/util/Preconditions"
def TJ3 : u_T := fun k => match k with
  | _ => ("", "", "", false)
def tyJ3 : Nat → FieldType := fun k => match k with
  | _ => .int
abbrev wsJ30 : List Cond := u_ws RJ3 TJ3 0
theorem nmJ3 : ∀ a, a < 0 → ∀ b, b < 0 → a ≠ b → (TJ3 a).2.1 ≠ (TJ3 b).2.1 := by decide +kernel
theorem tyJ3_ok : ∀ k, k < 0 → parseFieldDescriptor (TJ3 k).2.2.1 = some (tyJ3 k) := by decide +kernel
abbrev cJ3_checkFromToIndex_8c36e : ByteArray := prog_20_method_12_code
def yJ3_checkFromToIndex_8c36e : MethodName := ⟨RJ3, "checkFromToIndex", "(IIILjava/util/function/BiFunction;)I"⟩
def RL : String := "PlusCodesLaw"
abbrev cL_law : ByteArray := code
def yL_law : MethodName := ⟨RL, "law", "([I)Z"⟩
def wsX0_init : List Cond := .code yX0_init cX0_init 1 none :: ([.methodLink RX0 3 objectInit, .instanceMethod objectInit, .code objectInit ⟨#[0xb1]⟩ 1 none])
def wsJ6_bitCount_0f7a4 : List Cond := .code yJ6_bitCount_0f7a4 cJ6_bitCount_0f7a4 1 (some .int) :: ([.constant RJ6 265 (1431655765), .constant RJ6 266 (858993459), .constant RJ6 267 (252645135)])
def wsX8_partsOf : List Cond := .code yX8_partsOf cX8_partsOf 3 (some .int) :: ([])
def wsX8_isOdd : List Cond := .code yX8_isOdd cX8_isOdd 1 (some .boolean) :: ([.methodLink RX8 127 yJ6_bitCount_0f7a4, .static yJ6_bitCount_0f7a4, .initialized RJ6, .code yJ6_bitCount_0f7a4 cJ6_bitCount_0f7a4 1 (some .int), .constant RJ6 265 (1431655765), .constant RJ6 266 (858993459), .constant RJ6 267 (252645135)])
def wsX0_isCarried : List Cond := .code yX0_isCarried cX0_isCarried 7 (some .boolean) :: ([.fieldLink RX0 59 "PlusCodes$Code" "places" "I", .fieldLink RX0 18 "PlusCodes$Ballot" "ties" "I", .methodLink RX0 66 Lib.Math.abs.name, .static Lib.Math.abs.name, .initialized "java/lang/Math", .code Lib.Math.abs.name Lib.Math.abs.code 1 (some .int), .fieldLink RX0 24 "PlusCodes$Ballot" "margin" "I", .fieldLink RX0 21 "PlusCodes$Ballot" "closest" "I", .static yX8_partsOf, .initialized RX8, .code yX8_partsOf cX8_partsOf 3 (some .int), .static yX8_isOdd, .code yX8_isOdd cX8_isOdd 1 (some .boolean), .methodLink RX8 127 yJ6_bitCount_0f7a4, .static yJ6_bitCount_0f7a4, .initialized RJ6, .code yJ6_bitCount_0f7a4 cJ6_bitCount_0f7a4 1 (some .int), .constant RJ6 265 (1431655765), .constant RJ6 266 (858993459), .constant RJ6 267 (252645135)] ++ wsX10 ++ wsX00)
def wsX1_summed : List Cond := .code yX1_summed cX1_summed 4 (some .int) :: ([.fieldLink RX1 19 "PlusCodes$Code" "length" "I"] ++ wsX10)
def wsX0_wordVoted_r1 : List Cond := [Cond.fieldLink RX0 36 "PlusCodes$Code" "count" "I", Cond.fieldLink RX0 39 "PlusCodes$Code" "terms" "[I", Cond.fieldLink RX0 9 "PlusCodes$Ballot" "message" "I", Cond.methodLink RX0 43 yJ6_bitCount_0f7a4, Cond.static yJ6_bitCount_0f7a4, Cond.initialized RJ6, Cond.code yJ6_bitCount_0f7a4 cJ6_bitCount_0f7a4 1 (some .int), Cond.constant RJ6 265 (1431655765), Cond.constant RJ6 266 (858993459), Cond.constant RJ6 267 (252645135), Cond.methodLink RX0 49 yX0_isCarried, Cond.instanceMethod yX0_isCarried, Cond.selects RX0 yX0_isCarried yX0_isCarried, Cond.initialized RX0, Cond.code yX0_isCarried cX0_isCarried 7 (some .boolean), Cond.fieldLink RX0 59 "PlusCodes$Code" "places" "I", Cond.fieldLink RX0 18 "PlusCodes$Ballot" "ties" "I", Cond.methodLink RX0 66 Lib.Math.abs.name, Cond.static Lib.Math.abs.name, Cond.initialized "java/lang/Math", Cond.code Lib.Math.abs.name Lib.Math.abs.code 1 (some .int), Cond.fieldLink RX0 24 "PlusCodes$Ballot" "margin" "I", Cond.fieldLink RX0 21 "PlusCodes$Ballot" "closest" "I", Cond.static yX8_partsOf]
def wsX0_wordVoted_r2 : List Cond := [Cond.initialized RX8, Cond.code yX8_partsOf cX8_partsOf 3 (some .int), Cond.static yX8_isOdd, Cond.code yX8_isOdd cX8_isOdd 1 (some .boolean), Cond.methodLink RX8 127 yJ6_bitCount_0f7a4, Cond.methodLink RX0 53 yX1_summed, Cond.instanceMethod yX1_summed, Cond.selects RX1 yX1_summed yX1_summed, Cond.initialized RX1, Cond.code yX1_summed cX1_summed 4 (some .int), Cond.fieldLink RX1 19 "PlusCodes$Code" "length" "I"]
def wsX0_wordVoted : List Cond := .code yX0_wordVoted cX0_wordVoted 7 (some .int) :: ((wsX0_wordVoted_r1 ++ wsX0_wordVoted_r2) ++ wsX10 ++ wsX00)
def wsX0_hold_r1 : List Cond := [Cond.fieldLink RX0 9 "PlusCodes$Ballot" "message" "I", Cond.fieldLink RX0 15 "PlusCodes$Ballot" "mended" "I", Cond.fieldLink RX0 18 "PlusCodes$Ballot" "ties" "I", Cond.fieldLink RX0 21 "PlusCodes$Ballot" "closest" "I", Cond.fieldLink RX0 24 "PlusCodes$Ballot" "margin" "I", Cond.fieldLink RX0 27 "PlusCodes$Code" "order" "I", Cond.methodLink RX0 32 yX0_wordVoted, Cond.instanceMethod yX0_wordVoted, Cond.selects RX0 yX0_wordVoted yX0_wordVoted, Cond.initialized RX0, Cond.code yX0_wordVoted cX0_wordVoted 7 (some .int), Cond.fieldLink RX0 36 "PlusCodes$Code" "count" "I", Cond.fieldLink RX0 39 "PlusCodes$Code" "terms" "[I", Cond.methodLink RX0 43 yJ6_bitCount_0f7a4, Cond.static yJ6_bitCount_0f7a4, Cond.initialized RJ6, Cond.code yJ6_bitCount_0f7a4 cJ6_bitCount_0f7a4 1 (some .int), Cond.constant RJ6 265 (1431655765), Cond.constant RJ6 266 (858993459), Cond.constant RJ6 267 (252645135), Cond.methodLink RX0 49 yX0_isCarried, Cond.instanceMethod yX0_isCarried, Cond.selects RX0 yX0_isCarried yX0_isCarried, Cond.code yX0_isCarried cX0_isCarried 7 (some .boolean)]
def wsX0_hold_r2 : List Cond := [Cond.fieldLink RX0 59 "PlusCodes$Code" "places" "I", Cond.methodLink RX0 66 Lib.Math.abs.name, Cond.static Lib.Math.abs.name, Cond.initialized "java/lang/Math", Cond.code Lib.Math.abs.name Lib.Math.abs.code 1 (some .int), Cond.static yX8_partsOf, Cond.initialized RX8, Cond.code yX8_partsOf cX8_partsOf 3 (some .int), Cond.static yX8_isOdd, Cond.code yX8_isOdd cX8_isOdd 1 (some .boolean), Cond.methodLink RX8 127 yJ6_bitCount_0f7a4, Cond.methodLink RX0 53 yX1_summed, Cond.instanceMethod yX1_summed, Cond.selects RX1 yX1_summed yX1_summed, Cond.initialized RX1, Cond.code yX1_summed cX1_summed 4 (some .int), Cond.fieldLink RX1 19 "PlusCodes$Code" "length" "I"]
def wsX0_hold : List Cond := .code yX0_hold cX0_hold 4 none :: ((wsX0_hold_r1 ++ wsX0_hold_r2) ++ wsX00 ++ wsX10)
def wsX1_init : List Cond := .code yX1_init cX1_init 1 none :: ([.methodLink RX1 3 objectInit, .instanceMethod objectInit, .code objectInit ⟨#[0xb1]⟩ 1 none, .arrayClass .int, .fieldLink RX1 9 "PlusCodes$Code" "terms" "[I"] ++ wsX10)
def wsX1_become : List Cond := .code yX1_become cX1_become 7 none :: ([.fieldLink RX1 15 "PlusCodes$Code" "order" "I", .fieldLink RX1 19 "PlusCodes$Code" "length" "I", .fieldLink RX1 22 "PlusCodes$Code" "places" "I", .fieldLink RX1 25 "PlusCodes$Code" "count" "I", .fieldLink RX1 9 "PlusCodes$Code" "terms" "[I", .methodLink RX1 31 yJ6_bitCount_0f7a4, .static yJ6_bitCount_0f7a4, .initialized RJ6, .code yJ6_bitCount_0f7a4 cJ6_bitCount_0f7a4 1 (some .int), .constant RJ6 265 (1431655765), .constant RJ6 266 (858993459), .constant RJ6 267 (252645135)] ++ wsX10)
def wsX1_distance : List Cond := .code yX1_distance cX1_distance 1 (some .int) :: ([.fieldLink RX1 19 "PlusCodes$Code" "length" "I", .fieldLink RX1 15 "PlusCodes$Code" "order" "I"] ++ wsX10)
def wsX8_lowest : List Cond := .code yX8_lowest cX8_lowest 1 (some .int) :: ([])
def wsX1_allPlaces : List Cond := .code yX1_allPlaces cX1_allPlaces 1 (some .int) :: ([.fieldLink RX1 22 "PlusCodes$Code" "places" "I", .static yX8_lowest, .initialized RX8, .code yX8_lowest cX8_lowest 1 (some .int)] ++ wsX10)
def wsX1_allTerms : List Cond := .code yX1_allTerms cX1_allTerms 1 (some .int) :: ([.fieldLink RX1 25 "PlusCodes$Code" "count" "I", .static yX8_lowest, .initialized RX8, .code yX8_lowest cX8_lowest 1 (some .int)] ++ wsX10)
def wsX1_hasPlace : List Cond := .code yX1_hasPlace cX1_hasPlace 2 (some .boolean) :: ([.fieldLink RX1 22 "PlusCodes$Code" "places" "I"] ++ wsX10)
def wsX1_canBeWalked : List Cond := .code yX1_canBeWalked cX1_canBeWalked 1 (some .boolean) :: ([.fieldLink RX1 25 "PlusCodes$Code" "count" "I"] ++ wsX10)
def wsX1_wordOfTerm : List Cond := .code yX1_wordOfTerm cX1_wordOfTerm 2 (some .int) :: ([.fieldLink RX1 9 "PlusCodes$Code" "terms" "[I", .methodLink RX1 43 yX1_summed, .instanceMethod yX1_summed, .selects RX1 yX1_summed yX1_summed, .initialized RX1, .code yX1_summed cX1_summed 4 (some .int), .fieldLink RX1 19 "PlusCodes$Code" "length" "I"] ++ wsX10)
def wsX1_wordOf : List Cond := .code yX1_wordOf cX1_wordOf 4 (some .int) :: ([.fieldLink RX1 25 "PlusCodes$Code" "count" "I", .fieldLink RX1 9 "PlusCodes$Code" "terms" "[I", .methodLink RX1 43 yX1_summed, .instanceMethod yX1_summed, .selects RX1 yX1_summed yX1_summed, .initialized RX1, .code yX1_summed cX1_summed 4 (some .int), .fieldLink RX1 19 "PlusCodes$Code" "length" "I"] ++ wsX10)
def wsX1_termPlaces : List Cond := .code yX1_termPlaces cX1_termPlaces 3 (some .int) :: ([.fieldLink RX1 25 "PlusCodes$Code" "count" "I", .fieldLink RX1 9 "PlusCodes$Code" "terms" "[I"] ++ wsX10)
def wsX1_setAt : List Cond := .code yX1_setAt cX1_setAt 7 (some .int) :: ([.fieldLink RX1 22 "PlusCodes$Code" "places" "I"] ++ wsX10)
def wsX2_init : List Cond := .code yX2_init cX2_init 1 none :: ([.methodLink RX2 3 objectInit, .instanceMethod objectInit, .code objectInit ⟨#[0xb1]⟩ 1 none, .classLink RX2 9 "[[I", .arrayClass .int, .fieldLink RX2 11 "PlusCodes$Halver" "rows" "[[I"] ++ wsX20)
def wsX2_allAlike : List Cond := .code yX2_allAlike cX2_allAlike 5 (some .int) :: ([.fieldLink RX2 11 "PlusCodes$Halver" "rows" "[[I", .static yX8_lowest, .initialized RX8, .code yX8_lowest cX8_lowest 1 (some .int)] ++ wsX20)
def wsX2_eachAlone : List Cond := .code yX2_eachAlone cX2_eachAlone 4 (some .int) :: ([.fieldLink RX2 11 "PlusCodes$Halver" "rows" "[[I"] ++ wsX20)
def wsX2_putLesser : List Cond := .code yX2_putLesser cX2_putLesser 7 none :: ([.fieldLink RX2 11 "PlusCodes$Halver" "rows" "[[I", .methodLink RX2 56 Lib.Math.abs.name, .static Lib.Math.abs.name, .initialized "java/lang/Math", .code Lib.Math.abs.name Lib.Math.abs.code 1 (some .int), .methodLink RX2 61 Lib.Math.min.name, .static Lib.Math.min.name, .code Lib.Math.min.name Lib.Math.min.code 2 (some .int)] ++ wsX20)
def wsX2_putTogether : List Cond := .code yX2_putTogether cX2_putTogether 6 none :: ([.fieldLink RX2 11 "PlusCodes$Halver" "rows" "[[I"] ++ wsX20)
def wsX2_wordFor_r1 : List Cond := [Cond.methodLink RX2 38 yX2_allAlike, Cond.instanceMethod yX2_allAlike, Cond.selects RX2 yX2_allAlike yX2_allAlike, Cond.initialized RX2, Cond.code yX2_allAlike cX2_allAlike 5 (some .int), Cond.fieldLink RX2 11 "PlusCodes$Halver" "rows" "[[I", Cond.static yX8_lowest, Cond.initialized RX8, Cond.code yX8_lowest cX8_lowest 1 (some .int), Cond.methodLink RX2 42 yX2_eachAlone, Cond.instanceMethod yX2_eachAlone, Cond.selects RX2 yX2_eachAlone yX2_eachAlone, Cond.code yX2_eachAlone cX2_eachAlone 4 (some .int), Cond.methodLink RX2 45 yX2_putLesser, Cond.instanceMethod yX2_putLesser, Cond.selects RX2 yX2_putLesser yX2_putLesser, Cond.code yX2_putLesser cX2_putLesser 7 none, Cond.methodLink RX2 56 Lib.Math.abs.name, Cond.static Lib.Math.abs.name, Cond.initialized "java/lang/Math", Cond.code Lib.Math.abs.name Lib.Math.abs.code 1 (some .int), Cond.methodLink RX2 61 Lib.Math.min.name, Cond.static Lib.Math.min.name, Cond.code Lib.Math.min.name Lib.Math.min.code 2 (some .int)]
def wsX2_wordFor_r2 : List Cond := [Cond.methodLink RX2 34 yX2_wordFor, Cond.instanceMethod yX2_wordFor, Cond.selects RX2 yX2_wordFor yX2_wordFor, Cond.methodLink RX2 49 yX2_putTogether, Cond.instanceMethod yX2_putTogether, Cond.selects RX2 yX2_putTogether yX2_putTogether, Cond.code yX2_putTogether cX2_putTogether 6 none]
def wsX2_wordFor : List Cond := .code yX2_wordFor cX2_wordFor 5 (some .int) :: ((wsX2_wordFor_r1 ++ wsX2_wordFor_r2) ++ wsX20)
def wsX2_solve_r1 : List Cond := [Cond.fieldLink RX2 11 "PlusCodes$Halver" "rows" "[[I", Cond.fieldLink RX2 16 "PlusCodes$Code" "length" "I", Cond.fieldLink RX2 22 "PlusCodes$Code" "places" "I", Cond.methodLink RX2 25 arraycopyName, Cond.native arraycopyName, Cond.static arraycopyName, Cond.initialized "java/lang/System", Cond.fieldLink RX2 31 "PlusCodes$Code" "order" "I", Cond.methodLink RX2 34 yX2_wordFor, Cond.instanceMethod yX2_wordFor, Cond.selects RX2 yX2_wordFor yX2_wordFor, Cond.initialized RX2, Cond.code yX2_wordFor cX2_wordFor 5 (some .int), Cond.methodLink RX2 38 yX2_allAlike, Cond.instanceMethod yX2_allAlike, Cond.selects RX2 yX2_allAlike yX2_allAlike, Cond.code yX2_allAlike cX2_allAlike 5 (some .int), Cond.static yX8_lowest, Cond.initialized RX8, Cond.code yX8_lowest cX8_lowest 1 (some .int), Cond.methodLink RX2 42 yX2_eachAlone, Cond.instanceMethod yX2_eachAlone, Cond.selects RX2 yX2_eachAlone yX2_eachAlone, Cond.code yX2_eachAlone cX2_eachAlone 4 (some .int)]
def wsX2_solve_r2 : List Cond := [Cond.methodLink RX2 45 yX2_putLesser, Cond.instanceMethod yX2_putLesser, Cond.selects RX2 yX2_putLesser yX2_putLesser, Cond.code yX2_putLesser cX2_putLesser 7 none, Cond.methodLink RX2 56 Lib.Math.abs.name, Cond.static Lib.Math.abs.name, Cond.initialized "java/lang/Math", Cond.code Lib.Math.abs.name Lib.Math.abs.code 1 (some .int), Cond.methodLink RX2 61 Lib.Math.min.name, Cond.static Lib.Math.min.name, Cond.code Lib.Math.min.name Lib.Math.min.code 2 (some .int), Cond.methodLink RX2 49 yX2_putTogether, Cond.instanceMethod yX2_putTogether, Cond.selects RX2 yX2_putTogether yX2_putTogether, Cond.code yX2_putTogether cX2_putTogether 6 none]
def wsX2_solve : List Cond := .code yX2_solve cX2_solve 3 (some .int) :: ((wsX2_solve_r1 ++ wsX2_solve_r2) ++ wsX20 ++ wsX10)
def wsX3_init : List Cond := .code yX3_init cX3_init 1 none :: ([.methodLink RX3 1 objectInit, .instanceMethod objectInit, .code objectInit ⟨#[0xb1]⟩ 1 none, .arrayClass .int, .fieldLink RX3 9 "PlusCodes$Merits" "sums" "[I"] ++ wsX30)
def wsJ6_numberOfTrailingZeros_0f7a4 : List Cond := .code yJ6_numberOfTrailingZeros_0f7a4 cJ6_numberOfTrailingZeros_0f7a4 2 (some .int) :: ([.constant RJ6 264 (65536)])
def wsX3_weigh : List Cond := .code yX3_weigh cX3_weigh 6 none :: ([.fieldLink RX3 9 "PlusCodes$Merits" "sums" "[I", .methodLink RX3 13 yJ6_numberOfTrailingZeros_0f7a4, .static yJ6_numberOfTrailingZeros_0f7a4, .initialized RJ6, .code yJ6_numberOfTrailingZeros_0f7a4 cJ6_numberOfTrailingZeros_0f7a4 2 (some .int), .constant RJ6 264 (65536)] ++ wsX30)
def wsX3_sumFor : List Cond := .code yX3_sumFor cX3_sumFor 2 (some .int) :: ([.fieldLink RX3 9 "PlusCodes$Merits" "sums" "[I"] ++ wsX30)
def wsX5_init : List Cond := .code yX5_init cX5_init 1 none :: ([.methodLink RX5 3 objectInit, .instanceMethod objectInit, .code objectInit ⟨#[0xb1]⟩ 1 none, .classLink RX5 9 RX1, .instantiable RX1 5, .initialized RX1, .fieldLink RX5 12 "PlusCodes$State" "code" "LPlusCodes$Code;", .arrayClass .int, .fieldLink RX5 18 "PlusCodes$State" "soft" "[I", .instanceMethod yX1_init, .code yX1_init cX1_init 1 none, .methodLink RX1 3 objectInit, .fieldLink RX1 9 "PlusCodes$Code" "terms" "[I"] ++ wsX10 ++ wsX50)
def wsX4_init : List Cond := .code yX4_init cX4_init 2 none :: ([.methodLink RX4 3 objectInit, .instanceMethod objectInit, .code objectInit ⟨#[0xb1]⟩ 1 none, .classLink RX4 9 RX5, .fieldLink RX4 11 "PlusCodes$Past" "ring" "[LPlusCodes$State;", .instantiable RX5 3, .initialized RX5, .instanceMethod yX5_init, .code yX5_init cX5_init 1 none, .methodLink RX5 3 objectInit, .classLink RX5 9 RX1, .instantiable RX1 5, .initialized RX1, .fieldLink RX5 12 "PlusCodes$State" "code" "LPlusCodes$Code;", .arrayClass .int, .fieldLink RX5 18 "PlusCodes$State" "soft" "[I", .instanceMethod yX1_init, .code yX1_init cX1_init 1 none, .methodLink RX1 3 objectInit, .fieldLink RX1 9 "PlusCodes$Code" "terms" "[I"] ++ wsX40 ++ wsX50 ++ wsX10)
def wsX5_copy_r1 : List Cond := [Cond.fieldLink RX5 12 "PlusCodes$State" "code" "LPlusCodes$Code;", Cond.fieldLink RX5 36 "PlusCodes$Code" "order" "I", Cond.fieldLink RX5 39 "PlusCodes$Code" "length" "I", Cond.fieldLink RX5 26 "PlusCodes$State" "word" "I", Cond.fieldLink RX5 18 "PlusCodes$State" "soft" "[I", Cond.methodLink RX5 42 arraycopyName, Cond.native arraycopyName, Cond.static arraycopyName, Cond.initialized "java/lang/System", Cond.methodLink RX5 22 yX1_become, Cond.instanceMethod yX1_become, Cond.selects RX1 yX1_become yX1_become, Cond.initialized RX1, Cond.code yX1_become cX1_become 7 none, Cond.fieldLink RX1 15 "PlusCodes$Code" "order" "I", Cond.fieldLink RX1 19 "PlusCodes$Code" "length" "I", Cond.fieldLink RX1 22 "PlusCodes$Code" "places" "I", Cond.fieldLink RX1 25 "PlusCodes$Code" "count" "I", Cond.fieldLink RX1 9 "PlusCodes$Code" "terms" "[I", Cond.methodLink RX1 31 yJ6_bitCount_0f7a4, Cond.static yJ6_bitCount_0f7a4, Cond.initialized RJ6, Cond.code yJ6_bitCount_0f7a4 cJ6_bitCount_0f7a4 1 (some .int), Cond.constant RJ6 265 (1431655765)]
def wsX5_copy_r2 : List Cond := [Cond.constant RJ6 266 (858993459), Cond.constant RJ6 267 (252645135)]
def wsX5_copy : List Cond := .code yX5_copy cX5_copy 2 none :: ((wsX5_copy_r1 ++ wsX5_copy_r2) ++ wsX50 ++ wsX10)
def wsX4_keep_r1 : List Cond := [Cond.fieldLink RX4 11 "PlusCodes$Past" "ring" "[LPlusCodes$State;", Cond.fieldLink RX4 18 "PlusCodes$Past" "next" "I", Cond.fieldLink RX4 26 "PlusCodes$Past" "count" "I", Cond.methodLink RX4 29 Lib.Math.min.name, Cond.static Lib.Math.min.name, Cond.initialized "java/lang/Math", Cond.code Lib.Math.min.name Lib.Math.min.code 2 (some .int), Cond.methodLink RX4 22 yX5_copy, Cond.instanceMethod yX5_copy, Cond.selects RX5 yX5_copy yX5_copy, Cond.initialized RX5, Cond.code yX5_copy cX5_copy 2 none, Cond.fieldLink RX5 12 "PlusCodes$State" "code" "LPlusCodes$Code;", Cond.fieldLink RX5 36 "PlusCodes$Code" "order" "I", Cond.fieldLink RX5 39 "PlusCodes$Code" "length" "I", Cond.fieldLink RX5 26 "PlusCodes$State" "word" "I", Cond.fieldLink RX5 18 "PlusCodes$State" "soft" "[I", Cond.methodLink RX5 42 arraycopyName, Cond.native arraycopyName, Cond.static arraycopyName, Cond.initialized "java/lang/System", Cond.methodLink RX5 22 yX1_become, Cond.instanceMethod yX1_become, Cond.selects RX1 yX1_become yX1_become]
def wsX4_keep_r2 : List Cond := [Cond.initialized RX1, Cond.code yX1_become cX1_become 7 none, Cond.fieldLink RX1 15 "PlusCodes$Code" "order" "I", Cond.fieldLink RX1 19 "PlusCodes$Code" "length" "I", Cond.fieldLink RX1 22 "PlusCodes$Code" "places" "I", Cond.fieldLink RX1 25 "PlusCodes$Code" "count" "I", Cond.fieldLink RX1 9 "PlusCodes$Code" "terms" "[I", Cond.methodLink RX1 31 yJ6_bitCount_0f7a4, Cond.static yJ6_bitCount_0f7a4, Cond.initialized RJ6, Cond.code yJ6_bitCount_0f7a4 cJ6_bitCount_0f7a4 1 (some .int), Cond.constant RJ6 265 (1431655765), Cond.constant RJ6 266 (858993459), Cond.constant RJ6 267 (252645135)]
def wsX4_keep : List Cond := .code yX4_keep cX4_keep 2 none :: ((wsX4_keep_r1 ++ wsX4_keep_r2) ++ wsX40 ++ wsX50 ++ wsX10)
def wsX4_giveBack_r1 : List Cond := [Cond.fieldLink RX4 26 "PlusCodes$Past" "count" "I", Cond.fieldLink RX4 18 "PlusCodes$Past" "next" "I", Cond.fieldLink RX4 11 "PlusCodes$Past" "ring" "[LPlusCodes$State;", Cond.methodLink RX4 22 yX5_copy, Cond.instanceMethod yX5_copy, Cond.selects RX5 yX5_copy yX5_copy, Cond.initialized RX5, Cond.code yX5_copy cX5_copy 2 none, Cond.fieldLink RX5 12 "PlusCodes$State" "code" "LPlusCodes$Code;", Cond.fieldLink RX5 36 "PlusCodes$Code" "order" "I", Cond.fieldLink RX5 39 "PlusCodes$Code" "length" "I", Cond.fieldLink RX5 26 "PlusCodes$State" "word" "I", Cond.fieldLink RX5 18 "PlusCodes$State" "soft" "[I", Cond.methodLink RX5 42 arraycopyName, Cond.native arraycopyName, Cond.static arraycopyName, Cond.initialized "java/lang/System", Cond.methodLink RX5 22 yX1_become, Cond.instanceMethod yX1_become, Cond.selects RX1 yX1_become yX1_become, Cond.initialized RX1, Cond.code yX1_become cX1_become 7 none, Cond.fieldLink RX1 15 "PlusCodes$Code" "order" "I", Cond.fieldLink RX1 19 "PlusCodes$Code" "length" "I"]
def wsX4_giveBack_r2 : List Cond := [Cond.fieldLink RX1 22 "PlusCodes$Code" "places" "I", Cond.fieldLink RX1 25 "PlusCodes$Code" "count" "I", Cond.fieldLink RX1 9 "PlusCodes$Code" "terms" "[I", Cond.methodLink RX1 31 yJ6_bitCount_0f7a4, Cond.static yJ6_bitCount_0f7a4, Cond.initialized RJ6, Cond.code yJ6_bitCount_0f7a4 cJ6_bitCount_0f7a4 1 (some .int), Cond.constant RJ6 265 (1431655765), Cond.constant RJ6 266 (858993459), Cond.constant RJ6 267 (252645135)]
def wsX4_giveBack : List Cond := .code yX4_giveBack cX4_giveBack 2 none :: ((wsX4_giveBack_r1 ++ wsX4_giveBack_r2) ++ wsX40 ++ wsX50 ++ wsX10)
def wsJ7_fill_53178 : List Cond := .code yJ7_fill_53178 cJ7_fill_53178 4 none :: ([])
def wsX5_start : List Cond := .code yX5_start cX5_start 3 none :: ([.fieldLink RX5 12 "PlusCodes$State" "code" "LPlusCodes$Code;", .fieldLink RX5 26 "PlusCodes$State" "word" "I", .fieldLink RX5 18 "PlusCodes$State" "soft" "[I", .methodLink RX5 22 yX1_become, .instanceMethod yX1_become, .selects RX1 yX1_become yX1_become, .initialized RX1, .code yX1_become cX1_become 7 none, .fieldLink RX1 15 "PlusCodes$Code" "order" "I", .fieldLink RX1 19 "PlusCodes$Code" "length" "I", .fieldLink RX1 22 "PlusCodes$Code" "places" "I", .fieldLink RX1 25 "PlusCodes$Code" "count" "I", .fieldLink RX1 9 "PlusCodes$Code" "terms" "[I", .methodLink RX1 31 yJ6_bitCount_0f7a4, .static yJ6_bitCount_0f7a4, .initialized RJ6, .code yJ6_bitCount_0f7a4 cJ6_bitCount_0f7a4 1 (some .int), .constant RJ6 265 (1431655765), .constant RJ6 266 (858993459), .constant RJ6 267 (252645135), .methodLink RX5 30 yJ7_fill_53178, .static yJ7_fill_53178, .initialized RJ7, .code yJ7_fill_53178 cJ7_fill_53178 4 none] ++ wsX50 ++ wsX10)
def wsX5_bit : List Cond := .code yX5_bit cX5_bit 2 (some .int) :: ([.fieldLink RX5 26 "PlusCodes$State" "word" "I"] ++ wsX50)
def wsX6_init : List Cond := .code yX6_init cX6_init 1 none :: ([.methodLink RX6 3 objectInit, .instanceMethod objectInit, .code objectInit ⟨#[0xb1]⟩ 1 none, .arrayClass .byte, .fieldLink RX6 9 "PlusCodes$Text" "bytes" "[B", .fieldLink RX6 15 "PlusCodes$Text" "fault" "I"] ++ wsX60)
def wsX6_append : List Cond := .code yX6_append cX6_append 2 none :: ([.fieldLink RX6 19 "PlusCodes$Text" "size" "I", .fieldLink RX6 9 "PlusCodes$Text" "bytes" "[B"] ++ wsX60)
def wsX6_rewind : List Cond := .code yX6_rewind cX6_rewind 1 none :: ([.fieldLink RX6 22 "PlusCodes$Text" "next" "I", .fieldLink RX6 15 "PlusCodes$Text" "fault" "I"] ++ wsX60)
def wsX6_skipBlanks : List Cond := .code yX6_skipBlanks cX6_skipBlanks 1 none :: ([.fieldLink RX6 22 "PlusCodes$Text" "next" "I", .fieldLink RX6 19 "PlusCodes$Text" "size" "I", .fieldLink RX6 9 "PlusCodes$Text" "bytes" "[B"] ++ wsX60)
def wsX6_isAtEnd : List Cond := .code yX6_isAtEnd cX6_isAtEnd 1 (some .boolean) :: ([.fieldLink RX6 22 "PlusCodes$Text" "next" "I", .fieldLink RX6 19 "PlusCodes$Text" "size" "I", .methodLink RX6 25 yX6_skipBlanks, .instanceMethod yX6_skipBlanks, .selects RX6 yX6_skipBlanks yX6_skipBlanks, .initialized RX6, .code yX6_skipBlanks cX6_skipBlanks 1 none, .fieldLink RX6 9 "PlusCodes$Text" "bytes" "[B"] ++ wsX60)
def wsJ0_isLatin1_aae02 : List Cond := .code yJ0_isLatin1_aae02 cJ0_isLatin1_aae02 1 (some .boolean) :: ([.fieldLink RJ0 38 "java/lang/String" "COMPACT_STRINGS" "Z", .fieldLink RJ0 15 "java/lang/String" "coder" "B"])
def wsJ0_coder_7d493 : List Cond := .code yJ0_coder_7d493 cJ0_coder_7d493 1 (some .byte) :: ([.fieldLink RJ0 38 "java/lang/String" "COMPACT_STRINGS" "Z", .fieldLink RJ0 15 "java/lang/String" "coder" "B"])
def wsJ0_length_8abf5 : List Cond := .code yJ0_length_8abf5 cJ0_length_8abf5 1 (some .int) :: ([.fieldLink RJ0 9 "java/lang/String" "value" "[B", .methodLink RJ0 335 yJ0_coder_7d493, .instanceMethod yJ0_coder_7d493, .selects RJ0 yJ0_coder_7d493 yJ0_coder_7d493, .initialized RJ0, .code yJ0_coder_7d493 cJ0_coder_7d493 1 (some .byte), .fieldLink RJ0 38 "java/lang/String" "COMPACT_STRINGS" "Z", .fieldLink RJ0 15 "java/lang/String" "coder" "B"])
def wsJ1_canEncode_9a6ad : List Cond := .code yJ1_canEncode_9a6ad cJ1_canEncode_9a6ad 1 (some .boolean) :: ([])
def wsJ1_indexOfChar_4cfef : List Cond := .code yJ1_indexOfChar_4cfef cJ1_indexOfChar_4cfef 6 (some .int) :: ([])
def wsJ1_indexOf_4cfef : List Cond := .code yJ1_indexOf_4cfef cJ1_indexOf_4cfef 4 (some .int) :: ([.methodLink RJ1 92 Lib.Math.max.name, .static Lib.Math.max.name, .initialized "java/lang/Math", .code Lib.Math.max.name Lib.Math.max.code 2 (some .int), .methodLink RJ1 38 Lib.Math.min.name, .static Lib.Math.min.name, .code Lib.Math.min.name Lib.Math.min.code 2 (some .int), .methodLink RJ1 88 yJ1_canEncode_9a6ad, .static yJ1_canEncode_9a6ad, .initialized RJ1, .code yJ1_canEncode_9a6ad cJ1_canEncode_9a6ad 1 (some .boolean), .methodLink RJ1 95 yJ1_indexOfChar_4cfef, .static yJ1_indexOfChar_4cfef, .code yJ1_indexOfChar_4cfef cJ1_indexOfChar_4cfef 6 (some .int)])
def wsJ2_length_9d52b : List Cond := .code yJ2_length_9d52b cJ2_length_9d52b 1 (some .int) :: ([])
def wsJ3_checkFromToIndex_8c36e : List Cond := .code yJ3_checkFromToIndex_8c36e cJ3_checkFromToIndex_8c36e 4 (some .int) :: ([])
def wsJ0_checkBoundsBeginEnd_23922 : List Cond := .code yJ0_checkBoundsBeginEnd_23922 cJ0_checkBoundsBeginEnd_23922 3 none :: ([.fieldLink RJ0 1053 "jdk/internal/util/Preconditions" "SIOOBE_FORMATTER" "Ljava/util/function/BiFunction;", .methodLink RJ0 1062 yJ3_checkFromToIndex_8c36e, .static yJ3_checkFromToIndex_8c36e, .initialized RJ3, .code yJ3_checkFromToIndex_8c36e cJ3_checkFromToIndex_8c36e 4 (some .int)])
def wsJ2_checkBoundsBeginEnd_d044e : List Cond := .code yJ2_checkBoundsBeginEnd_d044e cJ2_checkBoundsBeginEnd_d044e 3 none :: ([.methodLink RJ2 48 yJ2_length_9d52b, .static yJ2_length_9d52b, .initialized RJ2, .code yJ2_length_9d52b cJ2_length_9d52b 1 (some .int), .methodLink RJ2 241 yJ0_checkBoundsBeginEnd_23922, .static yJ0_checkBoundsBeginEnd_23922, .initialized RJ0, .code yJ0_checkBoundsBeginEnd_23922 cJ0_checkBoundsBeginEnd_23922 3 none, .fieldLink RJ0 1053 "jdk/internal/util/Preconditions" "SIOOBE_FORMATTER" "Ljava/util/function/BiFunction;", .methodLink RJ0 1062 yJ3_checkFromToIndex_8c36e, .static yJ3_checkFromToIndex_8c36e, .initialized RJ3, .code yJ3_checkFromToIndex_8c36e cJ3_checkFromToIndex_8c36e 4 (some .int)])
def wsJ2_getChar_3b067 : List Cond := .code yJ2_getChar_3b067 cJ2_getChar_3b067 2 (some .char) :: ([.fieldLink RJ2 44 "java/lang/StringUTF16" "$assertionsDisabled" "Z", .fieldLink RJ2 59 "java/lang/StringUTF16" "HI_BYTE_SHIFT" "I", .fieldLink RJ2 63 "java/lang/StringUTF16" "LO_BYTE_SHIFT" "I", .methodLink RJ2 48 yJ2_length_9d52b, .static yJ2_length_9d52b, .initialized RJ2, .code yJ2_length_9d52b cJ2_length_9d52b 1 (some .int)])
def wsJ2_indexOfCharUnsafe_4cfef : List Cond := .code yJ2_indexOfCharUnsafe_4cfef cJ2_indexOfCharUnsafe_4cfef 5 (some .int) :: ([.methodLink RJ2 71 yJ2_getChar_3b067, .static yJ2_getChar_3b067, .initialized RJ2, .code yJ2_getChar_3b067 cJ2_getChar_3b067 2 (some .char), .fieldLink RJ2 44 "java/lang/StringUTF16" "$assertionsDisabled" "Z", .fieldLink RJ2 59 "java/lang/StringUTF16" "HI_BYTE_SHIFT" "I", .fieldLink RJ2 63 "java/lang/StringUTF16" "LO_BYTE_SHIFT" "I", .methodLink RJ2 48 yJ2_length_9d52b, .static yJ2_length_9d52b, .code yJ2_length_9d52b cJ2_length_9d52b 1 (some .int)])
def wsJ2_indexOfChar_4cfef_r1 : List Cond := [Cond.methodLink RJ2 96 yJ2_checkBoundsBeginEnd_d044e, Cond.static yJ2_checkBoundsBeginEnd_d044e, Cond.initialized RJ2, Cond.code yJ2_checkBoundsBeginEnd_d044e cJ2_checkBoundsBeginEnd_d044e 3 none, Cond.methodLink RJ2 48 yJ2_length_9d52b, Cond.static yJ2_length_9d52b, Cond.code yJ2_length_9d52b cJ2_length_9d52b 1 (some .int), Cond.methodLink RJ2 241 yJ0_checkBoundsBeginEnd_23922, Cond.static yJ0_checkBoundsBeginEnd_23922, Cond.initialized RJ0, Cond.code yJ0_checkBoundsBeginEnd_23922 cJ0_checkBoundsBeginEnd_23922 3 none, Cond.fieldLink RJ0 1053 "jdk/internal/util/Preconditions" "SIOOBE_FORMATTER" "Ljava/util/function/BiFunction;", Cond.methodLink RJ0 1062 yJ3_checkFromToIndex_8c36e, Cond.static yJ3_checkFromToIndex_8c36e, Cond.initialized RJ3, Cond.code yJ3_checkFromToIndex_8c36e cJ3_checkFromToIndex_8c36e 4 (some .int), Cond.methodLink RJ2 244 yJ2_indexOfCharUnsafe_4cfef, Cond.static yJ2_indexOfCharUnsafe_4cfef, Cond.code yJ2_indexOfCharUnsafe_4cfef cJ2_indexOfCharUnsafe_4cfef 5 (some .int), Cond.methodLink RJ2 71 yJ2_getChar_3b067, Cond.static yJ2_getChar_3b067, Cond.code yJ2_getChar_3b067 cJ2_getChar_3b067 2 (some .char), Cond.fieldLink RJ2 44 "java/lang/StringUTF16" "$assertionsDisabled" "Z", Cond.fieldLink RJ2 59 "java/lang/StringUTF16" "HI_BYTE_SHIFT" "I"]
def wsJ2_indexOfChar_4cfef_r2 : List Cond := [Cond.fieldLink RJ2 63 "java/lang/StringUTF16" "LO_BYTE_SHIFT" "I"]
def wsJ2_indexOfChar_4cfef : List Cond := .code yJ2_indexOfChar_4cfef cJ2_indexOfChar_4cfef 4 (some .int) :: ((wsJ2_indexOfChar_4cfef_r1 ++ wsJ2_indexOfChar_4cfef_r2))
def wsJ11_isValidCodePoint_9a6ad : List Cond := .code yJ11_isValidCodePoint_9a6ad cJ11_isValidCodePoint_9a6ad 2 (some .boolean) :: ([])
def wsJ11_highSurrogate_5068e : List Cond := .code yJ11_highSurrogate_5068e cJ11_highSurrogate_5068e 1 (some .char) :: ([.constant RJ11 110 (55232)])
def wsJ11_lowSurrogate_5068e : List Cond := .code yJ11_lowSurrogate_5068e cJ11_lowSurrogate_5068e 1 (some .char) :: ([.constant RJ11 76 (56320)])
def wsJ2_indexOfSupplementary_4cfef_r1 : List Cond := [Cond.methodLink RJ2 164 yJ11_isValidCodePoint_9a6ad, Cond.static yJ11_isValidCodePoint_9a6ad, Cond.initialized RJ11, Cond.code yJ11_isValidCodePoint_9a6ad cJ11_isValidCodePoint_9a6ad 2 (some .boolean), Cond.methodLink RJ2 157 yJ11_highSurrogate_5068e, Cond.static yJ11_highSurrogate_5068e, Cond.code yJ11_highSurrogate_5068e cJ11_highSurrogate_5068e 1 (some .char), Cond.constant RJ11 110 (55232), Cond.methodLink RJ2 161 yJ11_lowSurrogate_5068e, Cond.static yJ11_lowSurrogate_5068e, Cond.code yJ11_lowSurrogate_5068e cJ11_lowSurrogate_5068e 1 (some .char), Cond.constant RJ11 76 (56320), Cond.methodLink RJ2 96 yJ2_checkBoundsBeginEnd_d044e, Cond.static yJ2_checkBoundsBeginEnd_d044e, Cond.initialized RJ2, Cond.code yJ2_checkBoundsBeginEnd_d044e cJ2_checkBoundsBeginEnd_d044e 3 none, Cond.methodLink RJ2 48 yJ2_length_9d52b, Cond.static yJ2_length_9d52b, Cond.code yJ2_length_9d52b cJ2_length_9d52b 1 (some .int), Cond.methodLink RJ2 241 yJ0_checkBoundsBeginEnd_23922, Cond.static yJ0_checkBoundsBeginEnd_23922, Cond.initialized RJ0, Cond.code yJ0_checkBoundsBeginEnd_23922 cJ0_checkBoundsBeginEnd_23922 3 none, Cond.fieldLink RJ0 1053 "jdk/internal/util/Preconditions" "SIOOBE_FORMATTER" "Ljava/util/function/BiFunction;"]
def wsJ2_indexOfSupplementary_4cfef_r2 : List Cond := [Cond.methodLink RJ0 1062 yJ3_checkFromToIndex_8c36e, Cond.static yJ3_checkFromToIndex_8c36e, Cond.initialized RJ3, Cond.code yJ3_checkFromToIndex_8c36e cJ3_checkFromToIndex_8c36e 4 (some .int), Cond.methodLink RJ2 71 yJ2_getChar_3b067, Cond.static yJ2_getChar_3b067, Cond.code yJ2_getChar_3b067 cJ2_getChar_3b067 2 (some .char), Cond.fieldLink RJ2 44 "java/lang/StringUTF16" "$assertionsDisabled" "Z", Cond.fieldLink RJ2 59 "java/lang/StringUTF16" "HI_BYTE_SHIFT" "I", Cond.fieldLink RJ2 63 "java/lang/StringUTF16" "LO_BYTE_SHIFT" "I"]
def wsJ2_indexOfSupplementary_4cfef : List Cond := .code yJ2_indexOfSupplementary_4cfef cJ2_indexOfSupplementary_4cfef 7 (some .int) :: ((wsJ2_indexOfSupplementary_4cfef_r1 ++ wsJ2_indexOfSupplementary_4cfef_r2))
def wsJ2_indexOf_4cfef_r1 : List Cond := [Cond.methodLink RJ2 224 Lib.Math.max.name, Cond.static Lib.Math.max.name, Cond.initialized "java/lang/Math", Cond.code Lib.Math.max.name Lib.Math.max.code 2 (some .int), Cond.methodLink RJ2 183 Lib.Math.min.name, Cond.static Lib.Math.min.name, Cond.code Lib.Math.min.name Lib.Math.min.code 2 (some .int), Cond.constant RJ2 227 (65536), Cond.methodLink RJ2 228 yJ2_indexOfChar_4cfef, Cond.static yJ2_indexOfChar_4cfef, Cond.initialized RJ2, Cond.code yJ2_indexOfChar_4cfef cJ2_indexOfChar_4cfef 4 (some .int), Cond.methodLink RJ2 96 yJ2_checkBoundsBeginEnd_d044e, Cond.static yJ2_checkBoundsBeginEnd_d044e, Cond.code yJ2_checkBoundsBeginEnd_d044e cJ2_checkBoundsBeginEnd_d044e 3 none, Cond.methodLink RJ2 48 yJ2_length_9d52b, Cond.static yJ2_length_9d52b, Cond.code yJ2_length_9d52b cJ2_length_9d52b 1 (some .int), Cond.methodLink RJ2 241 yJ0_checkBoundsBeginEnd_23922, Cond.static yJ0_checkBoundsBeginEnd_23922, Cond.initialized RJ0, Cond.code yJ0_checkBoundsBeginEnd_23922 cJ0_checkBoundsBeginEnd_23922 3 none, Cond.fieldLink RJ0 1053 "jdk/internal/util/Preconditions" "SIOOBE_FORMATTER" "Ljava/util/function/BiFunction;", Cond.methodLink RJ0 1062 yJ3_checkFromToIndex_8c36e]
def wsJ2_indexOf_4cfef_r2 : List Cond := [Cond.static yJ3_checkFromToIndex_8c36e, Cond.initialized RJ3, Cond.code yJ3_checkFromToIndex_8c36e cJ3_checkFromToIndex_8c36e 4 (some .int), Cond.methodLink RJ2 244 yJ2_indexOfCharUnsafe_4cfef, Cond.static yJ2_indexOfCharUnsafe_4cfef, Cond.code yJ2_indexOfCharUnsafe_4cfef cJ2_indexOfCharUnsafe_4cfef 5 (some .int), Cond.methodLink RJ2 71 yJ2_getChar_3b067, Cond.static yJ2_getChar_3b067, Cond.code yJ2_getChar_3b067 cJ2_getChar_3b067 2 (some .char), Cond.fieldLink RJ2 44 "java/lang/StringUTF16" "$assertionsDisabled" "Z", Cond.fieldLink RJ2 59 "java/lang/StringUTF16" "HI_BYTE_SHIFT" "I", Cond.fieldLink RJ2 63 "java/lang/StringUTF16" "LO_BYTE_SHIFT" "I", Cond.methodLink RJ2 232 yJ2_indexOfSupplementary_4cfef, Cond.static yJ2_indexOfSupplementary_4cfef, Cond.code yJ2_indexOfSupplementary_4cfef cJ2_indexOfSupplementary_4cfef 7 (some .int), Cond.methodLink RJ2 164 yJ11_isValidCodePoint_9a6ad, Cond.static yJ11_isValidCodePoint_9a6ad, Cond.initialized RJ11, Cond.code yJ11_isValidCodePoint_9a6ad cJ11_isValidCodePoint_9a6ad 2 (some .boolean), Cond.methodLink RJ2 157 yJ11_highSurrogate_5068e, Cond.static yJ11_highSurrogate_5068e, Cond.code yJ11_highSurrogate_5068e cJ11_highSurrogate_5068e 1 (some .char), Cond.constant RJ11 110 (55232), Cond.methodLink RJ2 161 yJ11_lowSurrogate_5068e]
def wsJ2_indexOf_4cfef_r3 : List Cond := [Cond.static yJ11_lowSurrogate_5068e, Cond.code yJ11_lowSurrogate_5068e cJ11_lowSurrogate_5068e 1 (some .char), Cond.constant RJ11 76 (56320)]
def wsJ2_indexOf_4cfef : List Cond := .code yJ2_indexOf_4cfef cJ2_indexOf_4cfef 4 (some .int) :: ((wsJ2_indexOf_4cfef_r1 ++ (wsJ2_indexOf_4cfef_r2 ++ wsJ2_indexOf_4cfef_r3)))
def wsJ0_indexOf_7cf53_r1 : List Cond := [Cond.fieldLink RJ0 9 "java/lang/String" "value" "[B", Cond.methodLink RJ0 492 yJ0_isLatin1_aae02, Cond.instanceMethod yJ0_isLatin1_aae02, Cond.selects RJ0 yJ0_isLatin1_aae02 yJ0_isLatin1_aae02, Cond.initialized RJ0, Cond.code yJ0_isLatin1_aae02 cJ0_isLatin1_aae02 1 (some .boolean), Cond.fieldLink RJ0 38 "java/lang/String" "COMPACT_STRINGS" "Z", Cond.fieldLink RJ0 15 "java/lang/String" "coder" "B", Cond.methodLink RJ0 505 yJ0_length_8abf5, Cond.instanceMethod yJ0_length_8abf5, Cond.selects RJ0 yJ0_length_8abf5 yJ0_length_8abf5, Cond.code yJ0_length_8abf5 cJ0_length_8abf5 1 (some .int), Cond.methodLink RJ0 335 yJ0_coder_7d493, Cond.instanceMethod yJ0_coder_7d493, Cond.selects RJ0 yJ0_coder_7d493 yJ0_coder_7d493, Cond.code yJ0_coder_7d493 cJ0_coder_7d493 1 (some .byte), Cond.methodLink RJ0 637 yJ1_indexOf_4cfef, Cond.static yJ1_indexOf_4cfef, Cond.initialized RJ1, Cond.code yJ1_indexOf_4cfef cJ1_indexOf_4cfef 4 (some .int), Cond.methodLink RJ1 92 Lib.Math.max.name, Cond.static Lib.Math.max.name, Cond.initialized "java/lang/Math", Cond.code Lib.Math.max.name Lib.Math.max.code 2 (some .int)]
def wsJ0_indexOf_7cf53_r2 : List Cond := [Cond.methodLink RJ1 38 Lib.Math.min.name, Cond.static Lib.Math.min.name, Cond.code Lib.Math.min.name Lib.Math.min.code 2 (some .int), Cond.methodLink RJ1 88 yJ1_canEncode_9a6ad, Cond.static yJ1_canEncode_9a6ad, Cond.code yJ1_canEncode_9a6ad cJ1_canEncode_9a6ad 1 (some .boolean), Cond.methodLink RJ1 95 yJ1_indexOfChar_4cfef, Cond.static yJ1_indexOfChar_4cfef, Cond.code yJ1_indexOfChar_4cfef cJ1_indexOfChar_4cfef 6 (some .int), Cond.methodLink RJ0 640 yJ2_indexOf_4cfef, Cond.static yJ2_indexOf_4cfef, Cond.initialized RJ2, Cond.code yJ2_indexOf_4cfef cJ2_indexOf_4cfef 4 (some .int), Cond.methodLink RJ2 224 Lib.Math.max.name, Cond.methodLink RJ2 183 Lib.Math.min.name, Cond.constant RJ2 227 (65536), Cond.methodLink RJ2 228 yJ2_indexOfChar_4cfef, Cond.static yJ2_indexOfChar_4cfef, Cond.code yJ2_indexOfChar_4cfef cJ2_indexOfChar_4cfef 4 (some .int), Cond.methodLink RJ2 96 yJ2_checkBoundsBeginEnd_d044e, Cond.static yJ2_checkBoundsBeginEnd_d044e, Cond.code yJ2_checkBoundsBeginEnd_d044e cJ2_checkBoundsBeginEnd_d044e 3 none, Cond.methodLink RJ2 48 yJ2_length_9d52b, Cond.static yJ2_length_9d52b]
def wsJ0_indexOf_7cf53_r3 : List Cond := [Cond.code yJ2_length_9d52b cJ2_length_9d52b 1 (some .int), Cond.methodLink RJ2 241 yJ0_checkBoundsBeginEnd_23922, Cond.static yJ0_checkBoundsBeginEnd_23922, Cond.code yJ0_checkBoundsBeginEnd_23922 cJ0_checkBoundsBeginEnd_23922 3 none, Cond.fieldLink RJ0 1053 "jdk/internal/util/Preconditions" "SIOOBE_FORMATTER" "Ljava/util/function/BiFunction;", Cond.methodLink RJ0 1062 yJ3_checkFromToIndex_8c36e, Cond.static yJ3_checkFromToIndex_8c36e, Cond.initialized RJ3, Cond.code yJ3_checkFromToIndex_8c36e cJ3_checkFromToIndex_8c36e 4 (some .int), Cond.methodLink RJ2 244 yJ2_indexOfCharUnsafe_4cfef, Cond.static yJ2_indexOfCharUnsafe_4cfef, Cond.code yJ2_indexOfCharUnsafe_4cfef cJ2_indexOfCharUnsafe_4cfef 5 (some .int), Cond.methodLink RJ2 71 yJ2_getChar_3b067, Cond.static yJ2_getChar_3b067, Cond.code yJ2_getChar_3b067 cJ2_getChar_3b067 2 (some .char), Cond.fieldLink RJ2 44 "java/lang/StringUTF16" "$assertionsDisabled" "Z", Cond.fieldLink RJ2 59 "java/lang/StringUTF16" "HI_BYTE_SHIFT" "I", Cond.fieldLink RJ2 63 "java/lang/StringUTF16" "LO_BYTE_SHIFT" "I", Cond.methodLink RJ2 232 yJ2_indexOfSupplementary_4cfef, Cond.static yJ2_indexOfSupplementary_4cfef, Cond.code yJ2_indexOfSupplementary_4cfef cJ2_indexOfSupplementary_4cfef 7 (some .int), Cond.methodLink RJ2 164 yJ11_isValidCodePoint_9a6ad, Cond.static yJ11_isValidCodePoint_9a6ad, Cond.initialized RJ11]
def wsJ0_indexOf_7cf53_r4 : List Cond := [Cond.code yJ11_isValidCodePoint_9a6ad cJ11_isValidCodePoint_9a6ad 2 (some .boolean), Cond.methodLink RJ2 157 yJ11_highSurrogate_5068e, Cond.static yJ11_highSurrogate_5068e, Cond.code yJ11_highSurrogate_5068e cJ11_highSurrogate_5068e 1 (some .char), Cond.constant RJ11 110 (55232), Cond.methodLink RJ2 161 yJ11_lowSurrogate_5068e, Cond.static yJ11_lowSurrogate_5068e, Cond.code yJ11_lowSurrogate_5068e cJ11_lowSurrogate_5068e 1 (some .char), Cond.constant RJ11 76 (56320)]
def wsJ0_indexOf_7cf53 : List Cond := .code yJ0_indexOf_7cf53 cJ0_indexOf_7cf53 3 (some .int) :: ((wsJ0_indexOf_7cf53_r1 ++ (wsJ0_indexOf_7cf53_r2 ++ (wsJ0_indexOf_7cf53_r3 ++ wsJ0_indexOf_7cf53_r4))))
def wsJ0_indexOf_0f7a4_r1 : List Cond := [Cond.methodLink RJ0 633 yJ0_indexOf_7cf53, Cond.instanceMethod yJ0_indexOf_7cf53, Cond.selects RJ0 yJ0_indexOf_7cf53 yJ0_indexOf_7cf53, Cond.initialized RJ0, Cond.code yJ0_indexOf_7cf53 cJ0_indexOf_7cf53 3 (some .int), Cond.fieldLink RJ0 9 "java/lang/String" "value" "[B", Cond.methodLink RJ0 492 yJ0_isLatin1_aae02, Cond.instanceMethod yJ0_isLatin1_aae02, Cond.selects RJ0 yJ0_isLatin1_aae02 yJ0_isLatin1_aae02, Cond.code yJ0_isLatin1_aae02 cJ0_isLatin1_aae02 1 (some .boolean), Cond.fieldLink RJ0 38 "java/lang/String" "COMPACT_STRINGS" "Z", Cond.fieldLink RJ0 15 "java/lang/String" "coder" "B", Cond.methodLink RJ0 505 yJ0_length_8abf5, Cond.instanceMethod yJ0_length_8abf5, Cond.selects RJ0 yJ0_length_8abf5 yJ0_length_8abf5, Cond.code yJ0_length_8abf5 cJ0_length_8abf5 1 (some .int), Cond.methodLink RJ0 335 yJ0_coder_7d493, Cond.instanceMethod yJ0_coder_7d493, Cond.selects RJ0 yJ0_coder_7d493 yJ0_coder_7d493, Cond.code yJ0_coder_7d493 cJ0_coder_7d493 1 (some .byte), Cond.methodLink RJ0 637 yJ1_indexOf_4cfef, Cond.static yJ1_indexOf_4cfef, Cond.initialized RJ1, Cond.code yJ1_indexOf_4cfef cJ1_indexOf_4cfef 4 (some .int)]
def wsJ0_indexOf_0f7a4_r2 : List Cond := [Cond.methodLink RJ1 92 Lib.Math.max.name, Cond.static Lib.Math.max.name, Cond.initialized "java/lang/Math", Cond.code Lib.Math.max.name Lib.Math.max.code 2 (some .int), Cond.methodLink RJ1 38 Lib.Math.min.name, Cond.static Lib.Math.min.name, Cond.code Lib.Math.min.name Lib.Math.min.code 2 (some .int), Cond.methodLink RJ1 88 yJ1_canEncode_9a6ad, Cond.static yJ1_canEncode_9a6ad, Cond.code yJ1_canEncode_9a6ad cJ1_canEncode_9a6ad 1 (some .boolean), Cond.methodLink RJ1 95 yJ1_indexOfChar_4cfef, Cond.static yJ1_indexOfChar_4cfef, Cond.code yJ1_indexOfChar_4cfef cJ1_indexOfChar_4cfef 6 (some .int), Cond.methodLink RJ0 640 yJ2_indexOf_4cfef, Cond.static yJ2_indexOf_4cfef, Cond.initialized RJ2, Cond.code yJ2_indexOf_4cfef cJ2_indexOf_4cfef 4 (some .int), Cond.methodLink RJ2 224 Lib.Math.max.name, Cond.methodLink RJ2 183 Lib.Math.min.name, Cond.constant RJ2 227 (65536), Cond.methodLink RJ2 228 yJ2_indexOfChar_4cfef, Cond.static yJ2_indexOfChar_4cfef, Cond.code yJ2_indexOfChar_4cfef cJ2_indexOfChar_4cfef 4 (some .int), Cond.methodLink RJ2 96 yJ2_checkBoundsBeginEnd_d044e]
def wsJ0_indexOf_0f7a4_r3 : List Cond := [Cond.static yJ2_checkBoundsBeginEnd_d044e, Cond.code yJ2_checkBoundsBeginEnd_d044e cJ2_checkBoundsBeginEnd_d044e 3 none, Cond.methodLink RJ2 48 yJ2_length_9d52b, Cond.static yJ2_length_9d52b, Cond.code yJ2_length_9d52b cJ2_length_9d52b 1 (some .int), Cond.methodLink RJ2 241 yJ0_checkBoundsBeginEnd_23922, Cond.static yJ0_checkBoundsBeginEnd_23922, Cond.code yJ0_checkBoundsBeginEnd_23922 cJ0_checkBoundsBeginEnd_23922 3 none, Cond.fieldLink RJ0 1053 "jdk/internal/util/Preconditions" "SIOOBE_FORMATTER" "Ljava/util/function/BiFunction;", Cond.methodLink RJ0 1062 yJ3_checkFromToIndex_8c36e, Cond.static yJ3_checkFromToIndex_8c36e, Cond.initialized RJ3, Cond.code yJ3_checkFromToIndex_8c36e cJ3_checkFromToIndex_8c36e 4 (some .int), Cond.methodLink RJ2 244 yJ2_indexOfCharUnsafe_4cfef, Cond.static yJ2_indexOfCharUnsafe_4cfef, Cond.code yJ2_indexOfCharUnsafe_4cfef cJ2_indexOfCharUnsafe_4cfef 5 (some .int), Cond.methodLink RJ2 71 yJ2_getChar_3b067, Cond.static yJ2_getChar_3b067, Cond.code yJ2_getChar_3b067 cJ2_getChar_3b067 2 (some .char), Cond.fieldLink RJ2 44 "java/lang/StringUTF16" "$assertionsDisabled" "Z", Cond.fieldLink RJ2 59 "java/lang/StringUTF16" "HI_BYTE_SHIFT" "I", Cond.fieldLink RJ2 63 "java/lang/StringUTF16" "LO_BYTE_SHIFT" "I", Cond.methodLink RJ2 232 yJ2_indexOfSupplementary_4cfef, Cond.static yJ2_indexOfSupplementary_4cfef]
def wsJ0_indexOf_0f7a4_r4 : List Cond := [Cond.code yJ2_indexOfSupplementary_4cfef cJ2_indexOfSupplementary_4cfef 7 (some .int), Cond.methodLink RJ2 164 yJ11_isValidCodePoint_9a6ad, Cond.static yJ11_isValidCodePoint_9a6ad, Cond.initialized RJ11, Cond.code yJ11_isValidCodePoint_9a6ad cJ11_isValidCodePoint_9a6ad 2 (some .boolean), Cond.methodLink RJ2 157 yJ11_highSurrogate_5068e, Cond.static yJ11_highSurrogate_5068e, Cond.code yJ11_highSurrogate_5068e cJ11_highSurrogate_5068e 1 (some .char), Cond.constant RJ11 110 (55232), Cond.methodLink RJ2 161 yJ11_lowSurrogate_5068e, Cond.static yJ11_lowSurrogate_5068e, Cond.code yJ11_lowSurrogate_5068e cJ11_lowSurrogate_5068e 1 (some .char), Cond.constant RJ11 76 (56320)]
def wsJ0_indexOf_0f7a4 : List Cond := .code yJ0_indexOf_0f7a4 cJ0_indexOf_0f7a4 2 (some .int) :: ((wsJ0_indexOf_0f7a4_r1 ++ (wsJ0_indexOf_0f7a4_r2 ++ (wsJ0_indexOf_0f7a4_r3 ++ wsJ0_indexOf_0f7a4_r4))))
def wsX6_failAt : List Cond := .code yX6_failAt cX6_failAt 2 none :: ([.fieldLink RX6 15 "PlusCodes$Text" "fault" "I"] ++ wsX60)
def wsX6_readOneOf_r1 : List Cond := [Cond.fieldLink RX6 9 "PlusCodes$Text" "bytes" "[B", Cond.fieldLink RX6 22 "PlusCodes$Text" "next" "I", Cond.methodLink RX6 28 yX6_isAtEnd, Cond.instanceMethod yX6_isAtEnd, Cond.selects RX6 yX6_isAtEnd yX6_isAtEnd, Cond.initialized RX6, Cond.code yX6_isAtEnd cX6_isAtEnd 1 (some .boolean), Cond.fieldLink RX6 19 "PlusCodes$Text" "size" "I", Cond.methodLink RX6 25 yX6_skipBlanks, Cond.instanceMethod yX6_skipBlanks, Cond.selects RX6 yX6_skipBlanks yX6_skipBlanks, Cond.code yX6_skipBlanks cX6_skipBlanks 1 none, Cond.methodLink RX6 32 yJ0_indexOf_0f7a4, Cond.instanceMethod yJ0_indexOf_0f7a4, Cond.selects RJ0 yJ0_indexOf_0f7a4 yJ0_indexOf_0f7a4, Cond.initialized RJ0, Cond.code yJ0_indexOf_0f7a4 cJ0_indexOf_0f7a4 2 (some .int), Cond.methodLink RJ0 633 yJ0_indexOf_7cf53, Cond.instanceMethod yJ0_indexOf_7cf53, Cond.selects RJ0 yJ0_indexOf_7cf53 yJ0_indexOf_7cf53, Cond.code yJ0_indexOf_7cf53 cJ0_indexOf_7cf53 3 (some .int), Cond.fieldLink RJ0 9 "java/lang/String" "value" "[B", Cond.methodLink RJ0 492 yJ0_isLatin1_aae02, Cond.instanceMethod yJ0_isLatin1_aae02]
def wsX6_readOneOf_r2 : List Cond := [Cond.selects RJ0 yJ0_isLatin1_aae02 yJ0_isLatin1_aae02, Cond.code yJ0_isLatin1_aae02 cJ0_isLatin1_aae02 1 (some .boolean), Cond.fieldLink RJ0 38 "java/lang/String" "COMPACT_STRINGS" "Z", Cond.fieldLink RJ0 15 "java/lang/String" "coder" "B", Cond.methodLink RJ0 505 yJ0_length_8abf5, Cond.instanceMethod yJ0_length_8abf5, Cond.selects RJ0 yJ0_length_8abf5 yJ0_length_8abf5, Cond.code yJ0_length_8abf5 cJ0_length_8abf5 1 (some .int), Cond.methodLink RJ0 335 yJ0_coder_7d493, Cond.instanceMethod yJ0_coder_7d493, Cond.selects RJ0 yJ0_coder_7d493 yJ0_coder_7d493, Cond.code yJ0_coder_7d493 cJ0_coder_7d493 1 (some .byte), Cond.methodLink RJ0 637 yJ1_indexOf_4cfef, Cond.static yJ1_indexOf_4cfef, Cond.initialized RJ1, Cond.code yJ1_indexOf_4cfef cJ1_indexOf_4cfef 4 (some .int), Cond.methodLink RJ1 92 Lib.Math.max.name, Cond.static Lib.Math.max.name, Cond.initialized "java/lang/Math", Cond.code Lib.Math.max.name Lib.Math.max.code 2 (some .int), Cond.methodLink RJ1 38 Lib.Math.min.name, Cond.static Lib.Math.min.name, Cond.code Lib.Math.min.name Lib.Math.min.code 2 (some .int), Cond.methodLink RJ1 88 yJ1_canEncode_9a6ad]
def wsX6_readOneOf_r3 : List Cond := [Cond.static yJ1_canEncode_9a6ad, Cond.code yJ1_canEncode_9a6ad cJ1_canEncode_9a6ad 1 (some .boolean), Cond.methodLink RJ1 95 yJ1_indexOfChar_4cfef, Cond.static yJ1_indexOfChar_4cfef, Cond.code yJ1_indexOfChar_4cfef cJ1_indexOfChar_4cfef 6 (some .int), Cond.methodLink RJ0 640 yJ2_indexOf_4cfef, Cond.static yJ2_indexOf_4cfef, Cond.initialized RJ2, Cond.code yJ2_indexOf_4cfef cJ2_indexOf_4cfef 4 (some .int), Cond.methodLink RJ2 224 Lib.Math.max.name, Cond.methodLink RJ2 183 Lib.Math.min.name, Cond.constant RJ2 227 (65536), Cond.methodLink RJ2 228 yJ2_indexOfChar_4cfef, Cond.static yJ2_indexOfChar_4cfef, Cond.code yJ2_indexOfChar_4cfef cJ2_indexOfChar_4cfef 4 (some .int), Cond.methodLink RJ2 96 yJ2_checkBoundsBeginEnd_d044e, Cond.static yJ2_checkBoundsBeginEnd_d044e, Cond.code yJ2_checkBoundsBeginEnd_d044e cJ2_checkBoundsBeginEnd_d044e 3 none, Cond.methodLink RJ2 48 yJ2_length_9d52b, Cond.static yJ2_length_9d52b, Cond.code yJ2_length_9d52b cJ2_length_9d52b 1 (some .int), Cond.methodLink RJ2 241 yJ0_checkBoundsBeginEnd_23922, Cond.static yJ0_checkBoundsBeginEnd_23922, Cond.code yJ0_checkBoundsBeginEnd_23922 cJ0_checkBoundsBeginEnd_23922 3 none]
def wsX6_readOneOf_r4 : List Cond := [Cond.fieldLink RJ0 1053 "jdk/internal/util/Preconditions" "SIOOBE_FORMATTER" "Ljava/util/function/BiFunction;", Cond.methodLink RJ0 1062 yJ3_checkFromToIndex_8c36e, Cond.static yJ3_checkFromToIndex_8c36e, Cond.initialized RJ3, Cond.code yJ3_checkFromToIndex_8c36e cJ3_checkFromToIndex_8c36e 4 (some .int), Cond.methodLink RJ2 244 yJ2_indexOfCharUnsafe_4cfef, Cond.static yJ2_indexOfCharUnsafe_4cfef, Cond.code yJ2_indexOfCharUnsafe_4cfef cJ2_indexOfCharUnsafe_4cfef 5 (some .int), Cond.methodLink RJ2 71 yJ2_getChar_3b067, Cond.static yJ2_getChar_3b067, Cond.code yJ2_getChar_3b067 cJ2_getChar_3b067 2 (some .char), Cond.fieldLink RJ2 44 "java/lang/StringUTF16" "$assertionsDisabled" "Z", Cond.fieldLink RJ2 59 "java/lang/StringUTF16" "HI_BYTE_SHIFT" "I", Cond.fieldLink RJ2 63 "java/lang/StringUTF16" "LO_BYTE_SHIFT" "I", Cond.methodLink RJ2 232 yJ2_indexOfSupplementary_4cfef, Cond.static yJ2_indexOfSupplementary_4cfef, Cond.code yJ2_indexOfSupplementary_4cfef cJ2_indexOfSupplementary_4cfef 7 (some .int), Cond.methodLink RJ2 164 yJ11_isValidCodePoint_9a6ad, Cond.static yJ11_isValidCodePoint_9a6ad, Cond.initialized RJ11, Cond.code yJ11_isValidCodePoint_9a6ad cJ11_isValidCodePoint_9a6ad 2 (some .boolean), Cond.methodLink RJ2 157 yJ11_highSurrogate_5068e, Cond.static yJ11_highSurrogate_5068e, Cond.code yJ11_highSurrogate_5068e cJ11_highSurrogate_5068e 1 (some .char)]
def wsX6_readOneOf_r5 : List Cond := [Cond.constant RJ11 110 (55232), Cond.methodLink RJ2 161 yJ11_lowSurrogate_5068e, Cond.static yJ11_lowSurrogate_5068e, Cond.code yJ11_lowSurrogate_5068e cJ11_lowSurrogate_5068e 1 (some .char), Cond.constant RJ11 76 (56320), Cond.methodLink RX6 38 yX6_failAt, Cond.instanceMethod yX6_failAt, Cond.selects RX6 yX6_failAt yX6_failAt, Cond.code yX6_failAt cX6_failAt 2 none, Cond.fieldLink RX6 15 "PlusCodes$Text" "fault" "I"]
def wsX6_readOneOf : List Cond := .code yX6_readOneOf cX6_readOneOf 2 (some .int) :: ((wsX6_readOneOf_r1 ++ (wsX6_readOneOf_r2 ++ (wsX6_readOneOf_r3 ++ (wsX6_readOneOf_r4 ++ wsX6_readOneOf_r5)))) ++ wsX60)
def wsX6_readNumber : List Cond := .code yX6_readNumber cX6_readNumber 9 (some .int) :: ([.fieldLink RX6 22 "PlusCodes$Text" "next" "I", .fieldLink RX6 19 "PlusCodes$Text" "size" "I", .fieldLink RX6 9 "PlusCodes$Text" "bytes" "[B", .methodLink RX6 25 yX6_skipBlanks, .instanceMethod yX6_skipBlanks, .selects RX6 yX6_skipBlanks yX6_skipBlanks, .initialized RX6, .code yX6_skipBlanks cX6_skipBlanks 1 none, .methodLink RX6 38 yX6_failAt, .instanceMethod yX6_failAt, .selects RX6 yX6_failAt yX6_failAt, .code yX6_failAt cX6_failAt 2 none, .fieldLink RX6 15 "PlusCodes$Text" "fault" "I"] ++ wsX60)
def wsX6_hexValue : List Cond := .code yX6_hexValue cX6_hexValue 1 (some .int) :: ([])
def wsX6_readHex : List Cond := .code yX6_readHex cX6_readHex 5 (some .int) :: ([.fieldLink RX6 22 "PlusCodes$Text" "next" "I", .fieldLink RX6 19 "PlusCodes$Text" "size" "I", .fieldLink RX6 9 "PlusCodes$Text" "bytes" "[B", .methodLink RX6 25 yX6_skipBlanks, .instanceMethod yX6_skipBlanks, .selects RX6 yX6_skipBlanks yX6_skipBlanks, .initialized RX6, .code yX6_skipBlanks cX6_skipBlanks 1 none, .methodLink RX6 42 yX6_hexValue, .static yX6_hexValue, .code yX6_hexValue cX6_hexValue 1 (some .int), .methodLink RX6 38 yX6_failAt, .instanceMethod yX6_failAt, .selects RX6 yX6_failAt yX6_failAt, .code yX6_failAt cX6_failAt 2 none, .fieldLink RX6 15 "PlusCodes$Text" "fault" "I"] ++ wsX60)
def wsX7_init : List Cond := .code yX7_init cX7_init 1 none :: ([.methodLink RX7 3 objectInit, .instanceMethod objectInit, .code objectInit ⟨#[0xb1]⟩ 1 none, .arrayClass .int, .fieldLink RX7 9 "PlusCodes$Walk" "steps" "[I"] ++ wsX70)
def wsX7_prepare : List Cond := .code yX7_prepare cX7_prepare 5 none :: ([.fieldLink RX7 56 "PlusCodes$Code" "count" "I", .methodLink RX7 61 Lib.Math.min.name, .static Lib.Math.min.name, .initialized "java/lang/Math", .code Lib.Math.min.name Lib.Math.min.code 2 (some .int), .fieldLink RX7 9 "PlusCodes$Walk" "steps" "[I", .fieldLink RX7 23 "PlusCodes$Walk" "messages" "I", .fieldLink RX7 30 "PlusCodes$Walk" "word" "I", .methodLink RX7 64 yX1_wordOfTerm, .instanceMethod yX1_wordOfTerm, .selects RX1 yX1_wordOfTerm yX1_wordOfTerm, .initialized RX1, .code yX1_wordOfTerm cX1_wordOfTerm 2 (some .int), .fieldLink RX1 9 "PlusCodes$Code" "terms" "[I", .methodLink RX1 43 yX1_summed, .instanceMethod yX1_summed, .selects RX1 yX1_summed yX1_summed, .code yX1_summed cX1_summed 4 (some .int), .fieldLink RX1 19 "PlusCodes$Code" "length" "I"] ++ wsX10 ++ wsX70)
def wsX7_stepTo : List Cond := .code yX7_stepTo cX7_stepTo 3 none :: ([.fieldLink RX7 30 "PlusCodes$Walk" "word" "I", .fieldLink RX7 9 "PlusCodes$Walk" "steps" "[I", .methodLink RX7 67 yJ6_numberOfTrailingZeros_0f7a4, .static yJ6_numberOfTrailingZeros_0f7a4, .initialized RJ6, .code yJ6_numberOfTrailingZeros_0f7a4 cJ6_numberOfTrailingZeros_0f7a4 2 (some .int), .constant RJ6 264 (65536)] ++ wsX70)
def wsX7_seek_r1 : List Cond := [Cond.fieldLink RX7 19 "PlusCodes$Walk" "least" "I", Cond.fieldLink RX7 23 "PlusCodes$Walk" "messages" "I", Cond.fieldLink RX7 30 "PlusCodes$Walk" "word" "I", Cond.fieldLink RX7 39 "PlusCodes$Walk" "asNear" "I", Cond.fieldLink RX7 42 "PlusCodes$Walk" "found" "I", Cond.methodLink RX7 15 yX7_prepare, Cond.instanceMethod yX7_prepare, Cond.selects RX7 yX7_prepare yX7_prepare, Cond.initialized RX7, Cond.code yX7_prepare cX7_prepare 5 none, Cond.fieldLink RX7 56 "PlusCodes$Code" "count" "I", Cond.methodLink RX7 61 Lib.Math.min.name, Cond.static Lib.Math.min.name, Cond.initialized "java/lang/Math", Cond.code Lib.Math.min.name Lib.Math.min.code 2 (some .int), Cond.fieldLink RX7 9 "PlusCodes$Walk" "steps" "[I", Cond.methodLink RX7 64 yX1_wordOfTerm, Cond.instanceMethod yX1_wordOfTerm, Cond.selects RX1 yX1_wordOfTerm yX1_wordOfTerm, Cond.initialized RX1, Cond.code yX1_wordOfTerm cX1_wordOfTerm 2 (some .int), Cond.fieldLink RX1 9 "PlusCodes$Code" "terms" "[I", Cond.methodLink RX1 43 yX1_summed, Cond.instanceMethod yX1_summed]
def wsX7_seek_r2 : List Cond := [Cond.selects RX1 yX1_summed yX1_summed, Cond.code yX1_summed cX1_summed 4 (some .int), Cond.fieldLink RX1 19 "PlusCodes$Code" "length" "I", Cond.methodLink RX7 26 yX7_stepTo, Cond.instanceMethod yX7_stepTo, Cond.selects RX7 yX7_stepTo yX7_stepTo, Cond.code yX7_stepTo cX7_stepTo 3 none, Cond.methodLink RX7 67 yJ6_numberOfTrailingZeros_0f7a4, Cond.static yJ6_numberOfTrailingZeros_0f7a4, Cond.initialized RJ6, Cond.code yJ6_numberOfTrailingZeros_0f7a4 cJ6_numberOfTrailingZeros_0f7a4 2 (some .int), Cond.constant RJ6 264 (65536), Cond.methodLink RX7 33 yJ6_bitCount_0f7a4, Cond.static yJ6_bitCount_0f7a4, Cond.code yJ6_bitCount_0f7a4 cJ6_bitCount_0f7a4 1 (some .int), Cond.constant RJ6 265 (1431655765), Cond.constant RJ6 266 (858993459), Cond.constant RJ6 267 (252645135)]
def wsX7_seek : List Cond := .code yX7_seek cX7_seek 5 none :: ((wsX7_seek_r1 ++ wsX7_seek_r2) ++ wsX70 ++ wsX10)
def wsX7_howManyWeigh_r1 : List Cond := [Cond.fieldLink RX7 23 "PlusCodes$Walk" "messages" "I", Cond.fieldLink RX7 30 "PlusCodes$Walk" "word" "I", Cond.methodLink RX7 15 yX7_prepare, Cond.instanceMethod yX7_prepare, Cond.selects RX7 yX7_prepare yX7_prepare, Cond.initialized RX7, Cond.code yX7_prepare cX7_prepare 5 none, Cond.fieldLink RX7 56 "PlusCodes$Code" "count" "I", Cond.methodLink RX7 61 Lib.Math.min.name, Cond.static Lib.Math.min.name, Cond.initialized "java/lang/Math", Cond.code Lib.Math.min.name Lib.Math.min.code 2 (some .int), Cond.fieldLink RX7 9 "PlusCodes$Walk" "steps" "[I", Cond.methodLink RX7 64 yX1_wordOfTerm, Cond.instanceMethod yX1_wordOfTerm, Cond.selects RX1 yX1_wordOfTerm yX1_wordOfTerm, Cond.initialized RX1, Cond.code yX1_wordOfTerm cX1_wordOfTerm 2 (some .int), Cond.fieldLink RX1 9 "PlusCodes$Code" "terms" "[I", Cond.methodLink RX1 43 yX1_summed, Cond.instanceMethod yX1_summed, Cond.selects RX1 yX1_summed yX1_summed, Cond.code yX1_summed cX1_summed 4 (some .int), Cond.fieldLink RX1 19 "PlusCodes$Code" "length" "I"]
def wsX7_howManyWeigh_r2 : List Cond := [Cond.methodLink RX7 26 yX7_stepTo, Cond.instanceMethod yX7_stepTo, Cond.selects RX7 yX7_stepTo yX7_stepTo, Cond.code yX7_stepTo cX7_stepTo 3 none, Cond.methodLink RX7 67 yJ6_numberOfTrailingZeros_0f7a4, Cond.static yJ6_numberOfTrailingZeros_0f7a4, Cond.initialized RJ6, Cond.code yJ6_numberOfTrailingZeros_0f7a4 cJ6_numberOfTrailingZeros_0f7a4 2 (some .int), Cond.constant RJ6 264 (65536), Cond.methodLink RX7 33 yJ6_bitCount_0f7a4, Cond.static yJ6_bitCount_0f7a4, Cond.code yJ6_bitCount_0f7a4 cJ6_bitCount_0f7a4 1 (some .int), Cond.constant RJ6 265 (1431655765), Cond.constant RJ6 266 (858993459), Cond.constant RJ6 267 (252645135)]
def wsX7_howManyWeigh : List Cond := .code yX7_howManyWeigh cX7_howManyWeigh 5 (some .int) :: ((wsX7_howManyWeigh_r1 ++ wsX7_howManyWeigh_r2) ++ wsX70 ++ wsX10)
def wsX7_greatest_r1 : List Cond := [Cond.fieldLink RX7 23 "PlusCodes$Walk" "messages" "I", Cond.fieldLink RX7 30 "PlusCodes$Walk" "word" "I", Cond.methodLink RX7 50 Lib.Math.max.name, Cond.static Lib.Math.max.name, Cond.initialized "java/lang/Math", Cond.code Lib.Math.max.name Lib.Math.max.code 2 (some .int), Cond.methodLink RX7 15 yX7_prepare, Cond.instanceMethod yX7_prepare, Cond.selects RX7 yX7_prepare yX7_prepare, Cond.initialized RX7, Cond.code yX7_prepare cX7_prepare 5 none, Cond.fieldLink RX7 56 "PlusCodes$Code" "count" "I", Cond.methodLink RX7 61 Lib.Math.min.name, Cond.static Lib.Math.min.name, Cond.code Lib.Math.min.name Lib.Math.min.code 2 (some .int), Cond.fieldLink RX7 9 "PlusCodes$Walk" "steps" "[I", Cond.methodLink RX7 64 yX1_wordOfTerm, Cond.instanceMethod yX1_wordOfTerm, Cond.selects RX1 yX1_wordOfTerm yX1_wordOfTerm, Cond.initialized RX1, Cond.code yX1_wordOfTerm cX1_wordOfTerm 2 (some .int), Cond.fieldLink RX1 9 "PlusCodes$Code" "terms" "[I", Cond.methodLink RX1 43 yX1_summed, Cond.instanceMethod yX1_summed]
def wsX7_greatest_r2 : List Cond := [Cond.selects RX1 yX1_summed yX1_summed, Cond.code yX1_summed cX1_summed 4 (some .int), Cond.fieldLink RX1 19 "PlusCodes$Code" "length" "I", Cond.methodLink RX7 45 yX3_sumFor, Cond.instanceMethod yX3_sumFor, Cond.selects RX3 yX3_sumFor yX3_sumFor, Cond.initialized RX3, Cond.code yX3_sumFor cX3_sumFor 2 (some .int), Cond.fieldLink RX3 9 "PlusCodes$Merits" "sums" "[I", Cond.methodLink RX7 26 yX7_stepTo, Cond.instanceMethod yX7_stepTo, Cond.selects RX7 yX7_stepTo yX7_stepTo, Cond.code yX7_stepTo cX7_stepTo 3 none, Cond.methodLink RX7 67 yJ6_numberOfTrailingZeros_0f7a4, Cond.static yJ6_numberOfTrailingZeros_0f7a4, Cond.initialized RJ6, Cond.code yJ6_numberOfTrailingZeros_0f7a4 cJ6_numberOfTrailingZeros_0f7a4 2 (some .int), Cond.constant RJ6 264 (65536)]
def wsX7_greatest : List Cond := .code yX7_greatest cX7_greatest 5 (some .int) :: ((wsX7_greatest_r1 ++ wsX7_greatest_r2) ++ wsX70 ++ wsX10 ++ wsX30)
def wsX8_init_r1 : List Cond := [Cond.methodLink RX8 1 objectInit, Cond.instanceMethod objectInit, Cond.code objectInit ⟨#[0xb1]⟩ 1 none, Cond.classLink RX8 7 RX5, Cond.instantiable RX5 3, Cond.initialized RX5, Cond.fieldLink RX8 10 "PlusCodes" "live" "LPlusCodes$State;", Cond.fieldLink RX8 16 "PlusCodes" "before" "LPlusCodes$State;", Cond.classLink RX8 19 RX4, Cond.instantiable RX4 3, Cond.initialized RX4, Cond.fieldLink RX8 22 "PlusCodes" "past" "LPlusCodes$Past;", Cond.classLink RX8 26 RX6, Cond.instantiable RX6 4, Cond.initialized RX6, Cond.fieldLink RX8 29 "PlusCodes" "text" "LPlusCodes$Text;", Cond.classLink RX8 33 RX0, Cond.instantiable RX0 5, Cond.initialized RX0, Cond.fieldLink RX8 36 "PlusCodes" "ballot" "LPlusCodes$Ballot;", Cond.classLink RX8 40 RX2, Cond.instantiable RX2 1, Cond.initialized RX2, Cond.fieldLink RX8 43 "PlusCodes" "halver" "LPlusCodes$Halver;"]
def wsX8_init_r2 : List Cond := [Cond.classLink RX8 47 RX3, Cond.instantiable RX3 1, Cond.initialized RX3, Cond.fieldLink RX8 50 "PlusCodes" "merits" "LPlusCodes$Merits;", Cond.classLink RX8 54 RX7, Cond.instantiable RX7 6, Cond.initialized RX7, Cond.fieldLink RX8 57 "PlusCodes" "walk" "LPlusCodes$Walk;", Cond.instanceMethod yX5_init, Cond.code yX5_init cX5_init 1 none, Cond.methodLink RX5 3 objectInit, Cond.classLink RX5 9 RX1, Cond.instantiable RX1 5, Cond.initialized RX1, Cond.fieldLink RX5 12 "PlusCodes$State" "code" "LPlusCodes$Code;", Cond.arrayClass .int, Cond.fieldLink RX5 18 "PlusCodes$State" "soft" "[I", Cond.instanceMethod yX1_init, Cond.code yX1_init cX1_init 1 none, Cond.methodLink RX1 3 objectInit, Cond.fieldLink RX1 9 "PlusCodes$Code" "terms" "[I", Cond.methodLink RX8 21 yX4_init, Cond.instanceMethod yX4_init, Cond.code yX4_init cX4_init 2 none]
def wsX8_init_r3 : List Cond := [Cond.methodLink RX4 3 objectInit, Cond.classLink RX4 9 RX5, Cond.fieldLink RX4 11 "PlusCodes$Past" "ring" "[LPlusCodes$State;", Cond.instanceMethod yX6_init, Cond.code yX6_init cX6_init 1 none, Cond.methodLink RX6 3 objectInit, Cond.arrayClass .byte, Cond.fieldLink RX6 9 "PlusCodes$Text" "bytes" "[B", Cond.fieldLink RX6 15 "PlusCodes$Text" "fault" "I", Cond.instanceMethod yX0_init, Cond.code yX0_init cX0_init 1 none, Cond.methodLink RX0 3 objectInit, Cond.instanceMethod yX2_init, Cond.code yX2_init cX2_init 1 none, Cond.methodLink RX2 3 objectInit, Cond.classLink RX2 9 "[[I", Cond.fieldLink RX2 11 "PlusCodes$Halver" "rows" "[[I", Cond.instanceMethod yX3_init, Cond.code yX3_init cX3_init 1 none, Cond.methodLink RX3 1 objectInit, Cond.fieldLink RX3 9 "PlusCodes$Merits" "sums" "[I", Cond.instanceMethod yX7_init, Cond.code yX7_init cX7_init 1 none, Cond.methodLink RX7 3 objectInit]
def wsX8_init_r4 : List Cond := [Cond.fieldLink RX7 9 "PlusCodes$Walk" "steps" "[I", Cond.methodLink RX8 61 yX5_start, Cond.instanceMethod yX5_start, Cond.selects RX5 yX5_start yX5_start, Cond.code yX5_start cX5_start 3 none, Cond.fieldLink RX5 26 "PlusCodes$State" "word" "I", Cond.methodLink RX5 22 yX1_become, Cond.instanceMethod yX1_become, Cond.selects RX1 yX1_become yX1_become, Cond.code yX1_become cX1_become 7 none, Cond.fieldLink RX1 15 "PlusCodes$Code" "order" "I", Cond.fieldLink RX1 19 "PlusCodes$Code" "length" "I", Cond.fieldLink RX1 22 "PlusCodes$Code" "places" "I", Cond.fieldLink RX1 25 "PlusCodes$Code" "count" "I", Cond.methodLink RX1 31 yJ6_bitCount_0f7a4, Cond.static yJ6_bitCount_0f7a4, Cond.initialized RJ6, Cond.code yJ6_bitCount_0f7a4 cJ6_bitCount_0f7a4 1 (some .int), Cond.constant RJ6 265 (1431655765), Cond.constant RJ6 266 (858993459), Cond.constant RJ6 267 (252645135), Cond.methodLink RX5 30 yJ7_fill_53178, Cond.static yJ7_fill_53178, Cond.initialized RJ7]
def wsX8_init_r5 : List Cond := [Cond.code yJ7_fill_53178 cJ7_fill_53178 4 none]
def wsX8_init : List Cond := .code yX8_init cX8_init 1 none :: ((wsX8_init_r1 ++ (wsX8_init_r2 ++ (wsX8_init_r3 ++ (wsX8_init_r4 ++ wsX8_init_r5)))) ++ wsX50 ++ wsX80 ++ wsX40 ++ wsX60 ++ wsX00 ++ wsX20 ++ wsX30 ++ wsX70 ++ wsX10)
def wsX8_refuseBad : List Cond := .code yX8_refuseBad cX8_refuseBad 2 (some .int) :: ([.fieldLink RX8 244 "PlusCodes" "badTimes" "I"] ++ wsX80)
def wsX8_code_r1 : List Cond := [Cond.fieldLink RX8 22 "PlusCodes" "past" "LPlusCodes$Past;", Cond.fieldLink RX8 10 "PlusCodes" "live" "LPlusCodes$State;", Cond.fieldLink RX8 73 "PlusCodes$State" "code" "LPlusCodes$Code;", Cond.fieldLink RX8 77 "PlusCodes$Code" "count" "I", Cond.methodLink RX8 65 yX8_refuseBad, Cond.instanceMethod yX8_refuseBad, Cond.selects RX8 yX8_refuseBad yX8_refuseBad, Cond.initialized RX8, Cond.code yX8_refuseBad cX8_refuseBad 2 (some .int), Cond.fieldLink RX8 244 "PlusCodes" "badTimes" "I", Cond.methodLink RX8 69 yX4_keep, Cond.instanceMethod yX4_keep, Cond.selects RX4 yX4_keep yX4_keep, Cond.initialized RX4, Cond.code yX4_keep cX4_keep 2 none, Cond.fieldLink RX4 11 "PlusCodes$Past" "ring" "[LPlusCodes$State;", Cond.fieldLink RX4 18 "PlusCodes$Past" "next" "I", Cond.fieldLink RX4 26 "PlusCodes$Past" "count" "I", Cond.methodLink RX4 29 Lib.Math.min.name, Cond.static Lib.Math.min.name, Cond.initialized "java/lang/Math", Cond.code Lib.Math.min.name Lib.Math.min.code 2 (some .int), Cond.methodLink RX4 22 yX5_copy, Cond.instanceMethod yX5_copy]
def wsX8_code_r2 : List Cond := [Cond.selects RX5 yX5_copy yX5_copy, Cond.initialized RX5, Cond.code yX5_copy cX5_copy 2 none, Cond.fieldLink RX5 12 "PlusCodes$State" "code" "LPlusCodes$Code;", Cond.fieldLink RX5 36 "PlusCodes$Code" "order" "I", Cond.fieldLink RX5 39 "PlusCodes$Code" "length" "I", Cond.fieldLink RX5 26 "PlusCodes$State" "word" "I", Cond.fieldLink RX5 18 "PlusCodes$State" "soft" "[I", Cond.methodLink RX5 42 arraycopyName, Cond.native arraycopyName, Cond.static arraycopyName, Cond.initialized "java/lang/System", Cond.methodLink RX5 22 yX1_become, Cond.instanceMethod yX1_become, Cond.selects RX1 yX1_become yX1_become, Cond.initialized RX1, Cond.code yX1_become cX1_become 7 none, Cond.fieldLink RX1 15 "PlusCodes$Code" "order" "I", Cond.fieldLink RX1 19 "PlusCodes$Code" "length" "I", Cond.fieldLink RX1 22 "PlusCodes$Code" "places" "I", Cond.fieldLink RX1 25 "PlusCodes$Code" "count" "I", Cond.fieldLink RX1 9 "PlusCodes$Code" "terms" "[I", Cond.methodLink RX1 31 yJ6_bitCount_0f7a4, Cond.static yJ6_bitCount_0f7a4]
def wsX8_code_r3 : List Cond := [Cond.initialized RJ6, Cond.code yJ6_bitCount_0f7a4 cJ6_bitCount_0f7a4 1 (some .int), Cond.constant RJ6 265 (1431655765), Cond.constant RJ6 266 (858993459), Cond.constant RJ6 267 (252645135), Cond.methodLink RX8 61 yX5_start, Cond.instanceMethod yX5_start, Cond.selects RX5 yX5_start yX5_start, Cond.code yX5_start cX5_start 3 none, Cond.methodLink RX5 30 yJ7_fill_53178, Cond.static yJ7_fill_53178, Cond.initialized RJ7, Cond.code yJ7_fill_53178 cJ7_fill_53178 4 none]
def wsX8_code : List Cond := .code yX8_code cX8_code 3 (some .int) :: ((wsX8_code_r1 ++ (wsX8_code_r2 ++ wsX8_code_r3)) ++ wsX80 ++ wsX50 ++ wsX10 ++ wsX40)
def wsX8_of : List Cond := .code yX8_of cX8_of 3 (some .int) :: ([.fieldLink RX8 10 "PlusCodes" "live" "LPlusCodes$State;", .fieldLink RX8 73 "PlusCodes$State" "code" "LPlusCodes$Code;", .fieldLink RX8 83 "PlusCodes$Code" "order" "I", .fieldLink RX8 86 "PlusCodes$Code" "length" "I", .fieldLink RX8 77 "PlusCodes$Code" "count" "I", .fieldLink RX8 93 "PlusCodes$Code" "places" "I", .methodLink RX8 89 yX1_distance, .instanceMethod yX1_distance, .selects RX1 yX1_distance yX1_distance, .initialized RX1, .code yX1_distance cX1_distance 1 (some .int), .fieldLink RX1 19 "PlusCodes$Code" "length" "I", .fieldLink RX1 15 "PlusCodes$Code" "order" "I", .methodLink RX8 65 yX8_refuseBad, .instanceMethod yX8_refuseBad, .selects RX8 yX8_refuseBad yX8_refuseBad, .initialized RX8, .code yX8_refuseBad cX8_refuseBad 2 (some .int), .fieldLink RX8 244 "PlusCodes" "badTimes" "I"] ++ wsX80 ++ wsX50 ++ wsX10)
def wsX8_term : List Cond := .code yX8_term cX8_term 2 (some .int) :: ([.fieldLink RX8 10 "PlusCodes" "live" "LPlusCodes$State;", .fieldLink RX8 73 "PlusCodes$State" "code" "LPlusCodes$Code;", .fieldLink RX8 77 "PlusCodes$Code" "count" "I", .fieldLink RX8 96 "PlusCodes$Code" "terms" "[I", .methodLink RX8 65 yX8_refuseBad, .instanceMethod yX8_refuseBad, .selects RX8 yX8_refuseBad yX8_refuseBad, .initialized RX8, .code yX8_refuseBad cX8_refuseBad 2 (some .int), .fieldLink RX8 244 "PlusCodes" "badTimes" "I"] ++ wsX80 ++ wsX50 ++ wsX10)
def wsX8_word_r1 : List Cond := [Cond.fieldLink RX8 10 "PlusCodes" "live" "LPlusCodes$State;", Cond.fieldLink RX8 73 "PlusCodes$State" "code" "LPlusCodes$Code;", Cond.fieldLink RX8 22 "PlusCodes" "past" "LPlusCodes$Past;", Cond.fieldLink RX8 103 "PlusCodes$State" "word" "I", Cond.methodLink RX8 100 yX1_allPlaces, Cond.instanceMethod yX1_allPlaces, Cond.selects RX1 yX1_allPlaces yX1_allPlaces, Cond.initialized RX1, Cond.code yX1_allPlaces cX1_allPlaces 1 (some .int), Cond.fieldLink RX1 22 "PlusCodes$Code" "places" "I", Cond.static yX8_lowest, Cond.initialized RX8, Cond.code yX8_lowest cX8_lowest 1 (some .int), Cond.methodLink RX8 65 yX8_refuseBad, Cond.instanceMethod yX8_refuseBad, Cond.selects RX8 yX8_refuseBad yX8_refuseBad, Cond.code yX8_refuseBad cX8_refuseBad 2 (some .int), Cond.fieldLink RX8 244 "PlusCodes" "badTimes" "I", Cond.methodLink RX8 69 yX4_keep, Cond.instanceMethod yX4_keep, Cond.selects RX4 yX4_keep yX4_keep, Cond.initialized RX4, Cond.code yX4_keep cX4_keep 2 none, Cond.fieldLink RX4 11 "PlusCodes$Past" "ring" "[LPlusCodes$State;"]
def wsX8_word_r2 : List Cond := [Cond.fieldLink RX4 18 "PlusCodes$Past" "next" "I", Cond.fieldLink RX4 26 "PlusCodes$Past" "count" "I", Cond.methodLink RX4 29 Lib.Math.min.name, Cond.static Lib.Math.min.name, Cond.initialized "java/lang/Math", Cond.code Lib.Math.min.name Lib.Math.min.code 2 (some .int), Cond.methodLink RX4 22 yX5_copy, Cond.instanceMethod yX5_copy, Cond.selects RX5 yX5_copy yX5_copy, Cond.initialized RX5, Cond.code yX5_copy cX5_copy 2 none, Cond.fieldLink RX5 12 "PlusCodes$State" "code" "LPlusCodes$Code;", Cond.fieldLink RX5 36 "PlusCodes$Code" "order" "I", Cond.fieldLink RX5 39 "PlusCodes$Code" "length" "I", Cond.fieldLink RX5 26 "PlusCodes$State" "word" "I", Cond.fieldLink RX5 18 "PlusCodes$State" "soft" "[I", Cond.methodLink RX5 42 arraycopyName, Cond.native arraycopyName, Cond.static arraycopyName, Cond.initialized "java/lang/System", Cond.methodLink RX5 22 yX1_become, Cond.instanceMethod yX1_become, Cond.selects RX1 yX1_become yX1_become, Cond.code yX1_become cX1_become 7 none]
def wsX8_word_r3 : List Cond := [Cond.fieldLink RX1 15 "PlusCodes$Code" "order" "I", Cond.fieldLink RX1 19 "PlusCodes$Code" "length" "I", Cond.fieldLink RX1 25 "PlusCodes$Code" "count" "I", Cond.fieldLink RX1 9 "PlusCodes$Code" "terms" "[I", Cond.methodLink RX1 31 yJ6_bitCount_0f7a4, Cond.static yJ6_bitCount_0f7a4, Cond.initialized RJ6, Cond.code yJ6_bitCount_0f7a4 cJ6_bitCount_0f7a4 1 (some .int), Cond.constant RJ6 265 (1431655765), Cond.constant RJ6 266 (858993459), Cond.constant RJ6 267 (252645135)]
def wsX8_word : List Cond := .code yX8_word cX8_word 2 (some .int) :: ((wsX8_word_r1 ++ (wsX8_word_r2 ++ wsX8_word_r3)) ++ wsX80 ++ wsX50 ++ wsX10 ++ wsX40)
def wsX8_weight : List Cond := .code yX8_weight cX8_weight 1 (some .int) :: ([.fieldLink RX8 10 "PlusCodes" "live" "LPlusCodes$State;", .fieldLink RX8 103 "PlusCodes$State" "word" "I", .methodLink RX8 127 yJ6_bitCount_0f7a4, .static yJ6_bitCount_0f7a4, .initialized RJ6, .code yJ6_bitCount_0f7a4 cJ6_bitCount_0f7a4 1 (some .int), .constant RJ6 265 (1431655765), .constant RJ6 266 (858993459), .constant RJ6 267 (252645135)] ++ wsX80 ++ wsX50)
def wsX8_encode_r1 : List Cond := [Cond.fieldLink RX8 10 "PlusCodes" "live" "LPlusCodes$State;", Cond.fieldLink RX8 73 "PlusCodes$State" "code" "LPlusCodes$Code;", Cond.fieldLink RX8 22 "PlusCodes" "past" "LPlusCodes$Past;", Cond.fieldLink RX8 103 "PlusCodes$State" "word" "I", Cond.methodLink RX8 106 yX1_allTerms, Cond.instanceMethod yX1_allTerms, Cond.selects RX1 yX1_allTerms yX1_allTerms, Cond.initialized RX1, Cond.code yX1_allTerms cX1_allTerms 1 (some .int), Cond.fieldLink RX1 25 "PlusCodes$Code" "count" "I", Cond.static yX8_lowest, Cond.initialized RX8, Cond.code yX8_lowest cX8_lowest 1 (some .int), Cond.methodLink RX8 65 yX8_refuseBad, Cond.instanceMethod yX8_refuseBad, Cond.selects RX8 yX8_refuseBad yX8_refuseBad, Cond.code yX8_refuseBad cX8_refuseBad 2 (some .int), Cond.fieldLink RX8 244 "PlusCodes" "badTimes" "I", Cond.methodLink RX8 69 yX4_keep, Cond.instanceMethod yX4_keep, Cond.selects RX4 yX4_keep yX4_keep, Cond.initialized RX4, Cond.code yX4_keep cX4_keep 2 none, Cond.fieldLink RX4 11 "PlusCodes$Past" "ring" "[LPlusCodes$State;"]
def wsX8_encode_r2 : List Cond := [Cond.fieldLink RX4 18 "PlusCodes$Past" "next" "I", Cond.fieldLink RX4 26 "PlusCodes$Past" "count" "I", Cond.methodLink RX4 29 Lib.Math.min.name, Cond.static Lib.Math.min.name, Cond.initialized "java/lang/Math", Cond.code Lib.Math.min.name Lib.Math.min.code 2 (some .int), Cond.methodLink RX4 22 yX5_copy, Cond.instanceMethod yX5_copy, Cond.selects RX5 yX5_copy yX5_copy, Cond.initialized RX5, Cond.code yX5_copy cX5_copy 2 none, Cond.fieldLink RX5 12 "PlusCodes$State" "code" "LPlusCodes$Code;", Cond.fieldLink RX5 36 "PlusCodes$Code" "order" "I", Cond.fieldLink RX5 39 "PlusCodes$Code" "length" "I", Cond.fieldLink RX5 26 "PlusCodes$State" "word" "I", Cond.fieldLink RX5 18 "PlusCodes$State" "soft" "[I", Cond.methodLink RX5 42 arraycopyName, Cond.native arraycopyName, Cond.static arraycopyName, Cond.initialized "java/lang/System", Cond.methodLink RX5 22 yX1_become, Cond.instanceMethod yX1_become, Cond.selects RX1 yX1_become yX1_become, Cond.code yX1_become cX1_become 7 none]
def wsX8_encode_r3 : List Cond := [Cond.fieldLink RX1 15 "PlusCodes$Code" "order" "I", Cond.fieldLink RX1 19 "PlusCodes$Code" "length" "I", Cond.fieldLink RX1 22 "PlusCodes$Code" "places" "I", Cond.fieldLink RX1 9 "PlusCodes$Code" "terms" "[I", Cond.methodLink RX1 31 yJ6_bitCount_0f7a4, Cond.static yJ6_bitCount_0f7a4, Cond.initialized RJ6, Cond.code yJ6_bitCount_0f7a4 cJ6_bitCount_0f7a4 1 (some .int), Cond.constant RJ6 265 (1431655765), Cond.constant RJ6 266 (858993459), Cond.constant RJ6 267 (252645135), Cond.methodLink RX8 109 yX1_wordOf, Cond.instanceMethod yX1_wordOf, Cond.selects RX1 yX1_wordOf yX1_wordOf, Cond.code yX1_wordOf cX1_wordOf 4 (some .int), Cond.methodLink RX1 43 yX1_summed, Cond.instanceMethod yX1_summed, Cond.selects RX1 yX1_summed yX1_summed, Cond.code yX1_summed cX1_summed 4 (some .int), Cond.methodLink RX8 112 yX8_weight, Cond.instanceMethod yX8_weight, Cond.selects RX8 yX8_weight yX8_weight, Cond.code yX8_weight cX8_weight 1 (some .int), Cond.methodLink RX8 127 yJ6_bitCount_0f7a4]
def wsX8_encode : List Cond := .code yX8_encode cX8_encode 2 (some .int) :: ((wsX8_encode_r1 ++ (wsX8_encode_r2 ++ wsX8_encode_r3)) ++ wsX80 ++ wsX50 ++ wsX10 ++ wsX40)
def wsX8_flip_r1 : List Cond := [Cond.fieldLink RX8 10 "PlusCodes" "live" "LPlusCodes$State;", Cond.fieldLink RX8 73 "PlusCodes$State" "code" "LPlusCodes$Code;", Cond.fieldLink RX8 22 "PlusCodes" "past" "LPlusCodes$Past;", Cond.fieldLink RX8 103 "PlusCodes$State" "word" "I", Cond.methodLink RX8 115 yX1_hasPlace, Cond.instanceMethod yX1_hasPlace, Cond.selects RX1 yX1_hasPlace yX1_hasPlace, Cond.initialized RX1, Cond.code yX1_hasPlace cX1_hasPlace 2 (some .boolean), Cond.fieldLink RX1 22 "PlusCodes$Code" "places" "I", Cond.methodLink RX8 65 yX8_refuseBad, Cond.instanceMethod yX8_refuseBad, Cond.selects RX8 yX8_refuseBad yX8_refuseBad, Cond.initialized RX8, Cond.code yX8_refuseBad cX8_refuseBad 2 (some .int), Cond.fieldLink RX8 244 "PlusCodes" "badTimes" "I", Cond.methodLink RX8 69 yX4_keep, Cond.instanceMethod yX4_keep, Cond.selects RX4 yX4_keep yX4_keep, Cond.initialized RX4, Cond.code yX4_keep cX4_keep 2 none, Cond.fieldLink RX4 11 "PlusCodes$Past" "ring" "[LPlusCodes$State;", Cond.fieldLink RX4 18 "PlusCodes$Past" "next" "I", Cond.fieldLink RX4 26 "PlusCodes$Past" "count" "I"]
def wsX8_flip_r2 : List Cond := [Cond.methodLink RX4 29 Lib.Math.min.name, Cond.static Lib.Math.min.name, Cond.initialized "java/lang/Math", Cond.code Lib.Math.min.name Lib.Math.min.code 2 (some .int), Cond.methodLink RX4 22 yX5_copy, Cond.instanceMethod yX5_copy, Cond.selects RX5 yX5_copy yX5_copy, Cond.initialized RX5, Cond.code yX5_copy cX5_copy 2 none, Cond.fieldLink RX5 12 "PlusCodes$State" "code" "LPlusCodes$Code;", Cond.fieldLink RX5 36 "PlusCodes$Code" "order" "I", Cond.fieldLink RX5 39 "PlusCodes$Code" "length" "I", Cond.fieldLink RX5 26 "PlusCodes$State" "word" "I", Cond.fieldLink RX5 18 "PlusCodes$State" "soft" "[I", Cond.methodLink RX5 42 arraycopyName, Cond.native arraycopyName, Cond.static arraycopyName, Cond.initialized "java/lang/System", Cond.methodLink RX5 22 yX1_become, Cond.instanceMethod yX1_become, Cond.selects RX1 yX1_become yX1_become, Cond.code yX1_become cX1_become 7 none, Cond.fieldLink RX1 15 "PlusCodes$Code" "order" "I", Cond.fieldLink RX1 19 "PlusCodes$Code" "length" "I"]
def wsX8_flip_r3 : List Cond := [Cond.fieldLink RX1 25 "PlusCodes$Code" "count" "I", Cond.fieldLink RX1 9 "PlusCodes$Code" "terms" "[I", Cond.methodLink RX1 31 yJ6_bitCount_0f7a4, Cond.static yJ6_bitCount_0f7a4, Cond.initialized RJ6, Cond.code yJ6_bitCount_0f7a4 cJ6_bitCount_0f7a4 1 (some .int), Cond.constant RJ6 265 (1431655765), Cond.constant RJ6 266 (858993459), Cond.constant RJ6 267 (252645135), Cond.methodLink RX8 119 yX5_bit, Cond.instanceMethod yX5_bit, Cond.selects RX5 yX5_bit yX5_bit, Cond.code yX5_bit cX5_bit 2 (some .int)]
def wsX8_flip : List Cond := .code yX8_flip cX8_flip 2 (some .int) :: ((wsX8_flip_r1 ++ (wsX8_flip_r2 ++ wsX8_flip_r3)) ++ wsX80 ++ wsX50 ++ wsX10 ++ wsX40)
def wsX8_drawPlaces : List Cond := .code yX8_drawPlaces cX8_drawPlaces 10 (some .int) :: ([.fieldLink RX8 10 "PlusCodes" "live" "LPlusCodes$State;", .fieldLink RX8 73 "PlusCodes$State" "code" "LPlusCodes$Code;", .fieldLink RX8 93 "PlusCodes$Code" "places" "I", .constantLong RX8 260 (1103515245), .constantLong RX8 262 (12345), .constantLong RX8 264 (2147483647)] ++ wsX80 ++ wsX50 ++ wsX10)
def wsX8_hurt_r1 : List Cond := [Cond.constant RX8 122 (999999), Cond.fieldLink RX8 10 "PlusCodes" "live" "LPlusCodes$State;", Cond.fieldLink RX8 73 "PlusCodes$State" "code" "LPlusCodes$Code;", Cond.fieldLink RX8 93 "PlusCodes$Code" "places" "I", Cond.fieldLink RX8 22 "PlusCodes" "past" "LPlusCodes$Past;", Cond.fieldLink RX8 103 "PlusCodes$State" "word" "I", Cond.methodLink RX8 65 yX8_refuseBad, Cond.instanceMethod yX8_refuseBad, Cond.selects RX8 yX8_refuseBad yX8_refuseBad, Cond.initialized RX8, Cond.code yX8_refuseBad cX8_refuseBad 2 (some .int), Cond.fieldLink RX8 244 "PlusCodes" "badTimes" "I", Cond.methodLink RX8 69 yX4_keep, Cond.instanceMethod yX4_keep, Cond.selects RX4 yX4_keep yX4_keep, Cond.initialized RX4, Cond.code yX4_keep cX4_keep 2 none, Cond.fieldLink RX4 11 "PlusCodes$Past" "ring" "[LPlusCodes$State;", Cond.fieldLink RX4 18 "PlusCodes$Past" "next" "I", Cond.fieldLink RX4 26 "PlusCodes$Past" "count" "I", Cond.methodLink RX4 29 Lib.Math.min.name, Cond.static Lib.Math.min.name, Cond.initialized "java/lang/Math", Cond.code Lib.Math.min.name Lib.Math.min.code 2 (some .int)]
def wsX8_hurt_r2 : List Cond := [Cond.methodLink RX4 22 yX5_copy, Cond.instanceMethod yX5_copy, Cond.selects RX5 yX5_copy yX5_copy, Cond.initialized RX5, Cond.code yX5_copy cX5_copy 2 none, Cond.fieldLink RX5 12 "PlusCodes$State" "code" "LPlusCodes$Code;", Cond.fieldLink RX5 36 "PlusCodes$Code" "order" "I", Cond.fieldLink RX5 39 "PlusCodes$Code" "length" "I", Cond.fieldLink RX5 26 "PlusCodes$State" "word" "I", Cond.fieldLink RX5 18 "PlusCodes$State" "soft" "[I", Cond.methodLink RX5 42 arraycopyName, Cond.native arraycopyName, Cond.static arraycopyName, Cond.initialized "java/lang/System", Cond.methodLink RX5 22 yX1_become, Cond.instanceMethod yX1_become, Cond.selects RX1 yX1_become yX1_become, Cond.initialized RX1, Cond.code yX1_become cX1_become 7 none, Cond.fieldLink RX1 15 "PlusCodes$Code" "order" "I", Cond.fieldLink RX1 19 "PlusCodes$Code" "length" "I", Cond.fieldLink RX1 22 "PlusCodes$Code" "places" "I", Cond.fieldLink RX1 25 "PlusCodes$Code" "count" "I", Cond.fieldLink RX1 9 "PlusCodes$Code" "terms" "[I"]
def wsX8_hurt_r3 : List Cond := [Cond.methodLink RX1 31 yJ6_bitCount_0f7a4, Cond.static yJ6_bitCount_0f7a4, Cond.initialized RJ6, Cond.code yJ6_bitCount_0f7a4 cJ6_bitCount_0f7a4 1 (some .int), Cond.constant RJ6 265 (1431655765), Cond.constant RJ6 266 (858993459), Cond.constant RJ6 267 (252645135), Cond.methodLink RX8 123 yX8_drawPlaces, Cond.instanceMethod yX8_drawPlaces, Cond.selects RX8 yX8_drawPlaces yX8_drawPlaces, Cond.code yX8_drawPlaces cX8_drawPlaces 10 (some .int), Cond.constantLong RX8 260 (1103515245), Cond.constantLong RX8 262 (12345), Cond.constantLong RX8 264 (2147483647), Cond.methodLink RX8 112 yX8_weight, Cond.instanceMethod yX8_weight, Cond.selects RX8 yX8_weight yX8_weight, Cond.code yX8_weight cX8_weight 1 (some .int), Cond.methodLink RX8 127 yJ6_bitCount_0f7a4]
def wsX8_hurt : List Cond := .code yX8_hurt cX8_hurt 3 (some .int) :: ((wsX8_hurt_r1 ++ (wsX8_hurt_r2 ++ wsX8_hurt_r3)) ++ wsX80 ++ wsX50 ++ wsX10 ++ wsX40)
def wsX8_now : List Cond := .code yX8_now cX8_now 1 (some .int) :: ([.fieldLink RX8 10 "PlusCodes" "live" "LPlusCodes$State;", .fieldLink RX8 103 "PlusCodes$State" "word" "I"] ++ wsX80 ++ wsX50)
def wsX8_at : List Cond := .code yX8_at cX8_at 2 (some .int) :: ([.fieldLink RX8 10 "PlusCodes" "live" "LPlusCodes$State;", .fieldLink RX8 73 "PlusCodes$State" "code" "LPlusCodes$Code;", .methodLink RX8 115 yX1_hasPlace, .instanceMethod yX1_hasPlace, .selects RX1 yX1_hasPlace yX1_hasPlace, .initialized RX1, .code yX1_hasPlace cX1_hasPlace 2 (some .boolean), .fieldLink RX1 22 "PlusCodes$Code" "places" "I", .methodLink RX8 119 yX5_bit, .instanceMethod yX5_bit, .selects RX5 yX5_bit yX5_bit, .initialized RX5, .code yX5_bit cX5_bit 2 (some .int), .fieldLink RX5 26 "PlusCodes$State" "word" "I", .methodLink RX8 65 yX8_refuseBad, .instanceMethod yX8_refuseBad, .selects RX8 yX8_refuseBad yX8_refuseBad, .initialized RX8, .code yX8_refuseBad cX8_refuseBad 2 (some .int), .fieldLink RX8 244 "PlusCodes" "badTimes" "I"] ++ wsX80 ++ wsX50 ++ wsX10)
def wsX8_isWord : List Cond := .code yX8_isWord cX8_isWord 2 (some .int) :: ([.fieldLink RX8 10 "PlusCodes" "live" "LPlusCodes$State;", .fieldLink RX8 73 "PlusCodes$State" "code" "LPlusCodes$Code;", .fieldLink RX8 103 "PlusCodes$State" "word" "I", .methodLink RX8 132 yX1_summed, .instanceMethod yX1_summed, .selects RX1 yX1_summed yX1_summed, .initialized RX1, .code yX1_summed cX1_summed 4 (some .int), .fieldLink RX1 19 "PlusCodes$Code" "length" "I", .methodLink RX8 135 yX1_termPlaces, .instanceMethod yX1_termPlaces, .selects RX1 yX1_termPlaces yX1_termPlaces, .code yX1_termPlaces cX1_termPlaces 3 (some .int), .fieldLink RX1 25 "PlusCodes$Code" "count" "I", .fieldLink RX1 9 "PlusCodes$Code" "terms" "[I"] ++ wsX80 ++ wsX50 ++ wsX10)
def wsX8_coefficient : List Cond := .code yX8_coefficient cX8_coefficient 2 (some .int) :: ([.fieldLink RX8 10 "PlusCodes" "live" "LPlusCodes$State;", .fieldLink RX8 73 "PlusCodes$State" "code" "LPlusCodes$Code;", .fieldLink RX8 103 "PlusCodes$State" "word" "I", .methodLink RX8 115 yX1_hasPlace, .instanceMethod yX1_hasPlace, .selects RX1 yX1_hasPlace yX1_hasPlace, .initialized RX1, .code yX1_hasPlace cX1_hasPlace 2 (some .boolean), .fieldLink RX1 22 "PlusCodes$Code" "places" "I", .methodLink RX8 65 yX8_refuseBad, .instanceMethod yX8_refuseBad, .selects RX8 yX8_refuseBad yX8_refuseBad, .initialized RX8, .code yX8_refuseBad cX8_refuseBad 2 (some .int), .fieldLink RX8 244 "PlusCodes" "badTimes" "I", .methodLink RX8 132 yX1_summed, .instanceMethod yX1_summed, .selects RX1 yX1_summed yX1_summed, .code yX1_summed cX1_summed 4 (some .int), .fieldLink RX1 19 "PlusCodes$Code" "length" "I", .methodLink RX8 138 yX1_setAt, .instanceMethod yX1_setAt, .selects RX1 yX1_setAt yX1_setAt, .code yX1_setAt cX1_setAt 7 (some .int)] ++ wsX80 ++ wsX50 ++ wsX10)
def wsX8_votes_r1 : List Cond := [Cond.fieldLink RX8 36 "PlusCodes" "ballot" "LPlusCodes$Ballot;", Cond.fieldLink RX8 10 "PlusCodes" "live" "LPlusCodes$State;", Cond.fieldLink RX8 73 "PlusCodes$State" "code" "LPlusCodes$Code;", Cond.fieldLink RX8 103 "PlusCodes$State" "word" "I", Cond.fieldLink RX8 145 "PlusCodes$Ballot" "message" "I", Cond.methodLink RX8 141 yX0_hold, Cond.instanceMethod yX0_hold, Cond.selects RX0 yX0_hold yX0_hold, Cond.initialized RX0, Cond.code yX0_hold cX0_hold 4 none, Cond.fieldLink RX0 9 "PlusCodes$Ballot" "message" "I", Cond.fieldLink RX0 15 "PlusCodes$Ballot" "mended" "I", Cond.fieldLink RX0 18 "PlusCodes$Ballot" "ties" "I", Cond.fieldLink RX0 21 "PlusCodes$Ballot" "closest" "I", Cond.fieldLink RX0 24 "PlusCodes$Ballot" "margin" "I", Cond.fieldLink RX0 27 "PlusCodes$Code" "order" "I", Cond.methodLink RX0 32 yX0_wordVoted, Cond.instanceMethod yX0_wordVoted, Cond.selects RX0 yX0_wordVoted yX0_wordVoted, Cond.code yX0_wordVoted cX0_wordVoted 7 (some .int), Cond.fieldLink RX0 36 "PlusCodes$Code" "count" "I", Cond.fieldLink RX0 39 "PlusCodes$Code" "terms" "[I", Cond.methodLink RX0 43 yJ6_bitCount_0f7a4, Cond.static yJ6_bitCount_0f7a4]
def wsX8_votes_r2 : List Cond := [Cond.initialized RJ6, Cond.code yJ6_bitCount_0f7a4 cJ6_bitCount_0f7a4 1 (some .int), Cond.constant RJ6 265 (1431655765), Cond.constant RJ6 266 (858993459), Cond.constant RJ6 267 (252645135), Cond.methodLink RX0 49 yX0_isCarried, Cond.instanceMethod yX0_isCarried, Cond.selects RX0 yX0_isCarried yX0_isCarried, Cond.code yX0_isCarried cX0_isCarried 7 (some .boolean), Cond.fieldLink RX0 59 "PlusCodes$Code" "places" "I", Cond.methodLink RX0 66 Lib.Math.abs.name, Cond.static Lib.Math.abs.name, Cond.initialized "java/lang/Math", Cond.code Lib.Math.abs.name Lib.Math.abs.code 1 (some .int), Cond.static yX8_partsOf, Cond.initialized RX8, Cond.code yX8_partsOf cX8_partsOf 3 (some .int), Cond.static yX8_isOdd, Cond.code yX8_isOdd cX8_isOdd 1 (some .boolean), Cond.methodLink RX8 127 yJ6_bitCount_0f7a4, Cond.methodLink RX0 53 yX1_summed, Cond.instanceMethod yX1_summed, Cond.selects RX1 yX1_summed yX1_summed, Cond.initialized RX1]
def wsX8_votes_r3 : List Cond := [Cond.code yX1_summed cX1_summed 4 (some .int), Cond.fieldLink RX1 19 "PlusCodes$Code" "length" "I"]
def wsX8_votes : List Cond := .code yX8_votes cX8_votes 1 (some .int) :: ((wsX8_votes_r1 ++ (wsX8_votes_r2 ++ wsX8_votes_r3)) ++ wsX80 ++ wsX50 ++ wsX00 ++ wsX10)
def wsX8_vote_r1 : List Cond := [Cond.fieldLink RX8 36 "PlusCodes" "ballot" "LPlusCodes$Ballot;", Cond.fieldLink RX8 10 "PlusCodes" "live" "LPlusCodes$State;", Cond.fieldLink RX8 73 "PlusCodes$State" "code" "LPlusCodes$Code;", Cond.fieldLink RX8 103 "PlusCodes$State" "word" "I", Cond.fieldLink RX8 148 "PlusCodes$Ballot" "mended" "I", Cond.fieldLink RX8 151 "PlusCodes$Ballot" "ties" "I", Cond.fieldLink RX8 154 "PlusCodes$Ballot" "closest" "I", Cond.fieldLink RX8 157 "PlusCodes$Ballot" "margin" "I", Cond.methodLink RX8 141 yX0_hold, Cond.instanceMethod yX0_hold, Cond.selects RX0 yX0_hold yX0_hold, Cond.initialized RX0, Cond.code yX0_hold cX0_hold 4 none, Cond.fieldLink RX0 9 "PlusCodes$Ballot" "message" "I", Cond.fieldLink RX0 15 "PlusCodes$Ballot" "mended" "I", Cond.fieldLink RX0 18 "PlusCodes$Ballot" "ties" "I", Cond.fieldLink RX0 21 "PlusCodes$Ballot" "closest" "I", Cond.fieldLink RX0 24 "PlusCodes$Ballot" "margin" "I", Cond.fieldLink RX0 27 "PlusCodes$Code" "order" "I", Cond.methodLink RX0 32 yX0_wordVoted, Cond.instanceMethod yX0_wordVoted, Cond.selects RX0 yX0_wordVoted yX0_wordVoted, Cond.code yX0_wordVoted cX0_wordVoted 7 (some .int), Cond.fieldLink RX0 36 "PlusCodes$Code" "count" "I"]
def wsX8_vote_r2 : List Cond := [Cond.fieldLink RX0 39 "PlusCodes$Code" "terms" "[I", Cond.methodLink RX0 43 yJ6_bitCount_0f7a4, Cond.static yJ6_bitCount_0f7a4, Cond.initialized RJ6, Cond.code yJ6_bitCount_0f7a4 cJ6_bitCount_0f7a4 1 (some .int), Cond.constant RJ6 265 (1431655765), Cond.constant RJ6 266 (858993459), Cond.constant RJ6 267 (252645135), Cond.methodLink RX0 49 yX0_isCarried, Cond.instanceMethod yX0_isCarried, Cond.selects RX0 yX0_isCarried yX0_isCarried, Cond.code yX0_isCarried cX0_isCarried 7 (some .boolean), Cond.fieldLink RX0 59 "PlusCodes$Code" "places" "I", Cond.methodLink RX0 66 Lib.Math.abs.name, Cond.static Lib.Math.abs.name, Cond.initialized "java/lang/Math", Cond.code Lib.Math.abs.name Lib.Math.abs.code 1 (some .int), Cond.static yX8_partsOf, Cond.initialized RX8, Cond.code yX8_partsOf cX8_partsOf 3 (some .int), Cond.static yX8_isOdd, Cond.code yX8_isOdd cX8_isOdd 1 (some .boolean), Cond.methodLink RX8 127 yJ6_bitCount_0f7a4, Cond.methodLink RX0 53 yX1_summed]
def wsX8_vote_r3 : List Cond := [Cond.instanceMethod yX1_summed, Cond.selects RX1 yX1_summed yX1_summed, Cond.initialized RX1, Cond.code yX1_summed cX1_summed 4 (some .int), Cond.fieldLink RX1 19 "PlusCodes$Code" "length" "I", Cond.methodLink RX8 65 yX8_refuseBad, Cond.instanceMethod yX8_refuseBad, Cond.selects RX8 yX8_refuseBad yX8_refuseBad, Cond.code yX8_refuseBad cX8_refuseBad 2 (some .int), Cond.fieldLink RX8 244 "PlusCodes" "badTimes" "I"]
def wsX8_vote : List Cond := .code yX8_vote cX8_vote 2 (some .int) :: ((wsX8_vote_r1 ++ (wsX8_vote_r2 ++ wsX8_vote_r3)) ++ wsX80 ++ wsX50 ++ wsX00 ++ wsX10)
def wsX8_mends_r1 : List Cond := [Cond.fieldLink RX8 22 "PlusCodes" "past" "LPlusCodes$Past;", Cond.fieldLink RX8 10 "PlusCodes" "live" "LPlusCodes$State;", Cond.fieldLink RX8 36 "PlusCodes" "ballot" "LPlusCodes$Ballot;", Cond.fieldLink RX8 73 "PlusCodes$State" "code" "LPlusCodes$Code;", Cond.fieldLink RX8 103 "PlusCodes$State" "word" "I", Cond.fieldLink RX8 148 "PlusCodes$Ballot" "mended" "I", Cond.methodLink RX8 69 yX4_keep, Cond.instanceMethod yX4_keep, Cond.selects RX4 yX4_keep yX4_keep, Cond.initialized RX4, Cond.code yX4_keep cX4_keep 2 none, Cond.fieldLink RX4 11 "PlusCodes$Past" "ring" "[LPlusCodes$State;", Cond.fieldLink RX4 18 "PlusCodes$Past" "next" "I", Cond.fieldLink RX4 26 "PlusCodes$Past" "count" "I", Cond.methodLink RX4 29 Lib.Math.min.name, Cond.static Lib.Math.min.name, Cond.initialized "java/lang/Math", Cond.code Lib.Math.min.name Lib.Math.min.code 2 (some .int), Cond.methodLink RX4 22 yX5_copy, Cond.instanceMethod yX5_copy, Cond.selects RX5 yX5_copy yX5_copy, Cond.initialized RX5, Cond.code yX5_copy cX5_copy 2 none, Cond.fieldLink RX5 12 "PlusCodes$State" "code" "LPlusCodes$Code;"]
def wsX8_mends_r2 : List Cond := [Cond.fieldLink RX5 36 "PlusCodes$Code" "order" "I", Cond.fieldLink RX5 39 "PlusCodes$Code" "length" "I", Cond.fieldLink RX5 26 "PlusCodes$State" "word" "I", Cond.fieldLink RX5 18 "PlusCodes$State" "soft" "[I", Cond.methodLink RX5 42 arraycopyName, Cond.native arraycopyName, Cond.static arraycopyName, Cond.initialized "java/lang/System", Cond.methodLink RX5 22 yX1_become, Cond.instanceMethod yX1_become, Cond.selects RX1 yX1_become yX1_become, Cond.initialized RX1, Cond.code yX1_become cX1_become 7 none, Cond.fieldLink RX1 15 "PlusCodes$Code" "order" "I", Cond.fieldLink RX1 19 "PlusCodes$Code" "length" "I", Cond.fieldLink RX1 22 "PlusCodes$Code" "places" "I", Cond.fieldLink RX1 25 "PlusCodes$Code" "count" "I", Cond.fieldLink RX1 9 "PlusCodes$Code" "terms" "[I", Cond.methodLink RX1 31 yJ6_bitCount_0f7a4, Cond.static yJ6_bitCount_0f7a4, Cond.initialized RJ6, Cond.code yJ6_bitCount_0f7a4 cJ6_bitCount_0f7a4 1 (some .int), Cond.constant RJ6 265 (1431655765), Cond.constant RJ6 266 (858993459)]
def wsX8_mends_r3 : List Cond := [Cond.constant RJ6 267 (252645135), Cond.methodLink RX8 141 yX0_hold, Cond.instanceMethod yX0_hold, Cond.selects RX0 yX0_hold yX0_hold, Cond.initialized RX0, Cond.code yX0_hold cX0_hold 4 none, Cond.fieldLink RX0 9 "PlusCodes$Ballot" "message" "I", Cond.fieldLink RX0 15 "PlusCodes$Ballot" "mended" "I", Cond.fieldLink RX0 18 "PlusCodes$Ballot" "ties" "I", Cond.fieldLink RX0 21 "PlusCodes$Ballot" "closest" "I", Cond.fieldLink RX0 24 "PlusCodes$Ballot" "margin" "I", Cond.fieldLink RX0 27 "PlusCodes$Code" "order" "I", Cond.methodLink RX0 32 yX0_wordVoted, Cond.instanceMethod yX0_wordVoted, Cond.selects RX0 yX0_wordVoted yX0_wordVoted, Cond.code yX0_wordVoted cX0_wordVoted 7 (some .int), Cond.fieldLink RX0 36 "PlusCodes$Code" "count" "I", Cond.fieldLink RX0 39 "PlusCodes$Code" "terms" "[I", Cond.methodLink RX0 43 yJ6_bitCount_0f7a4, Cond.methodLink RX0 49 yX0_isCarried, Cond.instanceMethod yX0_isCarried, Cond.selects RX0 yX0_isCarried yX0_isCarried, Cond.code yX0_isCarried cX0_isCarried 7 (some .boolean), Cond.fieldLink RX0 59 "PlusCodes$Code" "places" "I"]
def wsX8_mends_r4 : List Cond := [Cond.methodLink RX0 66 Lib.Math.abs.name, Cond.static Lib.Math.abs.name, Cond.code Lib.Math.abs.name Lib.Math.abs.code 1 (some .int), Cond.static yX8_partsOf, Cond.initialized RX8, Cond.code yX8_partsOf cX8_partsOf 3 (some .int), Cond.static yX8_isOdd, Cond.code yX8_isOdd cX8_isOdd 1 (some .boolean), Cond.methodLink RX8 127 yJ6_bitCount_0f7a4, Cond.methodLink RX0 53 yX1_summed, Cond.instanceMethod yX1_summed, Cond.selects RX1 yX1_summed yX1_summed, Cond.code yX1_summed cX1_summed 4 (some .int)]
def wsX8_mends : List Cond := .code yX8_mends cX8_mends 2 (some .int) :: ((wsX8_mends_r1 ++ (wsX8_mends_r2 ++ (wsX8_mends_r3 ++ wsX8_mends_r4))) ++ wsX80 ++ wsX50 ++ wsX00 ++ wsX40 ++ wsX10)
def wsX8_signsFor : List Cond := .code yX8_signsFor cX8_signsFor 5 (some .int) :: ([.fieldLink RX8 10 "PlusCodes" "live" "LPlusCodes$State;", .fieldLink RX8 73 "PlusCodes$State" "code" "LPlusCodes$Code;", .fieldLink RX8 93 "PlusCodes$Code" "places" "I", .methodLink RX8 215 yX8_isOdd, .static yX8_isOdd, .initialized RX8, .code yX8_isOdd cX8_isOdd 1 (some .boolean), .methodLink RX8 127 yJ6_bitCount_0f7a4, .static yJ6_bitCount_0f7a4, .initialized RJ6, .code yJ6_bitCount_0f7a4 cJ6_bitCount_0f7a4 1 (some .int), .constant RJ6 265 (1431655765), .constant RJ6 266 (858993459), .constant RJ6 267 (252645135), .methodLink RX8 119 yX5_bit, .instanceMethod yX5_bit, .selects RX5 yX5_bit yX5_bit, .initialized RX5, .code yX5_bit cX5_bit 2 (some .int), .fieldLink RX5 26 "PlusCodes$State" "word" "I"] ++ wsX80 ++ wsX50 ++ wsX10)
def wsX8_sign_r1 : List Cond := [Cond.fieldLink RX8 10 "PlusCodes" "live" "LPlusCodes$State;", Cond.fieldLink RX8 73 "PlusCodes$State" "code" "LPlusCodes$Code;", Cond.methodLink RX8 115 yX1_hasPlace, Cond.instanceMethod yX1_hasPlace, Cond.selects RX1 yX1_hasPlace yX1_hasPlace, Cond.initialized RX1, Cond.code yX1_hasPlace cX1_hasPlace 2 (some .boolean), Cond.fieldLink RX1 22 "PlusCodes$Code" "places" "I", Cond.methodLink RX8 160 yX8_signsFor, Cond.instanceMethod yX8_signsFor, Cond.selects RX8 yX8_signsFor yX8_signsFor, Cond.initialized RX8, Cond.code yX8_signsFor cX8_signsFor 5 (some .int), Cond.fieldLink RX8 93 "PlusCodes$Code" "places" "I", Cond.methodLink RX8 215 yX8_isOdd, Cond.static yX8_isOdd, Cond.code yX8_isOdd cX8_isOdd 1 (some .boolean), Cond.methodLink RX8 127 yJ6_bitCount_0f7a4, Cond.static yJ6_bitCount_0f7a4, Cond.initialized RJ6, Cond.code yJ6_bitCount_0f7a4 cJ6_bitCount_0f7a4 1 (some .int), Cond.constant RJ6 265 (1431655765), Cond.constant RJ6 266 (858993459), Cond.constant RJ6 267 (252645135)]
def wsX8_sign_r2 : List Cond := [Cond.methodLink RX8 119 yX5_bit, Cond.instanceMethod yX5_bit, Cond.selects RX5 yX5_bit yX5_bit, Cond.initialized RX5, Cond.code yX5_bit cX5_bit 2 (some .int), Cond.fieldLink RX5 26 "PlusCodes$State" "word" "I", Cond.methodLink RX8 65 yX8_refuseBad, Cond.instanceMethod yX8_refuseBad, Cond.selects RX8 yX8_refuseBad yX8_refuseBad, Cond.code yX8_refuseBad cX8_refuseBad 2 (some .int), Cond.fieldLink RX8 244 "PlusCodes" "badTimes" "I"]
def wsX8_sign : List Cond := .code yX8_sign cX8_sign 2 (some .int) :: ((wsX8_sign_r1 ++ wsX8_sign_r2) ++ wsX80 ++ wsX50 ++ wsX10)
def wsX8_best_r1 : List Cond := [Cond.fieldLink RX8 10 "PlusCodes" "live" "LPlusCodes$State;", Cond.fieldLink RX8 73 "PlusCodes$State" "code" "LPlusCodes$Code;", Cond.fieldLink RX8 93 "PlusCodes$Code" "places" "I", Cond.methodLink RX8 163 Lib.Math.abs.name, Cond.static Lib.Math.abs.name, Cond.initialized "java/lang/Math", Cond.code Lib.Math.abs.name Lib.Math.abs.code 1 (some .int), Cond.methodLink RX8 65 yX8_refuseBad, Cond.instanceMethod yX8_refuseBad, Cond.selects RX8 yX8_refuseBad yX8_refuseBad, Cond.initialized RX8, Cond.code yX8_refuseBad cX8_refuseBad 2 (some .int), Cond.fieldLink RX8 244 "PlusCodes" "badTimes" "I", Cond.methodLink RX8 160 yX8_signsFor, Cond.instanceMethod yX8_signsFor, Cond.selects RX8 yX8_signsFor yX8_signsFor, Cond.code yX8_signsFor cX8_signsFor 5 (some .int), Cond.methodLink RX8 215 yX8_isOdd, Cond.static yX8_isOdd, Cond.code yX8_isOdd cX8_isOdd 1 (some .boolean), Cond.methodLink RX8 127 yJ6_bitCount_0f7a4, Cond.static yJ6_bitCount_0f7a4, Cond.initialized RJ6, Cond.code yJ6_bitCount_0f7a4 cJ6_bitCount_0f7a4 1 (some .int)]
def wsX8_best_r2 : List Cond := [Cond.constant RJ6 265 (1431655765), Cond.constant RJ6 266 (858993459), Cond.constant RJ6 267 (252645135), Cond.methodLink RX8 119 yX5_bit, Cond.instanceMethod yX5_bit, Cond.selects RX5 yX5_bit yX5_bit, Cond.initialized RX5, Cond.code yX5_bit cX5_bit 2 (some .int), Cond.fieldLink RX5 26 "PlusCodes$State" "word" "I"]
def wsX8_best : List Cond := .code yX8_best cX8_best 7 (some .int) :: ((wsX8_best_r1 ++ wsX8_best_r2) ++ wsX80 ++ wsX50 ++ wsX10)
def wsX8_refuseNo : List Cond := .code yX8_refuseNo cX8_refuseNo 2 (some .int) :: ([.fieldLink RX8 247 "PlusCodes" "noTimes" "I"] ++ wsX80)
def wsX8_nearest_r1 : List Cond := [Cond.fieldLink RX8 10 "PlusCodes" "live" "LPlusCodes$State;", Cond.fieldLink RX8 73 "PlusCodes$State" "code" "LPlusCodes$Code;", Cond.fieldLink RX8 57 "PlusCodes" "walk" "LPlusCodes$Walk;", Cond.fieldLink RX8 103 "PlusCodes$State" "word" "I", Cond.fieldLink RX8 178 "PlusCodes$Walk" "least" "I", Cond.fieldLink RX8 181 "PlusCodes$Walk" "asNear" "I", Cond.methodLink RX8 65 yX8_refuseBad, Cond.instanceMethod yX8_refuseBad, Cond.selects RX8 yX8_refuseBad yX8_refuseBad, Cond.initialized RX8, Cond.code yX8_refuseBad cX8_refuseBad 2 (some .int), Cond.fieldLink RX8 244 "PlusCodes" "badTimes" "I", Cond.methodLink RX8 168 yX1_canBeWalked, Cond.instanceMethod yX1_canBeWalked, Cond.selects RX1 yX1_canBeWalked yX1_canBeWalked, Cond.initialized RX1, Cond.code yX1_canBeWalked cX1_canBeWalked 1 (some .boolean), Cond.fieldLink RX1 25 "PlusCodes$Code" "count" "I", Cond.methodLink RX8 172 yX8_refuseNo, Cond.instanceMethod yX8_refuseNo, Cond.selects RX8 yX8_refuseNo yX8_refuseNo, Cond.code yX8_refuseNo cX8_refuseNo 2 (some .int), Cond.fieldLink RX8 247 "PlusCodes" "noTimes" "I", Cond.methodLink RX8 175 yX7_seek]
def wsX8_nearest_r2 : List Cond := [Cond.instanceMethod yX7_seek, Cond.selects RX7 yX7_seek yX7_seek, Cond.initialized RX7, Cond.code yX7_seek cX7_seek 5 none, Cond.fieldLink RX7 19 "PlusCodes$Walk" "least" "I", Cond.fieldLink RX7 23 "PlusCodes$Walk" "messages" "I", Cond.fieldLink RX7 30 "PlusCodes$Walk" "word" "I", Cond.fieldLink RX7 39 "PlusCodes$Walk" "asNear" "I", Cond.fieldLink RX7 42 "PlusCodes$Walk" "found" "I", Cond.methodLink RX7 15 yX7_prepare, Cond.instanceMethod yX7_prepare, Cond.selects RX7 yX7_prepare yX7_prepare, Cond.code yX7_prepare cX7_prepare 5 none, Cond.fieldLink RX7 56 "PlusCodes$Code" "count" "I", Cond.methodLink RX7 61 Lib.Math.min.name, Cond.static Lib.Math.min.name, Cond.initialized "java/lang/Math", Cond.code Lib.Math.min.name Lib.Math.min.code 2 (some .int), Cond.fieldLink RX7 9 "PlusCodes$Walk" "steps" "[I", Cond.methodLink RX7 64 yX1_wordOfTerm, Cond.instanceMethod yX1_wordOfTerm, Cond.selects RX1 yX1_wordOfTerm yX1_wordOfTerm, Cond.code yX1_wordOfTerm cX1_wordOfTerm 2 (some .int), Cond.fieldLink RX1 9 "PlusCodes$Code" "terms" "[I"]
def wsX8_nearest_r3 : List Cond := [Cond.methodLink RX1 43 yX1_summed, Cond.instanceMethod yX1_summed, Cond.selects RX1 yX1_summed yX1_summed, Cond.code yX1_summed cX1_summed 4 (some .int), Cond.fieldLink RX1 19 "PlusCodes$Code" "length" "I", Cond.methodLink RX7 26 yX7_stepTo, Cond.instanceMethod yX7_stepTo, Cond.selects RX7 yX7_stepTo yX7_stepTo, Cond.code yX7_stepTo cX7_stepTo 3 none, Cond.methodLink RX7 67 yJ6_numberOfTrailingZeros_0f7a4, Cond.static yJ6_numberOfTrailingZeros_0f7a4, Cond.initialized RJ6, Cond.code yJ6_numberOfTrailingZeros_0f7a4 cJ6_numberOfTrailingZeros_0f7a4 2 (some .int), Cond.constant RJ6 264 (65536), Cond.methodLink RX7 33 yJ6_bitCount_0f7a4, Cond.static yJ6_bitCount_0f7a4, Cond.code yJ6_bitCount_0f7a4 cJ6_bitCount_0f7a4 1 (some .int), Cond.constant RJ6 265 (1431655765), Cond.constant RJ6 266 (858993459), Cond.constant RJ6 267 (252645135)]
def wsX8_nearest : List Cond := .code yX8_nearest cX8_nearest 2 (some .int) :: ((wsX8_nearest_r1 ++ (wsX8_nearest_r2 ++ wsX8_nearest_r3)) ++ wsX80 ++ wsX50 ++ wsX70 ++ wsX10)
def wsX8_near_r1 : List Cond := [Cond.fieldLink RX8 10 "PlusCodes" "live" "LPlusCodes$State;", Cond.fieldLink RX8 73 "PlusCodes$State" "code" "LPlusCodes$Code;", Cond.fieldLink RX8 57 "PlusCodes" "walk" "LPlusCodes$Walk;", Cond.fieldLink RX8 103 "PlusCodes$State" "word" "I", Cond.fieldLink RX8 184 "PlusCodes$Walk" "found" "I", Cond.methodLink RX8 168 yX1_canBeWalked, Cond.instanceMethod yX1_canBeWalked, Cond.selects RX1 yX1_canBeWalked yX1_canBeWalked, Cond.initialized RX1, Cond.code yX1_canBeWalked cX1_canBeWalked 1 (some .boolean), Cond.fieldLink RX1 25 "PlusCodes$Code" "count" "I", Cond.methodLink RX8 172 yX8_refuseNo, Cond.instanceMethod yX8_refuseNo, Cond.selects RX8 yX8_refuseNo yX8_refuseNo, Cond.initialized RX8, Cond.code yX8_refuseNo cX8_refuseNo 2 (some .int), Cond.fieldLink RX8 247 "PlusCodes" "noTimes" "I", Cond.methodLink RX8 175 yX7_seek, Cond.instanceMethod yX7_seek, Cond.selects RX7 yX7_seek yX7_seek, Cond.initialized RX7, Cond.code yX7_seek cX7_seek 5 none, Cond.fieldLink RX7 19 "PlusCodes$Walk" "least" "I", Cond.fieldLink RX7 23 "PlusCodes$Walk" "messages" "I"]
def wsX8_near_r2 : List Cond := [Cond.fieldLink RX7 30 "PlusCodes$Walk" "word" "I", Cond.fieldLink RX7 39 "PlusCodes$Walk" "asNear" "I", Cond.fieldLink RX7 42 "PlusCodes$Walk" "found" "I", Cond.methodLink RX7 15 yX7_prepare, Cond.instanceMethod yX7_prepare, Cond.selects RX7 yX7_prepare yX7_prepare, Cond.code yX7_prepare cX7_prepare 5 none, Cond.fieldLink RX7 56 "PlusCodes$Code" "count" "I", Cond.methodLink RX7 61 Lib.Math.min.name, Cond.static Lib.Math.min.name, Cond.initialized "java/lang/Math", Cond.code Lib.Math.min.name Lib.Math.min.code 2 (some .int), Cond.fieldLink RX7 9 "PlusCodes$Walk" "steps" "[I", Cond.methodLink RX7 64 yX1_wordOfTerm, Cond.instanceMethod yX1_wordOfTerm, Cond.selects RX1 yX1_wordOfTerm yX1_wordOfTerm, Cond.code yX1_wordOfTerm cX1_wordOfTerm 2 (some .int), Cond.fieldLink RX1 9 "PlusCodes$Code" "terms" "[I", Cond.methodLink RX1 43 yX1_summed, Cond.instanceMethod yX1_summed, Cond.selects RX1 yX1_summed yX1_summed, Cond.code yX1_summed cX1_summed 4 (some .int), Cond.fieldLink RX1 19 "PlusCodes$Code" "length" "I", Cond.methodLink RX7 26 yX7_stepTo]
def wsX8_near_r3 : List Cond := [Cond.instanceMethod yX7_stepTo, Cond.selects RX7 yX7_stepTo yX7_stepTo, Cond.code yX7_stepTo cX7_stepTo 3 none, Cond.methodLink RX7 67 yJ6_numberOfTrailingZeros_0f7a4, Cond.static yJ6_numberOfTrailingZeros_0f7a4, Cond.initialized RJ6, Cond.code yJ6_numberOfTrailingZeros_0f7a4 cJ6_numberOfTrailingZeros_0f7a4 2 (some .int), Cond.constant RJ6 264 (65536), Cond.methodLink RX7 33 yJ6_bitCount_0f7a4, Cond.static yJ6_bitCount_0f7a4, Cond.code yJ6_bitCount_0f7a4 cJ6_bitCount_0f7a4 1 (some .int), Cond.constant RJ6 265 (1431655765), Cond.constant RJ6 266 (858993459), Cond.constant RJ6 267 (252645135)]
def wsX8_near : List Cond := .code yX8_near cX8_near 1 (some .int) :: ((wsX8_near_r1 ++ (wsX8_near_r2 ++ wsX8_near_r3)) ++ wsX80 ++ wsX50 ++ wsX70 ++ wsX10)
def wsX8_soft_r1 : List Cond := [Cond.fieldLink RX8 10 "PlusCodes" "live" "LPlusCodes$State;", Cond.fieldLink RX8 73 "PlusCodes$State" "code" "LPlusCodes$Code;", Cond.fieldLink RX8 22 "PlusCodes" "past" "LPlusCodes$Past;", Cond.fieldLink RX8 187 "PlusCodes$State" "soft" "[I", Cond.methodLink RX8 115 yX1_hasPlace, Cond.instanceMethod yX1_hasPlace, Cond.selects RX1 yX1_hasPlace yX1_hasPlace, Cond.initialized RX1, Cond.code yX1_hasPlace cX1_hasPlace 2 (some .boolean), Cond.fieldLink RX1 22 "PlusCodes$Code" "places" "I", Cond.methodLink RX8 65 yX8_refuseBad, Cond.instanceMethod yX8_refuseBad, Cond.selects RX8 yX8_refuseBad yX8_refuseBad, Cond.initialized RX8, Cond.code yX8_refuseBad cX8_refuseBad 2 (some .int), Cond.fieldLink RX8 244 "PlusCodes" "badTimes" "I", Cond.methodLink RX8 69 yX4_keep, Cond.instanceMethod yX4_keep, Cond.selects RX4 yX4_keep yX4_keep, Cond.initialized RX4, Cond.code yX4_keep cX4_keep 2 none, Cond.fieldLink RX4 11 "PlusCodes$Past" "ring" "[LPlusCodes$State;", Cond.fieldLink RX4 18 "PlusCodes$Past" "next" "I", Cond.fieldLink RX4 26 "PlusCodes$Past" "count" "I"]
def wsX8_soft_r2 : List Cond := [Cond.methodLink RX4 29 Lib.Math.min.name, Cond.static Lib.Math.min.name, Cond.initialized "java/lang/Math", Cond.code Lib.Math.min.name Lib.Math.min.code 2 (some .int), Cond.methodLink RX4 22 yX5_copy, Cond.instanceMethod yX5_copy, Cond.selects RX5 yX5_copy yX5_copy, Cond.initialized RX5, Cond.code yX5_copy cX5_copy 2 none, Cond.fieldLink RX5 12 "PlusCodes$State" "code" "LPlusCodes$Code;", Cond.fieldLink RX5 36 "PlusCodes$Code" "order" "I", Cond.fieldLink RX5 39 "PlusCodes$Code" "length" "I", Cond.fieldLink RX5 26 "PlusCodes$State" "word" "I", Cond.fieldLink RX5 18 "PlusCodes$State" "soft" "[I", Cond.methodLink RX5 42 arraycopyName, Cond.native arraycopyName, Cond.static arraycopyName, Cond.initialized "java/lang/System", Cond.methodLink RX5 22 yX1_become, Cond.instanceMethod yX1_become, Cond.selects RX1 yX1_become yX1_become, Cond.code yX1_become cX1_become 7 none, Cond.fieldLink RX1 15 "PlusCodes$Code" "order" "I", Cond.fieldLink RX1 19 "PlusCodes$Code" "length" "I"]
def wsX8_soft_r3 : List Cond := [Cond.fieldLink RX1 25 "PlusCodes$Code" "count" "I", Cond.fieldLink RX1 9 "PlusCodes$Code" "terms" "[I", Cond.methodLink RX1 31 yJ6_bitCount_0f7a4, Cond.static yJ6_bitCount_0f7a4, Cond.initialized RJ6, Cond.code yJ6_bitCount_0f7a4 cJ6_bitCount_0f7a4 1 (some .int), Cond.constant RJ6 265 (1431655765), Cond.constant RJ6 266 (858993459), Cond.constant RJ6 267 (252645135)]
def wsX8_soft : List Cond := .code yX8_soft cX8_soft 4 (some .int) :: ((wsX8_soft_r1 ++ (wsX8_soft_r2 ++ wsX8_soft_r3)) ++ wsX80 ++ wsX50 ++ wsX10 ++ wsX40)
def wsX8_harden_r1 : List Cond := [Cond.fieldLink RX8 22 "PlusCodes" "past" "LPlusCodes$Past;", Cond.fieldLink RX8 10 "PlusCodes" "live" "LPlusCodes$State;", Cond.fieldLink RX8 73 "PlusCodes$State" "code" "LPlusCodes$Code;", Cond.fieldLink RX8 93 "PlusCodes$Code" "places" "I", Cond.fieldLink RX8 187 "PlusCodes$State" "soft" "[I", Cond.methodLink RX8 65 yX8_refuseBad, Cond.instanceMethod yX8_refuseBad, Cond.selects RX8 yX8_refuseBad yX8_refuseBad, Cond.initialized RX8, Cond.code yX8_refuseBad cX8_refuseBad 2 (some .int), Cond.fieldLink RX8 244 "PlusCodes" "badTimes" "I", Cond.methodLink RX8 69 yX4_keep, Cond.instanceMethod yX4_keep, Cond.selects RX4 yX4_keep yX4_keep, Cond.initialized RX4, Cond.code yX4_keep cX4_keep 2 none, Cond.fieldLink RX4 11 "PlusCodes$Past" "ring" "[LPlusCodes$State;", Cond.fieldLink RX4 18 "PlusCodes$Past" "next" "I", Cond.fieldLink RX4 26 "PlusCodes$Past" "count" "I", Cond.methodLink RX4 29 Lib.Math.min.name, Cond.static Lib.Math.min.name, Cond.initialized "java/lang/Math", Cond.code Lib.Math.min.name Lib.Math.min.code 2 (some .int), Cond.methodLink RX4 22 yX5_copy]
def wsX8_harden_r2 : List Cond := [Cond.instanceMethod yX5_copy, Cond.selects RX5 yX5_copy yX5_copy, Cond.initialized RX5, Cond.code yX5_copy cX5_copy 2 none, Cond.fieldLink RX5 12 "PlusCodes$State" "code" "LPlusCodes$Code;", Cond.fieldLink RX5 36 "PlusCodes$Code" "order" "I", Cond.fieldLink RX5 39 "PlusCodes$Code" "length" "I", Cond.fieldLink RX5 26 "PlusCodes$State" "word" "I", Cond.fieldLink RX5 18 "PlusCodes$State" "soft" "[I", Cond.methodLink RX5 42 arraycopyName, Cond.native arraycopyName, Cond.static arraycopyName, Cond.initialized "java/lang/System", Cond.methodLink RX5 22 yX1_become, Cond.instanceMethod yX1_become, Cond.selects RX1 yX1_become yX1_become, Cond.initialized RX1, Cond.code yX1_become cX1_become 7 none, Cond.fieldLink RX1 15 "PlusCodes$Code" "order" "I", Cond.fieldLink RX1 19 "PlusCodes$Code" "length" "I", Cond.fieldLink RX1 22 "PlusCodes$Code" "places" "I", Cond.fieldLink RX1 25 "PlusCodes$Code" "count" "I", Cond.fieldLink RX1 9 "PlusCodes$Code" "terms" "[I", Cond.methodLink RX1 31 yJ6_bitCount_0f7a4]
def wsX8_harden_r3 : List Cond := [Cond.static yJ6_bitCount_0f7a4, Cond.initialized RJ6, Cond.code yJ6_bitCount_0f7a4 cJ6_bitCount_0f7a4 1 (some .int), Cond.constant RJ6 265 (1431655765), Cond.constant RJ6 266 (858993459), Cond.constant RJ6 267 (252645135), Cond.methodLink RX8 119 yX5_bit, Cond.instanceMethod yX5_bit, Cond.selects RX5 yX5_bit yX5_bit, Cond.code yX5_bit cX5_bit 2 (some .int)]
def wsX8_harden : List Cond := .code yX8_harden cX8_harden 3 (some .int) :: ((wsX8_harden_r1 ++ (wsX8_harden_r2 ++ wsX8_harden_r3)) ++ wsX80 ++ wsX50 ++ wsX10 ++ wsX40)
def wsX8_halves_r1 : List Cond := [Cond.fieldLink RX8 43 "PlusCodes" "halver" "LPlusCodes$Halver;", Cond.fieldLink RX8 10 "PlusCodes" "live" "LPlusCodes$State;", Cond.fieldLink RX8 73 "PlusCodes$State" "code" "LPlusCodes$Code;", Cond.fieldLink RX8 187 "PlusCodes$State" "soft" "[I", Cond.methodLink RX8 190 yX2_solve, Cond.instanceMethod yX2_solve, Cond.selects RX2 yX2_solve yX2_solve, Cond.initialized RX2, Cond.code yX2_solve cX2_solve 3 (some .int), Cond.fieldLink RX2 11 "PlusCodes$Halver" "rows" "[[I", Cond.fieldLink RX2 16 "PlusCodes$Code" "length" "I", Cond.fieldLink RX2 22 "PlusCodes$Code" "places" "I", Cond.methodLink RX2 25 arraycopyName, Cond.native arraycopyName, Cond.static arraycopyName, Cond.initialized "java/lang/System", Cond.fieldLink RX2 31 "PlusCodes$Code" "order" "I", Cond.methodLink RX2 34 yX2_wordFor, Cond.instanceMethod yX2_wordFor, Cond.selects RX2 yX2_wordFor yX2_wordFor, Cond.code yX2_wordFor cX2_wordFor 5 (some .int), Cond.methodLink RX2 38 yX2_allAlike, Cond.instanceMethod yX2_allAlike, Cond.selects RX2 yX2_allAlike yX2_allAlike]
def wsX8_halves_r2 : List Cond := [Cond.code yX2_allAlike cX2_allAlike 5 (some .int), Cond.static yX8_lowest, Cond.initialized RX8, Cond.code yX8_lowest cX8_lowest 1 (some .int), Cond.methodLink RX2 42 yX2_eachAlone, Cond.instanceMethod yX2_eachAlone, Cond.selects RX2 yX2_eachAlone yX2_eachAlone, Cond.code yX2_eachAlone cX2_eachAlone 4 (some .int), Cond.methodLink RX2 45 yX2_putLesser, Cond.instanceMethod yX2_putLesser, Cond.selects RX2 yX2_putLesser yX2_putLesser, Cond.code yX2_putLesser cX2_putLesser 7 none, Cond.methodLink RX2 56 Lib.Math.abs.name, Cond.static Lib.Math.abs.name, Cond.initialized "java/lang/Math", Cond.code Lib.Math.abs.name Lib.Math.abs.code 1 (some .int), Cond.methodLink RX2 61 Lib.Math.min.name, Cond.static Lib.Math.min.name, Cond.code Lib.Math.min.name Lib.Math.min.code 2 (some .int), Cond.methodLink RX2 49 yX2_putTogether, Cond.instanceMethod yX2_putTogether, Cond.selects RX2 yX2_putTogether yX2_putTogether, Cond.code yX2_putTogether cX2_putTogether 6 none]
def wsX8_halves : List Cond := .code yX8_halves cX8_halves 1 (some .int) :: ((wsX8_halves_r1 ++ wsX8_halves_r2) ++ wsX80 ++ wsX50 ++ wsX20 ++ wsX10)
def wsX8_merit_r1 : List Cond := [Cond.fieldLink RX8 10 "PlusCodes" "live" "LPlusCodes$State;", Cond.fieldLink RX8 73 "PlusCodes$State" "code" "LPlusCodes$Code;", Cond.fieldLink RX8 50 "PlusCodes" "merits" "LPlusCodes$Merits;", Cond.fieldLink RX8 187 "PlusCodes$State" "soft" "[I", Cond.fieldLink RX8 57 "PlusCodes" "walk" "LPlusCodes$Walk;", Cond.fieldLink RX8 103 "PlusCodes$State" "word" "I", Cond.methodLink RX8 65 yX8_refuseBad, Cond.instanceMethod yX8_refuseBad, Cond.selects RX8 yX8_refuseBad yX8_refuseBad, Cond.initialized RX8, Cond.code yX8_refuseBad cX8_refuseBad 2 (some .int), Cond.fieldLink RX8 244 "PlusCodes" "badTimes" "I", Cond.methodLink RX8 168 yX1_canBeWalked, Cond.instanceMethod yX1_canBeWalked, Cond.selects RX1 yX1_canBeWalked yX1_canBeWalked, Cond.initialized RX1, Cond.code yX1_canBeWalked cX1_canBeWalked 1 (some .boolean), Cond.fieldLink RX1 25 "PlusCodes$Code" "count" "I", Cond.methodLink RX8 172 yX8_refuseNo, Cond.instanceMethod yX8_refuseNo, Cond.selects RX8 yX8_refuseNo yX8_refuseNo, Cond.code yX8_refuseNo cX8_refuseNo 2 (some .int), Cond.fieldLink RX8 247 "PlusCodes" "noTimes" "I", Cond.methodLink RX8 194 yX3_weigh]
def wsX8_merit_r2 : List Cond := [Cond.instanceMethod yX3_weigh, Cond.selects RX3 yX3_weigh yX3_weigh, Cond.initialized RX3, Cond.code yX3_weigh cX3_weigh 6 none, Cond.fieldLink RX3 9 "PlusCodes$Merits" "sums" "[I", Cond.methodLink RX3 13 yJ6_numberOfTrailingZeros_0f7a4, Cond.static yJ6_numberOfTrailingZeros_0f7a4, Cond.initialized RJ6, Cond.code yJ6_numberOfTrailingZeros_0f7a4 cJ6_numberOfTrailingZeros_0f7a4 2 (some .int), Cond.constant RJ6 264 (65536), Cond.methodLink RX8 198 yX7_greatest, Cond.instanceMethod yX7_greatest, Cond.selects RX7 yX7_greatest yX7_greatest, Cond.initialized RX7, Cond.code yX7_greatest cX7_greatest 5 (some .int), Cond.fieldLink RX7 23 "PlusCodes$Walk" "messages" "I", Cond.fieldLink RX7 30 "PlusCodes$Walk" "word" "I", Cond.methodLink RX7 50 Lib.Math.max.name, Cond.static Lib.Math.max.name, Cond.initialized "java/lang/Math", Cond.code Lib.Math.max.name Lib.Math.max.code 2 (some .int), Cond.methodLink RX7 15 yX7_prepare, Cond.instanceMethod yX7_prepare, Cond.selects RX7 yX7_prepare yX7_prepare]
def wsX8_merit_r3 : List Cond := [Cond.code yX7_prepare cX7_prepare 5 none, Cond.fieldLink RX7 56 "PlusCodes$Code" "count" "I", Cond.methodLink RX7 61 Lib.Math.min.name, Cond.static Lib.Math.min.name, Cond.code Lib.Math.min.name Lib.Math.min.code 2 (some .int), Cond.fieldLink RX7 9 "PlusCodes$Walk" "steps" "[I", Cond.methodLink RX7 64 yX1_wordOfTerm, Cond.instanceMethod yX1_wordOfTerm, Cond.selects RX1 yX1_wordOfTerm yX1_wordOfTerm, Cond.code yX1_wordOfTerm cX1_wordOfTerm 2 (some .int), Cond.fieldLink RX1 9 "PlusCodes$Code" "terms" "[I", Cond.methodLink RX1 43 yX1_summed, Cond.instanceMethod yX1_summed, Cond.selects RX1 yX1_summed yX1_summed, Cond.code yX1_summed cX1_summed 4 (some .int), Cond.fieldLink RX1 19 "PlusCodes$Code" "length" "I", Cond.methodLink RX7 45 yX3_sumFor, Cond.instanceMethod yX3_sumFor, Cond.selects RX3 yX3_sumFor yX3_sumFor, Cond.code yX3_sumFor cX3_sumFor 2 (some .int), Cond.methodLink RX7 26 yX7_stepTo, Cond.instanceMethod yX7_stepTo, Cond.selects RX7 yX7_stepTo yX7_stepTo, Cond.code yX7_stepTo cX7_stepTo 3 none]
def wsX8_merit_r4 : List Cond := [Cond.methodLink RX7 67 yJ6_numberOfTrailingZeros_0f7a4, Cond.methodLink RX8 202 yX8_halves, Cond.instanceMethod yX8_halves, Cond.selects RX8 yX8_halves yX8_halves, Cond.code yX8_halves cX8_halves 1 (some .int), Cond.fieldLink RX8 43 "PlusCodes" "halver" "LPlusCodes$Halver;", Cond.methodLink RX8 190 yX2_solve, Cond.instanceMethod yX2_solve, Cond.selects RX2 yX2_solve yX2_solve, Cond.initialized RX2, Cond.code yX2_solve cX2_solve 3 (some .int), Cond.fieldLink RX2 11 "PlusCodes$Halver" "rows" "[[I", Cond.fieldLink RX2 16 "PlusCodes$Code" "length" "I", Cond.fieldLink RX2 22 "PlusCodes$Code" "places" "I", Cond.methodLink RX2 25 arraycopyName, Cond.native arraycopyName, Cond.static arraycopyName, Cond.initialized "java/lang/System", Cond.fieldLink RX2 31 "PlusCodes$Code" "order" "I", Cond.methodLink RX2 34 yX2_wordFor, Cond.instanceMethod yX2_wordFor, Cond.selects RX2 yX2_wordFor yX2_wordFor, Cond.code yX2_wordFor cX2_wordFor 5 (some .int), Cond.methodLink RX2 38 yX2_allAlike]
def wsX8_merit_r5 : List Cond := [Cond.instanceMethod yX2_allAlike, Cond.selects RX2 yX2_allAlike yX2_allAlike, Cond.code yX2_allAlike cX2_allAlike 5 (some .int), Cond.static yX8_lowest, Cond.code yX8_lowest cX8_lowest 1 (some .int), Cond.methodLink RX2 42 yX2_eachAlone, Cond.instanceMethod yX2_eachAlone, Cond.selects RX2 yX2_eachAlone yX2_eachAlone, Cond.code yX2_eachAlone cX2_eachAlone 4 (some .int), Cond.methodLink RX2 45 yX2_putLesser, Cond.instanceMethod yX2_putLesser, Cond.selects RX2 yX2_putLesser yX2_putLesser, Cond.code yX2_putLesser cX2_putLesser 7 none, Cond.methodLink RX2 56 Lib.Math.abs.name, Cond.static Lib.Math.abs.name, Cond.code Lib.Math.abs.name Lib.Math.abs.code 1 (some .int), Cond.methodLink RX2 61 Lib.Math.min.name, Cond.methodLink RX2 49 yX2_putTogether, Cond.instanceMethod yX2_putTogether, Cond.selects RX2 yX2_putTogether yX2_putTogether, Cond.code yX2_putTogether cX2_putTogether 6 none, Cond.methodLink RX8 205 yX3_sumFor]
def wsX8_merit : List Cond := .code yX8_merit cX8_merit 2 (some .int) :: ((wsX8_merit_r1 ++ (wsX8_merit_r2 ++ (wsX8_merit_r3 ++ (wsX8_merit_r4 ++ wsX8_merit_r5)))) ++ wsX80 ++ wsX50 ++ wsX10 ++ wsX30 ++ wsX70 ++ wsX20)
def wsX8_weights_r1 : List Cond := [Cond.fieldLink RX8 10 "PlusCodes" "live" "LPlusCodes$State;", Cond.fieldLink RX8 73 "PlusCodes$State" "code" "LPlusCodes$Code;", Cond.fieldLink RX8 57 "PlusCodes" "walk" "LPlusCodes$Walk;", Cond.methodLink RX8 65 yX8_refuseBad, Cond.instanceMethod yX8_refuseBad, Cond.selects RX8 yX8_refuseBad yX8_refuseBad, Cond.initialized RX8, Cond.code yX8_refuseBad cX8_refuseBad 2 (some .int), Cond.fieldLink RX8 244 "PlusCodes" "badTimes" "I", Cond.methodLink RX8 168 yX1_canBeWalked, Cond.instanceMethod yX1_canBeWalked, Cond.selects RX1 yX1_canBeWalked yX1_canBeWalked, Cond.initialized RX1, Cond.code yX1_canBeWalked cX1_canBeWalked 1 (some .boolean), Cond.fieldLink RX1 25 "PlusCodes$Code" "count" "I", Cond.methodLink RX8 172 yX8_refuseNo, Cond.instanceMethod yX8_refuseNo, Cond.selects RX8 yX8_refuseNo yX8_refuseNo, Cond.code yX8_refuseNo cX8_refuseNo 2 (some .int), Cond.fieldLink RX8 247 "PlusCodes" "noTimes" "I", Cond.methodLink RX8 208 yX7_howManyWeigh, Cond.instanceMethod yX7_howManyWeigh, Cond.selects RX7 yX7_howManyWeigh yX7_howManyWeigh, Cond.initialized RX7]
def wsX8_weights_r2 : List Cond := [Cond.code yX7_howManyWeigh cX7_howManyWeigh 5 (some .int), Cond.fieldLink RX7 23 "PlusCodes$Walk" "messages" "I", Cond.fieldLink RX7 30 "PlusCodes$Walk" "word" "I", Cond.methodLink RX7 15 yX7_prepare, Cond.instanceMethod yX7_prepare, Cond.selects RX7 yX7_prepare yX7_prepare, Cond.code yX7_prepare cX7_prepare 5 none, Cond.fieldLink RX7 56 "PlusCodes$Code" "count" "I", Cond.methodLink RX7 61 Lib.Math.min.name, Cond.static Lib.Math.min.name, Cond.initialized "java/lang/Math", Cond.code Lib.Math.min.name Lib.Math.min.code 2 (some .int), Cond.fieldLink RX7 9 "PlusCodes$Walk" "steps" "[I", Cond.methodLink RX7 64 yX1_wordOfTerm, Cond.instanceMethod yX1_wordOfTerm, Cond.selects RX1 yX1_wordOfTerm yX1_wordOfTerm, Cond.code yX1_wordOfTerm cX1_wordOfTerm 2 (some .int), Cond.fieldLink RX1 9 "PlusCodes$Code" "terms" "[I", Cond.methodLink RX1 43 yX1_summed, Cond.instanceMethod yX1_summed, Cond.selects RX1 yX1_summed yX1_summed, Cond.code yX1_summed cX1_summed 4 (some .int), Cond.fieldLink RX1 19 "PlusCodes$Code" "length" "I", Cond.methodLink RX7 26 yX7_stepTo]
def wsX8_weights_r3 : List Cond := [Cond.instanceMethod yX7_stepTo, Cond.selects RX7 yX7_stepTo yX7_stepTo, Cond.code yX7_stepTo cX7_stepTo 3 none, Cond.methodLink RX7 67 yJ6_numberOfTrailingZeros_0f7a4, Cond.static yJ6_numberOfTrailingZeros_0f7a4, Cond.initialized RJ6, Cond.code yJ6_numberOfTrailingZeros_0f7a4 cJ6_numberOfTrailingZeros_0f7a4 2 (some .int), Cond.constant RJ6 264 (65536), Cond.methodLink RX7 33 yJ6_bitCount_0f7a4, Cond.static yJ6_bitCount_0f7a4, Cond.code yJ6_bitCount_0f7a4 cJ6_bitCount_0f7a4 1 (some .int), Cond.constant RJ6 265 (1431655765), Cond.constant RJ6 266 (858993459), Cond.constant RJ6 267 (252645135)]
def wsX8_weights : List Cond := .code yX8_weights cX8_weights 2 (some .int) :: ((wsX8_weights_r1 ++ (wsX8_weights_r2 ++ wsX8_weights_r3)) ++ wsX80 ++ wsX50 ++ wsX10 ++ wsX70)
def wsX8_perpendicular_r1 : List Cond := [Cond.fieldLink RX8 10 "PlusCodes" "live" "LPlusCodes$State;", Cond.fieldLink RX8 73 "PlusCodes$State" "code" "LPlusCodes$Code;", Cond.fieldLink RX8 77 "PlusCodes$Code" "count" "I", Cond.fieldLink RX8 103 "PlusCodes$State" "word" "I", Cond.methodLink RX8 212 yX1_wordOfTerm, Cond.instanceMethod yX1_wordOfTerm, Cond.selects RX1 yX1_wordOfTerm yX1_wordOfTerm, Cond.initialized RX1, Cond.code yX1_wordOfTerm cX1_wordOfTerm 2 (some .int), Cond.fieldLink RX1 9 "PlusCodes$Code" "terms" "[I", Cond.methodLink RX1 43 yX1_summed, Cond.instanceMethod yX1_summed, Cond.selects RX1 yX1_summed yX1_summed, Cond.code yX1_summed cX1_summed 4 (some .int), Cond.fieldLink RX1 19 "PlusCodes$Code" "length" "I", Cond.methodLink RX8 215 yX8_isOdd, Cond.static yX8_isOdd, Cond.initialized RX8, Cond.code yX8_isOdd cX8_isOdd 1 (some .boolean), Cond.methodLink RX8 127 yJ6_bitCount_0f7a4, Cond.static yJ6_bitCount_0f7a4, Cond.initialized RJ6, Cond.code yJ6_bitCount_0f7a4 cJ6_bitCount_0f7a4 1 (some .int), Cond.constant RJ6 265 (1431655765)]
def wsX8_perpendicular_r2 : List Cond := [Cond.constant RJ6 266 (858993459), Cond.constant RJ6 267 (252645135)]
def wsX8_perpendicular : List Cond := .code yX8_perpendicular cX8_perpendicular 2 (some .int) :: ((wsX8_perpendicular_r1 ++ wsX8_perpendicular_r2) ++ wsX80 ++ wsX50 ++ wsX10)
def wsX8_asked_r1 : List Cond := [Cond.fieldLink RX8 10 "PlusCodes" "live" "LPlusCodes$State;", Cond.fieldLink RX8 73 "PlusCodes$State" "code" "LPlusCodes$Code;", Cond.fieldLink RX8 83 "PlusCodes$Code" "order" "I", Cond.fieldLink RX8 86 "PlusCodes$Code" "length" "I", Cond.fieldLink RX8 93 "PlusCodes$Code" "places" "I", Cond.fieldLink RX8 103 "PlusCodes$State" "word" "I", Cond.methodLink RX8 115 yX1_hasPlace, Cond.instanceMethod yX1_hasPlace, Cond.selects RX1 yX1_hasPlace yX1_hasPlace, Cond.initialized RX1, Cond.code yX1_hasPlace cX1_hasPlace 2 (some .boolean), Cond.fieldLink RX1 22 "PlusCodes$Code" "places" "I", Cond.methodLink RX8 65 yX8_refuseBad, Cond.instanceMethod yX8_refuseBad, Cond.selects RX8 yX8_refuseBad yX8_refuseBad, Cond.initialized RX8, Cond.code yX8_refuseBad cX8_refuseBad 2 (some .int), Cond.fieldLink RX8 244 "PlusCodes" "badTimes" "I", Cond.methodLink RX8 172 yX8_refuseNo, Cond.instanceMethod yX8_refuseNo, Cond.selects RX8 yX8_refuseNo yX8_refuseNo, Cond.code yX8_refuseNo cX8_refuseNo 2 (some .int), Cond.fieldLink RX8 247 "PlusCodes" "noTimes" "I", Cond.methodLink RX8 127 yJ6_bitCount_0f7a4]
def wsX8_asked_r2 : List Cond := [Cond.static yJ6_bitCount_0f7a4, Cond.initialized RJ6, Cond.code yJ6_bitCount_0f7a4 cJ6_bitCount_0f7a4 1 (some .int), Cond.constant RJ6 265 (1431655765), Cond.constant RJ6 266 (858993459), Cond.constant RJ6 267 (252645135), Cond.methodLink RX8 218 yX8_partsOf, Cond.static yX8_partsOf, Cond.code yX8_partsOf cX8_partsOf 3 (some .int), Cond.methodLink RX8 215 yX8_isOdd, Cond.static yX8_isOdd, Cond.code yX8_isOdd cX8_isOdd 1 (some .boolean)]
def wsX8_asked : List Cond := .code yX8_asked cX8_asked 5 (some .int) :: ((wsX8_asked_r1 ++ wsX8_asked_r2) ++ wsX80 ++ wsX50 ++ wsX10)
def wsX8_type : List Cond := .code yX8_type cX8_type 2 (some .int) :: ([.fieldLink RX8 29 "PlusCodes" "text" "LPlusCodes$Text;", .fieldLink RX8 221 "PlusCodes$Text" "size" "I", .fieldLink RX8 224 "PlusCodes" "fullTimes" "I", .methodLink RX8 65 yX8_refuseBad, .instanceMethod yX8_refuseBad, .selects RX8 yX8_refuseBad yX8_refuseBad, .initialized RX8, .code yX8_refuseBad cX8_refuseBad 2 (some .int), .fieldLink RX8 244 "PlusCodes" "badTimes" "I", .methodLink RX8 227 yX6_append, .instanceMethod yX6_append, .selects RX6 yX6_append yX6_append, .initialized RX6, .code yX6_append cX6_append 2 none, .fieldLink RX6 19 "PlusCodes$Text" "size" "I", .fieldLink RX6 9 "PlusCodes$Text" "bytes" "[B"] ++ wsX80 ++ wsX60)
def wsX8_clear : List Cond := .code yX8_clear cX8_clear 2 (some .int) :: ([.fieldLink RX8 29 "PlusCodes" "text" "LPlusCodes$Text;", .fieldLink RX8 221 "PlusCodes$Text" "size" "I"] ++ wsX80 ++ wsX60)
def wsX8_orderCode_r1 : List Cond := [Cond.fieldLink RX8 29 "PlusCodes" "text" "LPlusCodes$Text;", Cond.fieldLink RX8 10 "PlusCodes" "live" "LPlusCodes$State;", Cond.methodLink RX8 287 yX6_readNumber, Cond.instanceMethod yX6_readNumber, Cond.selects RX6 yX6_readNumber yX6_readNumber, Cond.initialized RX6, Cond.code yX6_readNumber cX6_readNumber 9 (some .int), Cond.fieldLink RX6 22 "PlusCodes$Text" "next" "I", Cond.fieldLink RX6 19 "PlusCodes$Text" "size" "I", Cond.fieldLink RX6 9 "PlusCodes$Text" "bytes" "[B", Cond.methodLink RX6 25 yX6_skipBlanks, Cond.instanceMethod yX6_skipBlanks, Cond.selects RX6 yX6_skipBlanks yX6_skipBlanks, Cond.code yX6_skipBlanks cX6_skipBlanks 1 none, Cond.methodLink RX6 38 yX6_failAt, Cond.instanceMethod yX6_failAt, Cond.selects RX6 yX6_failAt yX6_failAt, Cond.code yX6_failAt cX6_failAt 2 none, Cond.fieldLink RX6 15 "PlusCodes$Text" "fault" "I", Cond.methodLink RX8 61 yX5_start, Cond.instanceMethod yX5_start, Cond.selects RX5 yX5_start yX5_start, Cond.initialized RX5, Cond.code yX5_start cX5_start 3 none]
def wsX8_orderCode_r2 : List Cond := [Cond.fieldLink RX5 12 "PlusCodes$State" "code" "LPlusCodes$Code;", Cond.fieldLink RX5 26 "PlusCodes$State" "word" "I", Cond.fieldLink RX5 18 "PlusCodes$State" "soft" "[I", Cond.methodLink RX5 22 yX1_become, Cond.instanceMethod yX1_become, Cond.selects RX1 yX1_become yX1_become, Cond.initialized RX1, Cond.code yX1_become cX1_become 7 none, Cond.fieldLink RX1 15 "PlusCodes$Code" "order" "I", Cond.fieldLink RX1 19 "PlusCodes$Code" "length" "I", Cond.fieldLink RX1 22 "PlusCodes$Code" "places" "I", Cond.fieldLink RX1 25 "PlusCodes$Code" "count" "I", Cond.fieldLink RX1 9 "PlusCodes$Code" "terms" "[I", Cond.methodLink RX1 31 yJ6_bitCount_0f7a4, Cond.static yJ6_bitCount_0f7a4, Cond.initialized RJ6, Cond.code yJ6_bitCount_0f7a4 cJ6_bitCount_0f7a4 1 (some .int), Cond.constant RJ6 265 (1431655765), Cond.constant RJ6 266 (858993459), Cond.constant RJ6 267 (252645135), Cond.methodLink RX5 30 yJ7_fill_53178, Cond.static yJ7_fill_53178, Cond.initialized RJ7, Cond.code yJ7_fill_53178 cJ7_fill_53178 4 none]
def wsX8_orderCode : List Cond := .code yX8_orderCode cX8_orderCode 3 none :: ((wsX8_orderCode_r1 ++ wsX8_orderCode_r2) ++ wsX80 ++ wsX60 ++ wsX50 ++ wsX10)
def wsX8_orderVotes_r1 : List Cond := [Cond.fieldLink RX8 36 "PlusCodes" "ballot" "LPlusCodes$Ballot;", Cond.fieldLink RX8 10 "PlusCodes" "live" "LPlusCodes$State;", Cond.fieldLink RX8 73 "PlusCodes$State" "code" "LPlusCodes$Code;", Cond.fieldLink RX8 103 "PlusCodes$State" "word" "I", Cond.fieldLink RX8 148 "PlusCodes$Ballot" "mended" "I", Cond.methodLink RX8 141 yX0_hold, Cond.instanceMethod yX0_hold, Cond.selects RX0 yX0_hold yX0_hold, Cond.initialized RX0, Cond.code yX0_hold cX0_hold 4 none, Cond.fieldLink RX0 9 "PlusCodes$Ballot" "message" "I", Cond.fieldLink RX0 15 "PlusCodes$Ballot" "mended" "I", Cond.fieldLink RX0 18 "PlusCodes$Ballot" "ties" "I", Cond.fieldLink RX0 21 "PlusCodes$Ballot" "closest" "I", Cond.fieldLink RX0 24 "PlusCodes$Ballot" "margin" "I", Cond.fieldLink RX0 27 "PlusCodes$Code" "order" "I", Cond.methodLink RX0 32 yX0_wordVoted, Cond.instanceMethod yX0_wordVoted, Cond.selects RX0 yX0_wordVoted yX0_wordVoted, Cond.code yX0_wordVoted cX0_wordVoted 7 (some .int), Cond.fieldLink RX0 36 "PlusCodes$Code" "count" "I", Cond.fieldLink RX0 39 "PlusCodes$Code" "terms" "[I", Cond.methodLink RX0 43 yJ6_bitCount_0f7a4, Cond.static yJ6_bitCount_0f7a4]
def wsX8_orderVotes_r2 : List Cond := [Cond.initialized RJ6, Cond.code yJ6_bitCount_0f7a4 cJ6_bitCount_0f7a4 1 (some .int), Cond.constant RJ6 265 (1431655765), Cond.constant RJ6 266 (858993459), Cond.constant RJ6 267 (252645135), Cond.methodLink RX0 49 yX0_isCarried, Cond.instanceMethod yX0_isCarried, Cond.selects RX0 yX0_isCarried yX0_isCarried, Cond.code yX0_isCarried cX0_isCarried 7 (some .boolean), Cond.fieldLink RX0 59 "PlusCodes$Code" "places" "I", Cond.methodLink RX0 66 Lib.Math.abs.name, Cond.static Lib.Math.abs.name, Cond.initialized "java/lang/Math", Cond.code Lib.Math.abs.name Lib.Math.abs.code 1 (some .int), Cond.static yX8_partsOf, Cond.initialized RX8, Cond.code yX8_partsOf cX8_partsOf 3 (some .int), Cond.static yX8_isOdd, Cond.code yX8_isOdd cX8_isOdd 1 (some .boolean), Cond.methodLink RX8 127 yJ6_bitCount_0f7a4, Cond.methodLink RX0 53 yX1_summed, Cond.instanceMethod yX1_summed, Cond.selects RX1 yX1_summed yX1_summed, Cond.initialized RX1]
def wsX8_orderVotes_r3 : List Cond := [Cond.code yX1_summed cX1_summed 4 (some .int), Cond.fieldLink RX1 19 "PlusCodes$Code" "length" "I"]
def wsX8_orderVotes : List Cond := .code yX8_orderVotes cX8_orderVotes 1 none :: ((wsX8_orderVotes_r1 ++ (wsX8_orderVotes_r2 ++ wsX8_orderVotes_r3)) ++ wsX80 ++ wsX50 ++ wsX00 ++ wsX10)
def wsX8_orderSoft : List Cond := .code yX8_orderSoft cX8_orderSoft 2 none :: ([.fieldLink RX8 29 "PlusCodes" "text" "LPlusCodes$Text;", .fieldLink RX8 10 "PlusCodes" "live" "LPlusCodes$State;", .fieldLink RX8 73 "PlusCodes$State" "code" "LPlusCodes$Code;", .fieldLink RX8 93 "PlusCodes$Code" "places" "I", .fieldLink RX8 187 "PlusCodes$State" "soft" "[I", .methodLink RX8 287 yX6_readNumber, .instanceMethod yX6_readNumber, .selects RX6 yX6_readNumber yX6_readNumber, .initialized RX6, .code yX6_readNumber cX6_readNumber 9 (some .int), .fieldLink RX6 22 "PlusCodes$Text" "next" "I", .fieldLink RX6 19 "PlusCodes$Text" "size" "I", .fieldLink RX6 9 "PlusCodes$Text" "bytes" "[B", .methodLink RX6 25 yX6_skipBlanks, .instanceMethod yX6_skipBlanks, .selects RX6 yX6_skipBlanks yX6_skipBlanks, .code yX6_skipBlanks cX6_skipBlanks 1 none, .methodLink RX6 38 yX6_failAt, .instanceMethod yX6_failAt, .selects RX6 yX6_failAt yX6_failAt, .code yX6_failAt cX6_failAt 2 none, .fieldLink RX6 15 "PlusCodes$Text" "fault" "I"] ++ wsX80 ++ wsX50 ++ wsX10 ++ wsX60)
def wsX8_carryOutNext_r1 : List Cond := [Cond.fieldLink RX8 29 "PlusCodes" "text" "LPlusCodes$Text;", Cond.fieldLink RX8 10 "PlusCodes" "live" "LPlusCodes$State;", Cond.fieldLink RX8 73 "PlusCodes$State" "code" "LPlusCodes$Code;", Cond.fieldLink RX8 103 "PlusCodes$State" "word" "I", Cond.fieldLink RX8 93 "PlusCodes$Code" "places" "I", Cond.fieldLink RX8 43 "PlusCodes" "halver" "LPlusCodes$Halver;", Cond.fieldLink RX8 187 "PlusCodes$State" "soft" "[I", Cond.methodLink RX8 277 yX6_readOneOf, Cond.instanceMethod yX6_readOneOf, Cond.selects RX6 yX6_readOneOf yX6_readOneOf, Cond.initialized RX6, Cond.code yX6_readOneOf cX6_readOneOf 2 (some .int), Cond.fieldLink RX6 9 "PlusCodes$Text" "bytes" "[B", Cond.fieldLink RX6 22 "PlusCodes$Text" "next" "I", Cond.methodLink RX6 28 yX6_isAtEnd, Cond.instanceMethod yX6_isAtEnd, Cond.selects RX6 yX6_isAtEnd yX6_isAtEnd, Cond.code yX6_isAtEnd cX6_isAtEnd 1 (some .boolean), Cond.fieldLink RX6 19 "PlusCodes$Text" "size" "I", Cond.methodLink RX6 25 yX6_skipBlanks, Cond.instanceMethod yX6_skipBlanks, Cond.selects RX6 yX6_skipBlanks yX6_skipBlanks, Cond.code yX6_skipBlanks cX6_skipBlanks 1 none, Cond.methodLink RX6 32 yJ0_indexOf_0f7a4]
def wsX8_carryOutNext_r2 : List Cond := [Cond.instanceMethod yJ0_indexOf_0f7a4, Cond.selects RJ0 yJ0_indexOf_0f7a4 yJ0_indexOf_0f7a4, Cond.initialized RJ0, Cond.code yJ0_indexOf_0f7a4 cJ0_indexOf_0f7a4 2 (some .int), Cond.methodLink RJ0 633 yJ0_indexOf_7cf53, Cond.instanceMethod yJ0_indexOf_7cf53, Cond.selects RJ0 yJ0_indexOf_7cf53 yJ0_indexOf_7cf53, Cond.code yJ0_indexOf_7cf53 cJ0_indexOf_7cf53 3 (some .int), Cond.fieldLink RJ0 9 "java/lang/String" "value" "[B", Cond.methodLink RJ0 492 yJ0_isLatin1_aae02, Cond.instanceMethod yJ0_isLatin1_aae02, Cond.selects RJ0 yJ0_isLatin1_aae02 yJ0_isLatin1_aae02, Cond.code yJ0_isLatin1_aae02 cJ0_isLatin1_aae02 1 (some .boolean), Cond.fieldLink RJ0 38 "java/lang/String" "COMPACT_STRINGS" "Z", Cond.fieldLink RJ0 15 "java/lang/String" "coder" "B", Cond.methodLink RJ0 505 yJ0_length_8abf5, Cond.instanceMethod yJ0_length_8abf5, Cond.selects RJ0 yJ0_length_8abf5 yJ0_length_8abf5, Cond.code yJ0_length_8abf5 cJ0_length_8abf5 1 (some .int), Cond.methodLink RJ0 335 yJ0_coder_7d493, Cond.instanceMethod yJ0_coder_7d493, Cond.selects RJ0 yJ0_coder_7d493 yJ0_coder_7d493, Cond.code yJ0_coder_7d493 cJ0_coder_7d493 1 (some .byte), Cond.methodLink RJ0 637 yJ1_indexOf_4cfef]
def wsX8_carryOutNext_r3 : List Cond := [Cond.static yJ1_indexOf_4cfef, Cond.initialized RJ1, Cond.code yJ1_indexOf_4cfef cJ1_indexOf_4cfef 4 (some .int), Cond.methodLink RJ1 92 Lib.Math.max.name, Cond.static Lib.Math.max.name, Cond.initialized "java/lang/Math", Cond.code Lib.Math.max.name Lib.Math.max.code 2 (some .int), Cond.methodLink RJ1 38 Lib.Math.min.name, Cond.static Lib.Math.min.name, Cond.code Lib.Math.min.name Lib.Math.min.code 2 (some .int), Cond.methodLink RJ1 88 yJ1_canEncode_9a6ad, Cond.static yJ1_canEncode_9a6ad, Cond.code yJ1_canEncode_9a6ad cJ1_canEncode_9a6ad 1 (some .boolean), Cond.methodLink RJ1 95 yJ1_indexOfChar_4cfef, Cond.static yJ1_indexOfChar_4cfef, Cond.code yJ1_indexOfChar_4cfef cJ1_indexOfChar_4cfef 6 (some .int), Cond.methodLink RJ0 640 yJ2_indexOf_4cfef, Cond.static yJ2_indexOf_4cfef, Cond.initialized RJ2, Cond.code yJ2_indexOf_4cfef cJ2_indexOf_4cfef 4 (some .int), Cond.methodLink RJ2 224 Lib.Math.max.name, Cond.methodLink RJ2 183 Lib.Math.min.name, Cond.constant RJ2 227 (65536), Cond.methodLink RJ2 228 yJ2_indexOfChar_4cfef]
def wsX8_carryOutNext_r4 : List Cond := [Cond.static yJ2_indexOfChar_4cfef, Cond.code yJ2_indexOfChar_4cfef cJ2_indexOfChar_4cfef 4 (some .int), Cond.methodLink RJ2 96 yJ2_checkBoundsBeginEnd_d044e, Cond.static yJ2_checkBoundsBeginEnd_d044e, Cond.code yJ2_checkBoundsBeginEnd_d044e cJ2_checkBoundsBeginEnd_d044e 3 none, Cond.methodLink RJ2 48 yJ2_length_9d52b, Cond.static yJ2_length_9d52b, Cond.code yJ2_length_9d52b cJ2_length_9d52b 1 (some .int), Cond.methodLink RJ2 241 yJ0_checkBoundsBeginEnd_23922, Cond.static yJ0_checkBoundsBeginEnd_23922, Cond.code yJ0_checkBoundsBeginEnd_23922 cJ0_checkBoundsBeginEnd_23922 3 none, Cond.fieldLink RJ0 1053 "jdk/internal/util/Preconditions" "SIOOBE_FORMATTER" "Ljava/util/function/BiFunction;", Cond.methodLink RJ0 1062 yJ3_checkFromToIndex_8c36e, Cond.static yJ3_checkFromToIndex_8c36e, Cond.initialized RJ3, Cond.code yJ3_checkFromToIndex_8c36e cJ3_checkFromToIndex_8c36e 4 (some .int), Cond.methodLink RJ2 244 yJ2_indexOfCharUnsafe_4cfef, Cond.static yJ2_indexOfCharUnsafe_4cfef, Cond.code yJ2_indexOfCharUnsafe_4cfef cJ2_indexOfCharUnsafe_4cfef 5 (some .int), Cond.methodLink RJ2 71 yJ2_getChar_3b067, Cond.static yJ2_getChar_3b067, Cond.code yJ2_getChar_3b067 cJ2_getChar_3b067 2 (some .char), Cond.fieldLink RJ2 44 "java/lang/StringUTF16" "$assertionsDisabled" "Z", Cond.fieldLink RJ2 59 "java/lang/StringUTF16" "HI_BYTE_SHIFT" "I"]
def wsX8_carryOutNext_r5 : List Cond := [Cond.fieldLink RJ2 63 "java/lang/StringUTF16" "LO_BYTE_SHIFT" "I", Cond.methodLink RJ2 232 yJ2_indexOfSupplementary_4cfef, Cond.static yJ2_indexOfSupplementary_4cfef, Cond.code yJ2_indexOfSupplementary_4cfef cJ2_indexOfSupplementary_4cfef 7 (some .int), Cond.methodLink RJ2 164 yJ11_isValidCodePoint_9a6ad, Cond.static yJ11_isValidCodePoint_9a6ad, Cond.initialized RJ11, Cond.code yJ11_isValidCodePoint_9a6ad cJ11_isValidCodePoint_9a6ad 2 (some .boolean), Cond.methodLink RJ2 157 yJ11_highSurrogate_5068e, Cond.static yJ11_highSurrogate_5068e, Cond.code yJ11_highSurrogate_5068e cJ11_highSurrogate_5068e 1 (some .char), Cond.constant RJ11 110 (55232), Cond.methodLink RJ2 161 yJ11_lowSurrogate_5068e, Cond.static yJ11_lowSurrogate_5068e, Cond.code yJ11_lowSurrogate_5068e cJ11_lowSurrogate_5068e 1 (some .char), Cond.constant RJ11 76 (56320), Cond.methodLink RX6 38 yX6_failAt, Cond.instanceMethod yX6_failAt, Cond.selects RX6 yX6_failAt yX6_failAt, Cond.code yX6_failAt cX6_failAt 2 none, Cond.fieldLink RX6 15 "PlusCodes$Text" "fault" "I", Cond.methodLink RX8 281 yX8_orderCode, Cond.instanceMethod yX8_orderCode, Cond.selects RX8 yX8_orderCode yX8_orderCode]
def wsX8_carryOutNext_r6 : List Cond := [Cond.initialized RX8, Cond.code yX8_orderCode cX8_orderCode 3 none, Cond.methodLink RX8 287 yX6_readNumber, Cond.instanceMethod yX6_readNumber, Cond.selects RX6 yX6_readNumber yX6_readNumber, Cond.code yX6_readNumber cX6_readNumber 9 (some .int), Cond.methodLink RX8 61 yX5_start, Cond.instanceMethod yX5_start, Cond.selects RX5 yX5_start yX5_start, Cond.initialized RX5, Cond.code yX5_start cX5_start 3 none, Cond.fieldLink RX5 12 "PlusCodes$State" "code" "LPlusCodes$Code;", Cond.fieldLink RX5 26 "PlusCodes$State" "word" "I", Cond.fieldLink RX5 18 "PlusCodes$State" "soft" "[I", Cond.methodLink RX5 22 yX1_become, Cond.instanceMethod yX1_become, Cond.selects RX1 yX1_become yX1_become, Cond.initialized RX1, Cond.code yX1_become cX1_become 7 none, Cond.fieldLink RX1 15 "PlusCodes$Code" "order" "I", Cond.fieldLink RX1 19 "PlusCodes$Code" "length" "I", Cond.fieldLink RX1 22 "PlusCodes$Code" "places" "I", Cond.fieldLink RX1 25 "PlusCodes$Code" "count" "I", Cond.fieldLink RX1 9 "PlusCodes$Code" "terms" "[I"]
def wsX8_carryOutNext_r7 : List Cond := [Cond.methodLink RX1 31 yJ6_bitCount_0f7a4, Cond.static yJ6_bitCount_0f7a4, Cond.initialized RJ6, Cond.code yJ6_bitCount_0f7a4 cJ6_bitCount_0f7a4 1 (some .int), Cond.constant RJ6 265 (1431655765), Cond.constant RJ6 266 (858993459), Cond.constant RJ6 267 (252645135), Cond.methodLink RX5 30 yJ7_fill_53178, Cond.static yJ7_fill_53178, Cond.initialized RJ7, Cond.code yJ7_fill_53178 cJ7_fill_53178 4 none, Cond.methodLink RX8 106 yX1_allTerms, Cond.instanceMethod yX1_allTerms, Cond.selects RX1 yX1_allTerms yX1_allTerms, Cond.code yX1_allTerms cX1_allTerms 1 (some .int), Cond.static yX8_lowest, Cond.code yX8_lowest cX8_lowest 1 (some .int), Cond.methodLink RX8 284 yX6_readHex, Cond.instanceMethod yX6_readHex, Cond.selects RX6 yX6_readHex yX6_readHex, Cond.code yX6_readHex cX6_readHex 5 (some .int), Cond.methodLink RX6 42 yX6_hexValue, Cond.static yX6_hexValue, Cond.code yX6_hexValue cX6_hexValue 1 (some .int)]
def wsX8_carryOutNext_r8 : List Cond := [Cond.methodLink RX8 109 yX1_wordOf, Cond.instanceMethod yX1_wordOf, Cond.selects RX1 yX1_wordOf yX1_wordOf, Cond.code yX1_wordOf cX1_wordOf 4 (some .int), Cond.methodLink RX1 43 yX1_summed, Cond.instanceMethod yX1_summed, Cond.selects RX1 yX1_summed yX1_summed, Cond.code yX1_summed cX1_summed 4 (some .int), Cond.methodLink RX8 100 yX1_allPlaces, Cond.instanceMethod yX1_allPlaces, Cond.selects RX1 yX1_allPlaces yX1_allPlaces, Cond.code yX1_allPlaces cX1_allPlaces 1 (some .int), Cond.methodLink RX8 290 yX8_orderVotes, Cond.instanceMethod yX8_orderVotes, Cond.selects RX8 yX8_orderVotes yX8_orderVotes, Cond.code yX8_orderVotes cX8_orderVotes 1 none, Cond.fieldLink RX8 36 "PlusCodes" "ballot" "LPlusCodes$Ballot;", Cond.fieldLink RX8 148 "PlusCodes$Ballot" "mended" "I", Cond.methodLink RX8 141 yX0_hold, Cond.instanceMethod yX0_hold, Cond.selects RX0 yX0_hold yX0_hold, Cond.initialized RX0, Cond.code yX0_hold cX0_hold 4 none, Cond.fieldLink RX0 9 "PlusCodes$Ballot" "message" "I"]
def wsX8_carryOutNext_r9 : List Cond := [Cond.fieldLink RX0 15 "PlusCodes$Ballot" "mended" "I", Cond.fieldLink RX0 18 "PlusCodes$Ballot" "ties" "I", Cond.fieldLink RX0 21 "PlusCodes$Ballot" "closest" "I", Cond.fieldLink RX0 24 "PlusCodes$Ballot" "margin" "I", Cond.fieldLink RX0 27 "PlusCodes$Code" "order" "I", Cond.methodLink RX0 32 yX0_wordVoted, Cond.instanceMethod yX0_wordVoted, Cond.selects RX0 yX0_wordVoted yX0_wordVoted, Cond.code yX0_wordVoted cX0_wordVoted 7 (some .int), Cond.fieldLink RX0 36 "PlusCodes$Code" "count" "I", Cond.fieldLink RX0 39 "PlusCodes$Code" "terms" "[I", Cond.methodLink RX0 43 yJ6_bitCount_0f7a4, Cond.methodLink RX0 49 yX0_isCarried, Cond.instanceMethod yX0_isCarried, Cond.selects RX0 yX0_isCarried yX0_isCarried, Cond.code yX0_isCarried cX0_isCarried 7 (some .boolean), Cond.fieldLink RX0 59 "PlusCodes$Code" "places" "I", Cond.methodLink RX0 66 Lib.Math.abs.name, Cond.static Lib.Math.abs.name, Cond.code Lib.Math.abs.name Lib.Math.abs.code 1 (some .int), Cond.static yX8_partsOf, Cond.code yX8_partsOf cX8_partsOf 3 (some .int), Cond.static yX8_isOdd, Cond.code yX8_isOdd cX8_isOdd 1 (some .boolean)]
def wsX8_carryOutNext_r10 : List Cond := [Cond.methodLink RX8 127 yJ6_bitCount_0f7a4, Cond.methodLink RX0 53 yX1_summed, Cond.methodLink RX8 293 yX8_orderSoft, Cond.instanceMethod yX8_orderSoft, Cond.selects RX8 yX8_orderSoft yX8_orderSoft, Cond.code yX8_orderSoft cX8_orderSoft 2 none, Cond.methodLink RX8 190 yX2_solve, Cond.instanceMethod yX2_solve, Cond.selects RX2 yX2_solve yX2_solve, Cond.initialized RX2, Cond.code yX2_solve cX2_solve 3 (some .int), Cond.fieldLink RX2 11 "PlusCodes$Halver" "rows" "[[I", Cond.fieldLink RX2 16 "PlusCodes$Code" "length" "I", Cond.fieldLink RX2 22 "PlusCodes$Code" "places" "I", Cond.methodLink RX2 25 arraycopyName, Cond.native arraycopyName, Cond.static arraycopyName, Cond.initialized "java/lang/System", Cond.fieldLink RX2 31 "PlusCodes$Code" "order" "I", Cond.methodLink RX2 34 yX2_wordFor, Cond.instanceMethod yX2_wordFor, Cond.selects RX2 yX2_wordFor yX2_wordFor, Cond.code yX2_wordFor cX2_wordFor 5 (some .int), Cond.methodLink RX2 38 yX2_allAlike]
def wsX8_carryOutNext_r11 : List Cond := [Cond.instanceMethod yX2_allAlike, Cond.selects RX2 yX2_allAlike yX2_allAlike, Cond.code yX2_allAlike cX2_allAlike 5 (some .int), Cond.methodLink RX2 42 yX2_eachAlone, Cond.instanceMethod yX2_eachAlone, Cond.selects RX2 yX2_eachAlone yX2_eachAlone, Cond.code yX2_eachAlone cX2_eachAlone 4 (some .int), Cond.methodLink RX2 45 yX2_putLesser, Cond.instanceMethod yX2_putLesser, Cond.selects RX2 yX2_putLesser yX2_putLesser, Cond.code yX2_putLesser cX2_putLesser 7 none, Cond.methodLink RX2 56 Lib.Math.abs.name, Cond.methodLink RX2 61 Lib.Math.min.name, Cond.methodLink RX2 49 yX2_putTogether, Cond.instanceMethod yX2_putTogether, Cond.selects RX2 yX2_putTogether yX2_putTogether, Cond.code yX2_putTogether cX2_putTogether 6 none]
def wsX8_carryOutNext : List Cond := .code yX8_carryOutNext cX8_carryOutNext 1 none :: ((wsX8_carryOutNext_r1 ++ (wsX8_carryOutNext_r2 ++ (wsX8_carryOutNext_r3 ++ (wsX8_carryOutNext_r4 ++ (wsX8_carryOutNext_r5 ++ (wsX8_carryOutNext_r6 ++ (wsX8_carryOutNext_r7 ++ (wsX8_carryOutNext_r8 ++ (wsX8_carryOutNext_r9 ++ (wsX8_carryOutNext_r10 ++ wsX8_carryOutNext_r11)))))))))) ++ wsX80 ++ wsX50 ++ wsX10 ++ wsX60 ++ wsX00 ++ wsX20)
def wsX8_carryOutAll_r1 : List Cond := [Cond.fieldLink RX8 29 "PlusCodes" "text" "LPlusCodes$Text;", Cond.fieldLink RX8 237 "PlusCodes$Text" "fault" "I", Cond.methodLink RX8 266 yX6_rewind, Cond.instanceMethod yX6_rewind, Cond.selects RX6 yX6_rewind yX6_rewind, Cond.initialized RX6, Cond.code yX6_rewind cX6_rewind 1 none, Cond.fieldLink RX6 22 "PlusCodes$Text" "next" "I", Cond.fieldLink RX6 15 "PlusCodes$Text" "fault" "I", Cond.methodLink RX8 269 yX8_carryOutNext, Cond.instanceMethod yX8_carryOutNext, Cond.selects RX8 yX8_carryOutNext yX8_carryOutNext, Cond.initialized RX8, Cond.code yX8_carryOutNext cX8_carryOutNext 1 none, Cond.fieldLink RX8 10 "PlusCodes" "live" "LPlusCodes$State;", Cond.fieldLink RX8 73 "PlusCodes$State" "code" "LPlusCodes$Code;", Cond.fieldLink RX8 103 "PlusCodes$State" "word" "I", Cond.fieldLink RX8 93 "PlusCodes$Code" "places" "I", Cond.fieldLink RX8 43 "PlusCodes" "halver" "LPlusCodes$Halver;", Cond.fieldLink RX8 187 "PlusCodes$State" "soft" "[I", Cond.methodLink RX8 277 yX6_readOneOf, Cond.instanceMethod yX6_readOneOf, Cond.selects RX6 yX6_readOneOf yX6_readOneOf, Cond.code yX6_readOneOf cX6_readOneOf 2 (some .int)]
def wsX8_carryOutAll_r2 : List Cond := [Cond.fieldLink RX6 9 "PlusCodes$Text" "bytes" "[B", Cond.methodLink RX6 28 yX6_isAtEnd, Cond.instanceMethod yX6_isAtEnd, Cond.selects RX6 yX6_isAtEnd yX6_isAtEnd, Cond.code yX6_isAtEnd cX6_isAtEnd 1 (some .boolean), Cond.fieldLink RX6 19 "PlusCodes$Text" "size" "I", Cond.methodLink RX6 25 yX6_skipBlanks, Cond.instanceMethod yX6_skipBlanks, Cond.selects RX6 yX6_skipBlanks yX6_skipBlanks, Cond.code yX6_skipBlanks cX6_skipBlanks 1 none, Cond.methodLink RX6 32 yJ0_indexOf_0f7a4, Cond.instanceMethod yJ0_indexOf_0f7a4, Cond.selects RJ0 yJ0_indexOf_0f7a4 yJ0_indexOf_0f7a4, Cond.initialized RJ0, Cond.code yJ0_indexOf_0f7a4 cJ0_indexOf_0f7a4 2 (some .int), Cond.methodLink RJ0 633 yJ0_indexOf_7cf53, Cond.instanceMethod yJ0_indexOf_7cf53, Cond.selects RJ0 yJ0_indexOf_7cf53 yJ0_indexOf_7cf53, Cond.code yJ0_indexOf_7cf53 cJ0_indexOf_7cf53 3 (some .int), Cond.fieldLink RJ0 9 "java/lang/String" "value" "[B", Cond.methodLink RJ0 492 yJ0_isLatin1_aae02, Cond.instanceMethod yJ0_isLatin1_aae02, Cond.selects RJ0 yJ0_isLatin1_aae02 yJ0_isLatin1_aae02, Cond.code yJ0_isLatin1_aae02 cJ0_isLatin1_aae02 1 (some .boolean)]
def wsX8_carryOutAll_r3 : List Cond := [Cond.fieldLink RJ0 38 "java/lang/String" "COMPACT_STRINGS" "Z", Cond.fieldLink RJ0 15 "java/lang/String" "coder" "B", Cond.methodLink RJ0 505 yJ0_length_8abf5, Cond.instanceMethod yJ0_length_8abf5, Cond.selects RJ0 yJ0_length_8abf5 yJ0_length_8abf5, Cond.code yJ0_length_8abf5 cJ0_length_8abf5 1 (some .int), Cond.methodLink RJ0 335 yJ0_coder_7d493, Cond.instanceMethod yJ0_coder_7d493, Cond.selects RJ0 yJ0_coder_7d493 yJ0_coder_7d493, Cond.code yJ0_coder_7d493 cJ0_coder_7d493 1 (some .byte), Cond.methodLink RJ0 637 yJ1_indexOf_4cfef, Cond.static yJ1_indexOf_4cfef, Cond.initialized RJ1, Cond.code yJ1_indexOf_4cfef cJ1_indexOf_4cfef 4 (some .int), Cond.methodLink RJ1 92 Lib.Math.max.name, Cond.static Lib.Math.max.name, Cond.initialized "java/lang/Math", Cond.code Lib.Math.max.name Lib.Math.max.code 2 (some .int), Cond.methodLink RJ1 38 Lib.Math.min.name, Cond.static Lib.Math.min.name, Cond.code Lib.Math.min.name Lib.Math.min.code 2 (some .int), Cond.methodLink RJ1 88 yJ1_canEncode_9a6ad, Cond.static yJ1_canEncode_9a6ad, Cond.code yJ1_canEncode_9a6ad cJ1_canEncode_9a6ad 1 (some .boolean)]
def wsX8_carryOutAll_r4 : List Cond := [Cond.methodLink RJ1 95 yJ1_indexOfChar_4cfef, Cond.static yJ1_indexOfChar_4cfef, Cond.code yJ1_indexOfChar_4cfef cJ1_indexOfChar_4cfef 6 (some .int), Cond.methodLink RJ0 640 yJ2_indexOf_4cfef, Cond.static yJ2_indexOf_4cfef, Cond.initialized RJ2, Cond.code yJ2_indexOf_4cfef cJ2_indexOf_4cfef 4 (some .int), Cond.methodLink RJ2 224 Lib.Math.max.name, Cond.methodLink RJ2 183 Lib.Math.min.name, Cond.constant RJ2 227 (65536), Cond.methodLink RJ2 228 yJ2_indexOfChar_4cfef, Cond.static yJ2_indexOfChar_4cfef, Cond.code yJ2_indexOfChar_4cfef cJ2_indexOfChar_4cfef 4 (some .int), Cond.methodLink RJ2 96 yJ2_checkBoundsBeginEnd_d044e, Cond.static yJ2_checkBoundsBeginEnd_d044e, Cond.code yJ2_checkBoundsBeginEnd_d044e cJ2_checkBoundsBeginEnd_d044e 3 none, Cond.methodLink RJ2 48 yJ2_length_9d52b, Cond.static yJ2_length_9d52b, Cond.code yJ2_length_9d52b cJ2_length_9d52b 1 (some .int), Cond.methodLink RJ2 241 yJ0_checkBoundsBeginEnd_23922, Cond.static yJ0_checkBoundsBeginEnd_23922, Cond.code yJ0_checkBoundsBeginEnd_23922 cJ0_checkBoundsBeginEnd_23922 3 none, Cond.fieldLink RJ0 1053 "jdk/internal/util/Preconditions" "SIOOBE_FORMATTER" "Ljava/util/function/BiFunction;", Cond.methodLink RJ0 1062 yJ3_checkFromToIndex_8c36e]
def wsX8_carryOutAll_r5 : List Cond := [Cond.static yJ3_checkFromToIndex_8c36e, Cond.initialized RJ3, Cond.code yJ3_checkFromToIndex_8c36e cJ3_checkFromToIndex_8c36e 4 (some .int), Cond.methodLink RJ2 244 yJ2_indexOfCharUnsafe_4cfef, Cond.static yJ2_indexOfCharUnsafe_4cfef, Cond.code yJ2_indexOfCharUnsafe_4cfef cJ2_indexOfCharUnsafe_4cfef 5 (some .int), Cond.methodLink RJ2 71 yJ2_getChar_3b067, Cond.static yJ2_getChar_3b067, Cond.code yJ2_getChar_3b067 cJ2_getChar_3b067 2 (some .char), Cond.fieldLink RJ2 44 "java/lang/StringUTF16" "$assertionsDisabled" "Z", Cond.fieldLink RJ2 59 "java/lang/StringUTF16" "HI_BYTE_SHIFT" "I", Cond.fieldLink RJ2 63 "java/lang/StringUTF16" "LO_BYTE_SHIFT" "I", Cond.methodLink RJ2 232 yJ2_indexOfSupplementary_4cfef, Cond.static yJ2_indexOfSupplementary_4cfef, Cond.code yJ2_indexOfSupplementary_4cfef cJ2_indexOfSupplementary_4cfef 7 (some .int), Cond.methodLink RJ2 164 yJ11_isValidCodePoint_9a6ad, Cond.static yJ11_isValidCodePoint_9a6ad, Cond.initialized RJ11, Cond.code yJ11_isValidCodePoint_9a6ad cJ11_isValidCodePoint_9a6ad 2 (some .boolean), Cond.methodLink RJ2 157 yJ11_highSurrogate_5068e, Cond.static yJ11_highSurrogate_5068e, Cond.code yJ11_highSurrogate_5068e cJ11_highSurrogate_5068e 1 (some .char), Cond.constant RJ11 110 (55232), Cond.methodLink RJ2 161 yJ11_lowSurrogate_5068e]
def wsX8_carryOutAll_r6 : List Cond := [Cond.static yJ11_lowSurrogate_5068e, Cond.code yJ11_lowSurrogate_5068e cJ11_lowSurrogate_5068e 1 (some .char), Cond.constant RJ11 76 (56320), Cond.methodLink RX6 38 yX6_failAt, Cond.instanceMethod yX6_failAt, Cond.selects RX6 yX6_failAt yX6_failAt, Cond.code yX6_failAt cX6_failAt 2 none, Cond.methodLink RX8 281 yX8_orderCode, Cond.instanceMethod yX8_orderCode, Cond.selects RX8 yX8_orderCode yX8_orderCode, Cond.code yX8_orderCode cX8_orderCode 3 none, Cond.methodLink RX8 287 yX6_readNumber, Cond.instanceMethod yX6_readNumber, Cond.selects RX6 yX6_readNumber yX6_readNumber, Cond.code yX6_readNumber cX6_readNumber 9 (some .int), Cond.methodLink RX8 61 yX5_start, Cond.instanceMethod yX5_start, Cond.selects RX5 yX5_start yX5_start, Cond.initialized RX5, Cond.code yX5_start cX5_start 3 none, Cond.fieldLink RX5 12 "PlusCodes$State" "code" "LPlusCodes$Code;", Cond.fieldLink RX5 26 "PlusCodes$State" "word" "I", Cond.fieldLink RX5 18 "PlusCodes$State" "soft" "[I", Cond.methodLink RX5 22 yX1_become]
def wsX8_carryOutAll_r7 : List Cond := [Cond.instanceMethod yX1_become, Cond.selects RX1 yX1_become yX1_become, Cond.initialized RX1, Cond.code yX1_become cX1_become 7 none, Cond.fieldLink RX1 15 "PlusCodes$Code" "order" "I", Cond.fieldLink RX1 19 "PlusCodes$Code" "length" "I", Cond.fieldLink RX1 22 "PlusCodes$Code" "places" "I", Cond.fieldLink RX1 25 "PlusCodes$Code" "count" "I", Cond.fieldLink RX1 9 "PlusCodes$Code" "terms" "[I", Cond.methodLink RX1 31 yJ6_bitCount_0f7a4, Cond.static yJ6_bitCount_0f7a4, Cond.initialized RJ6, Cond.code yJ6_bitCount_0f7a4 cJ6_bitCount_0f7a4 1 (some .int), Cond.constant RJ6 265 (1431655765), Cond.constant RJ6 266 (858993459), Cond.constant RJ6 267 (252645135), Cond.methodLink RX5 30 yJ7_fill_53178, Cond.static yJ7_fill_53178, Cond.initialized RJ7, Cond.code yJ7_fill_53178 cJ7_fill_53178 4 none, Cond.methodLink RX8 106 yX1_allTerms, Cond.instanceMethod yX1_allTerms, Cond.selects RX1 yX1_allTerms yX1_allTerms, Cond.code yX1_allTerms cX1_allTerms 1 (some .int)]
def wsX8_carryOutAll_r8 : List Cond := [Cond.static yX8_lowest, Cond.code yX8_lowest cX8_lowest 1 (some .int), Cond.methodLink RX8 284 yX6_readHex, Cond.instanceMethod yX6_readHex, Cond.selects RX6 yX6_readHex yX6_readHex, Cond.code yX6_readHex cX6_readHex 5 (some .int), Cond.methodLink RX6 42 yX6_hexValue, Cond.static yX6_hexValue, Cond.code yX6_hexValue cX6_hexValue 1 (some .int), Cond.methodLink RX8 109 yX1_wordOf, Cond.instanceMethod yX1_wordOf, Cond.selects RX1 yX1_wordOf yX1_wordOf, Cond.code yX1_wordOf cX1_wordOf 4 (some .int), Cond.methodLink RX1 43 yX1_summed, Cond.instanceMethod yX1_summed, Cond.selects RX1 yX1_summed yX1_summed, Cond.code yX1_summed cX1_summed 4 (some .int), Cond.methodLink RX8 100 yX1_allPlaces, Cond.instanceMethod yX1_allPlaces, Cond.selects RX1 yX1_allPlaces yX1_allPlaces, Cond.code yX1_allPlaces cX1_allPlaces 1 (some .int), Cond.methodLink RX8 290 yX8_orderVotes, Cond.instanceMethod yX8_orderVotes, Cond.selects RX8 yX8_orderVotes yX8_orderVotes]
def wsX8_carryOutAll_r9 : List Cond := [Cond.code yX8_orderVotes cX8_orderVotes 1 none, Cond.fieldLink RX8 36 "PlusCodes" "ballot" "LPlusCodes$Ballot;", Cond.fieldLink RX8 148 "PlusCodes$Ballot" "mended" "I", Cond.methodLink RX8 141 yX0_hold, Cond.instanceMethod yX0_hold, Cond.selects RX0 yX0_hold yX0_hold, Cond.initialized RX0, Cond.code yX0_hold cX0_hold 4 none, Cond.fieldLink RX0 9 "PlusCodes$Ballot" "message" "I", Cond.fieldLink RX0 15 "PlusCodes$Ballot" "mended" "I", Cond.fieldLink RX0 18 "PlusCodes$Ballot" "ties" "I", Cond.fieldLink RX0 21 "PlusCodes$Ballot" "closest" "I", Cond.fieldLink RX0 24 "PlusCodes$Ballot" "margin" "I", Cond.fieldLink RX0 27 "PlusCodes$Code" "order" "I", Cond.methodLink RX0 32 yX0_wordVoted, Cond.instanceMethod yX0_wordVoted, Cond.selects RX0 yX0_wordVoted yX0_wordVoted, Cond.code yX0_wordVoted cX0_wordVoted 7 (some .int), Cond.fieldLink RX0 36 "PlusCodes$Code" "count" "I", Cond.fieldLink RX0 39 "PlusCodes$Code" "terms" "[I", Cond.methodLink RX0 43 yJ6_bitCount_0f7a4, Cond.methodLink RX0 49 yX0_isCarried, Cond.instanceMethod yX0_isCarried, Cond.selects RX0 yX0_isCarried yX0_isCarried]
def wsX8_carryOutAll_r10 : List Cond := [Cond.code yX0_isCarried cX0_isCarried 7 (some .boolean), Cond.fieldLink RX0 59 "PlusCodes$Code" "places" "I", Cond.methodLink RX0 66 Lib.Math.abs.name, Cond.static Lib.Math.abs.name, Cond.code Lib.Math.abs.name Lib.Math.abs.code 1 (some .int), Cond.static yX8_partsOf, Cond.code yX8_partsOf cX8_partsOf 3 (some .int), Cond.static yX8_isOdd, Cond.code yX8_isOdd cX8_isOdd 1 (some .boolean), Cond.methodLink RX8 127 yJ6_bitCount_0f7a4, Cond.methodLink RX0 53 yX1_summed, Cond.methodLink RX8 293 yX8_orderSoft, Cond.instanceMethod yX8_orderSoft, Cond.selects RX8 yX8_orderSoft yX8_orderSoft, Cond.code yX8_orderSoft cX8_orderSoft 2 none, Cond.methodLink RX8 190 yX2_solve, Cond.instanceMethod yX2_solve, Cond.selects RX2 yX2_solve yX2_solve, Cond.initialized RX2, Cond.code yX2_solve cX2_solve 3 (some .int), Cond.fieldLink RX2 11 "PlusCodes$Halver" "rows" "[[I", Cond.fieldLink RX2 16 "PlusCodes$Code" "length" "I", Cond.fieldLink RX2 22 "PlusCodes$Code" "places" "I", Cond.methodLink RX2 25 arraycopyName]
def wsX8_carryOutAll_r11 : List Cond := [Cond.native arraycopyName, Cond.static arraycopyName, Cond.initialized "java/lang/System", Cond.fieldLink RX2 31 "PlusCodes$Code" "order" "I", Cond.methodLink RX2 34 yX2_wordFor, Cond.instanceMethod yX2_wordFor, Cond.selects RX2 yX2_wordFor yX2_wordFor, Cond.code yX2_wordFor cX2_wordFor 5 (some .int), Cond.methodLink RX2 38 yX2_allAlike, Cond.instanceMethod yX2_allAlike, Cond.selects RX2 yX2_allAlike yX2_allAlike, Cond.code yX2_allAlike cX2_allAlike 5 (some .int), Cond.methodLink RX2 42 yX2_eachAlone, Cond.instanceMethod yX2_eachAlone, Cond.selects RX2 yX2_eachAlone yX2_eachAlone, Cond.code yX2_eachAlone cX2_eachAlone 4 (some .int), Cond.methodLink RX2 45 yX2_putLesser, Cond.instanceMethod yX2_putLesser, Cond.selects RX2 yX2_putLesser yX2_putLesser, Cond.code yX2_putLesser cX2_putLesser 7 none, Cond.methodLink RX2 56 Lib.Math.abs.name, Cond.methodLink RX2 61 Lib.Math.min.name, Cond.methodLink RX2 49 yX2_putTogether, Cond.instanceMethod yX2_putTogether]
def wsX8_carryOutAll_r12 : List Cond := [Cond.selects RX2 yX2_putTogether yX2_putTogether, Cond.code yX2_putTogether cX2_putTogether 6 none, Cond.methodLink RX8 272 yX6_isAtEnd]
def wsX8_carryOutAll : List Cond := .code yX8_carryOutAll cX8_carryOutAll 2 (some .int) :: ((wsX8_carryOutAll_r1 ++ (wsX8_carryOutAll_r2 ++ (wsX8_carryOutAll_r3 ++ (wsX8_carryOutAll_r4 ++ (wsX8_carryOutAll_r5 ++ (wsX8_carryOutAll_r6 ++ (wsX8_carryOutAll_r7 ++ (wsX8_carryOutAll_r8 ++ (wsX8_carryOutAll_r9 ++ (wsX8_carryOutAll_r10 ++ (wsX8_carryOutAll_r11 ++ wsX8_carryOutAll_r12))))))))))) ++ wsX80 ++ wsX60 ++ wsX50 ++ wsX10 ++ wsX00 ++ wsX20)
def wsX8_does_r1 : List Cond := [Cond.fieldLink RX8 16 "PlusCodes" "before" "LPlusCodes$State;", Cond.fieldLink RX8 10 "PlusCodes" "live" "LPlusCodes$State;", Cond.fieldLink RX8 29 "PlusCodes" "text" "LPlusCodes$Text;", Cond.fieldLink RX8 237 "PlusCodes$Text" "fault" "I", Cond.fieldLink RX8 22 "PlusCodes" "past" "LPlusCodes$Past;", Cond.methodLink RX8 231 yX5_copy, Cond.instanceMethod yX5_copy, Cond.selects RX5 yX5_copy yX5_copy, Cond.initialized RX5, Cond.code yX5_copy cX5_copy 2 none, Cond.fieldLink RX5 12 "PlusCodes$State" "code" "LPlusCodes$Code;", Cond.fieldLink RX5 36 "PlusCodes$Code" "order" "I", Cond.fieldLink RX5 39 "PlusCodes$Code" "length" "I", Cond.fieldLink RX5 26 "PlusCodes$State" "word" "I", Cond.fieldLink RX5 18 "PlusCodes$State" "soft" "[I", Cond.methodLink RX5 42 arraycopyName, Cond.native arraycopyName, Cond.static arraycopyName, Cond.initialized "java/lang/System", Cond.methodLink RX5 22 yX1_become, Cond.instanceMethod yX1_become, Cond.selects RX1 yX1_become yX1_become, Cond.initialized RX1, Cond.code yX1_become cX1_become 7 none]
def wsX8_does_r2 : List Cond := [Cond.fieldLink RX1 15 "PlusCodes$Code" "order" "I", Cond.fieldLink RX1 19 "PlusCodes$Code" "length" "I", Cond.fieldLink RX1 22 "PlusCodes$Code" "places" "I", Cond.fieldLink RX1 25 "PlusCodes$Code" "count" "I", Cond.fieldLink RX1 9 "PlusCodes$Code" "terms" "[I", Cond.methodLink RX1 31 yJ6_bitCount_0f7a4, Cond.static yJ6_bitCount_0f7a4, Cond.initialized RJ6, Cond.code yJ6_bitCount_0f7a4 cJ6_bitCount_0f7a4 1 (some .int), Cond.constant RJ6 265 (1431655765), Cond.constant RJ6 266 (858993459), Cond.constant RJ6 267 (252645135), Cond.methodLink RX8 234 yX8_carryOutAll, Cond.instanceMethod yX8_carryOutAll, Cond.selects RX8 yX8_carryOutAll yX8_carryOutAll, Cond.initialized RX8, Cond.code yX8_carryOutAll cX8_carryOutAll 2 (some .int), Cond.methodLink RX8 266 yX6_rewind, Cond.instanceMethod yX6_rewind, Cond.selects RX6 yX6_rewind yX6_rewind, Cond.initialized RX6, Cond.code yX6_rewind cX6_rewind 1 none, Cond.fieldLink RX6 22 "PlusCodes$Text" "next" "I", Cond.fieldLink RX6 15 "PlusCodes$Text" "fault" "I"]
def wsX8_does_r3 : List Cond := [Cond.methodLink RX8 269 yX8_carryOutNext, Cond.instanceMethod yX8_carryOutNext, Cond.selects RX8 yX8_carryOutNext yX8_carryOutNext, Cond.code yX8_carryOutNext cX8_carryOutNext 1 none, Cond.fieldLink RX8 73 "PlusCodes$State" "code" "LPlusCodes$Code;", Cond.fieldLink RX8 103 "PlusCodes$State" "word" "I", Cond.fieldLink RX8 93 "PlusCodes$Code" "places" "I", Cond.fieldLink RX8 43 "PlusCodes" "halver" "LPlusCodes$Halver;", Cond.fieldLink RX8 187 "PlusCodes$State" "soft" "[I", Cond.methodLink RX8 277 yX6_readOneOf, Cond.instanceMethod yX6_readOneOf, Cond.selects RX6 yX6_readOneOf yX6_readOneOf, Cond.code yX6_readOneOf cX6_readOneOf 2 (some .int), Cond.fieldLink RX6 9 "PlusCodes$Text" "bytes" "[B", Cond.methodLink RX6 28 yX6_isAtEnd, Cond.instanceMethod yX6_isAtEnd, Cond.selects RX6 yX6_isAtEnd yX6_isAtEnd, Cond.code yX6_isAtEnd cX6_isAtEnd 1 (some .boolean), Cond.fieldLink RX6 19 "PlusCodes$Text" "size" "I", Cond.methodLink RX6 25 yX6_skipBlanks, Cond.instanceMethod yX6_skipBlanks, Cond.selects RX6 yX6_skipBlanks yX6_skipBlanks, Cond.code yX6_skipBlanks cX6_skipBlanks 1 none, Cond.methodLink RX6 32 yJ0_indexOf_0f7a4]
def wsX8_does_r4 : List Cond := [Cond.instanceMethod yJ0_indexOf_0f7a4, Cond.selects RJ0 yJ0_indexOf_0f7a4 yJ0_indexOf_0f7a4, Cond.initialized RJ0, Cond.code yJ0_indexOf_0f7a4 cJ0_indexOf_0f7a4 2 (some .int), Cond.methodLink RJ0 633 yJ0_indexOf_7cf53, Cond.instanceMethod yJ0_indexOf_7cf53, Cond.selects RJ0 yJ0_indexOf_7cf53 yJ0_indexOf_7cf53, Cond.code yJ0_indexOf_7cf53 cJ0_indexOf_7cf53 3 (some .int), Cond.fieldLink RJ0 9 "java/lang/String" "value" "[B", Cond.methodLink RJ0 492 yJ0_isLatin1_aae02, Cond.instanceMethod yJ0_isLatin1_aae02, Cond.selects RJ0 yJ0_isLatin1_aae02 yJ0_isLatin1_aae02, Cond.code yJ0_isLatin1_aae02 cJ0_isLatin1_aae02 1 (some .boolean), Cond.fieldLink RJ0 38 "java/lang/String" "COMPACT_STRINGS" "Z", Cond.fieldLink RJ0 15 "java/lang/String" "coder" "B", Cond.methodLink RJ0 505 yJ0_length_8abf5, Cond.instanceMethod yJ0_length_8abf5, Cond.selects RJ0 yJ0_length_8abf5 yJ0_length_8abf5, Cond.code yJ0_length_8abf5 cJ0_length_8abf5 1 (some .int), Cond.methodLink RJ0 335 yJ0_coder_7d493, Cond.instanceMethod yJ0_coder_7d493, Cond.selects RJ0 yJ0_coder_7d493 yJ0_coder_7d493, Cond.code yJ0_coder_7d493 cJ0_coder_7d493 1 (some .byte), Cond.methodLink RJ0 637 yJ1_indexOf_4cfef]
def wsX8_does_r5 : List Cond := [Cond.static yJ1_indexOf_4cfef, Cond.initialized RJ1, Cond.code yJ1_indexOf_4cfef cJ1_indexOf_4cfef 4 (some .int), Cond.methodLink RJ1 92 Lib.Math.max.name, Cond.static Lib.Math.max.name, Cond.initialized "java/lang/Math", Cond.code Lib.Math.max.name Lib.Math.max.code 2 (some .int), Cond.methodLink RJ1 38 Lib.Math.min.name, Cond.static Lib.Math.min.name, Cond.code Lib.Math.min.name Lib.Math.min.code 2 (some .int), Cond.methodLink RJ1 88 yJ1_canEncode_9a6ad, Cond.static yJ1_canEncode_9a6ad, Cond.code yJ1_canEncode_9a6ad cJ1_canEncode_9a6ad 1 (some .boolean), Cond.methodLink RJ1 95 yJ1_indexOfChar_4cfef, Cond.static yJ1_indexOfChar_4cfef, Cond.code yJ1_indexOfChar_4cfef cJ1_indexOfChar_4cfef 6 (some .int), Cond.methodLink RJ0 640 yJ2_indexOf_4cfef, Cond.static yJ2_indexOf_4cfef, Cond.initialized RJ2, Cond.code yJ2_indexOf_4cfef cJ2_indexOf_4cfef 4 (some .int), Cond.methodLink RJ2 224 Lib.Math.max.name, Cond.methodLink RJ2 183 Lib.Math.min.name, Cond.constant RJ2 227 (65536), Cond.methodLink RJ2 228 yJ2_indexOfChar_4cfef]
def wsX8_does_r6 : List Cond := [Cond.static yJ2_indexOfChar_4cfef, Cond.code yJ2_indexOfChar_4cfef cJ2_indexOfChar_4cfef 4 (some .int), Cond.methodLink RJ2 96 yJ2_checkBoundsBeginEnd_d044e, Cond.static yJ2_checkBoundsBeginEnd_d044e, Cond.code yJ2_checkBoundsBeginEnd_d044e cJ2_checkBoundsBeginEnd_d044e 3 none, Cond.methodLink RJ2 48 yJ2_length_9d52b, Cond.static yJ2_length_9d52b, Cond.code yJ2_length_9d52b cJ2_length_9d52b 1 (some .int), Cond.methodLink RJ2 241 yJ0_checkBoundsBeginEnd_23922, Cond.static yJ0_checkBoundsBeginEnd_23922, Cond.code yJ0_checkBoundsBeginEnd_23922 cJ0_checkBoundsBeginEnd_23922 3 none, Cond.fieldLink RJ0 1053 "jdk/internal/util/Preconditions" "SIOOBE_FORMATTER" "Ljava/util/function/BiFunction;", Cond.methodLink RJ0 1062 yJ3_checkFromToIndex_8c36e, Cond.static yJ3_checkFromToIndex_8c36e, Cond.initialized RJ3, Cond.code yJ3_checkFromToIndex_8c36e cJ3_checkFromToIndex_8c36e 4 (some .int), Cond.methodLink RJ2 244 yJ2_indexOfCharUnsafe_4cfef, Cond.static yJ2_indexOfCharUnsafe_4cfef, Cond.code yJ2_indexOfCharUnsafe_4cfef cJ2_indexOfCharUnsafe_4cfef 5 (some .int), Cond.methodLink RJ2 71 yJ2_getChar_3b067, Cond.static yJ2_getChar_3b067, Cond.code yJ2_getChar_3b067 cJ2_getChar_3b067 2 (some .char), Cond.fieldLink RJ2 44 "java/lang/StringUTF16" "$assertionsDisabled" "Z", Cond.fieldLink RJ2 59 "java/lang/StringUTF16" "HI_BYTE_SHIFT" "I"]
def wsX8_does_r7 : List Cond := [Cond.fieldLink RJ2 63 "java/lang/StringUTF16" "LO_BYTE_SHIFT" "I", Cond.methodLink RJ2 232 yJ2_indexOfSupplementary_4cfef, Cond.static yJ2_indexOfSupplementary_4cfef, Cond.code yJ2_indexOfSupplementary_4cfef cJ2_indexOfSupplementary_4cfef 7 (some .int), Cond.methodLink RJ2 164 yJ11_isValidCodePoint_9a6ad, Cond.static yJ11_isValidCodePoint_9a6ad, Cond.initialized RJ11, Cond.code yJ11_isValidCodePoint_9a6ad cJ11_isValidCodePoint_9a6ad 2 (some .boolean), Cond.methodLink RJ2 157 yJ11_highSurrogate_5068e, Cond.static yJ11_highSurrogate_5068e, Cond.code yJ11_highSurrogate_5068e cJ11_highSurrogate_5068e 1 (some .char), Cond.constant RJ11 110 (55232), Cond.methodLink RJ2 161 yJ11_lowSurrogate_5068e, Cond.static yJ11_lowSurrogate_5068e, Cond.code yJ11_lowSurrogate_5068e cJ11_lowSurrogate_5068e 1 (some .char), Cond.constant RJ11 76 (56320), Cond.methodLink RX6 38 yX6_failAt, Cond.instanceMethod yX6_failAt, Cond.selects RX6 yX6_failAt yX6_failAt, Cond.code yX6_failAt cX6_failAt 2 none, Cond.methodLink RX8 281 yX8_orderCode, Cond.instanceMethod yX8_orderCode, Cond.selects RX8 yX8_orderCode yX8_orderCode, Cond.code yX8_orderCode cX8_orderCode 3 none]
def wsX8_does_r8 : List Cond := [Cond.methodLink RX8 287 yX6_readNumber, Cond.instanceMethod yX6_readNumber, Cond.selects RX6 yX6_readNumber yX6_readNumber, Cond.code yX6_readNumber cX6_readNumber 9 (some .int), Cond.methodLink RX8 61 yX5_start, Cond.instanceMethod yX5_start, Cond.selects RX5 yX5_start yX5_start, Cond.code yX5_start cX5_start 3 none, Cond.methodLink RX5 30 yJ7_fill_53178, Cond.static yJ7_fill_53178, Cond.initialized RJ7, Cond.code yJ7_fill_53178 cJ7_fill_53178 4 none, Cond.methodLink RX8 106 yX1_allTerms, Cond.instanceMethod yX1_allTerms, Cond.selects RX1 yX1_allTerms yX1_allTerms, Cond.code yX1_allTerms cX1_allTerms 1 (some .int), Cond.static yX8_lowest, Cond.code yX8_lowest cX8_lowest 1 (some .int), Cond.methodLink RX8 284 yX6_readHex, Cond.instanceMethod yX6_readHex, Cond.selects RX6 yX6_readHex yX6_readHex, Cond.code yX6_readHex cX6_readHex 5 (some .int), Cond.methodLink RX6 42 yX6_hexValue, Cond.static yX6_hexValue]
def wsX8_does_r9 : List Cond := [Cond.code yX6_hexValue cX6_hexValue 1 (some .int), Cond.methodLink RX8 109 yX1_wordOf, Cond.instanceMethod yX1_wordOf, Cond.selects RX1 yX1_wordOf yX1_wordOf, Cond.code yX1_wordOf cX1_wordOf 4 (some .int), Cond.methodLink RX1 43 yX1_summed, Cond.instanceMethod yX1_summed, Cond.selects RX1 yX1_summed yX1_summed, Cond.code yX1_summed cX1_summed 4 (some .int), Cond.methodLink RX8 100 yX1_allPlaces, Cond.instanceMethod yX1_allPlaces, Cond.selects RX1 yX1_allPlaces yX1_allPlaces, Cond.code yX1_allPlaces cX1_allPlaces 1 (some .int), Cond.methodLink RX8 290 yX8_orderVotes, Cond.instanceMethod yX8_orderVotes, Cond.selects RX8 yX8_orderVotes yX8_orderVotes, Cond.code yX8_orderVotes cX8_orderVotes 1 none, Cond.fieldLink RX8 36 "PlusCodes" "ballot" "LPlusCodes$Ballot;", Cond.fieldLink RX8 148 "PlusCodes$Ballot" "mended" "I", Cond.methodLink RX8 141 yX0_hold, Cond.instanceMethod yX0_hold, Cond.selects RX0 yX0_hold yX0_hold, Cond.initialized RX0, Cond.code yX0_hold cX0_hold 4 none]
def wsX8_does_r10 : List Cond := [Cond.fieldLink RX0 9 "PlusCodes$Ballot" "message" "I", Cond.fieldLink RX0 15 "PlusCodes$Ballot" "mended" "I", Cond.fieldLink RX0 18 "PlusCodes$Ballot" "ties" "I", Cond.fieldLink RX0 21 "PlusCodes$Ballot" "closest" "I", Cond.fieldLink RX0 24 "PlusCodes$Ballot" "margin" "I", Cond.fieldLink RX0 27 "PlusCodes$Code" "order" "I", Cond.methodLink RX0 32 yX0_wordVoted, Cond.instanceMethod yX0_wordVoted, Cond.selects RX0 yX0_wordVoted yX0_wordVoted, Cond.code yX0_wordVoted cX0_wordVoted 7 (some .int), Cond.fieldLink RX0 36 "PlusCodes$Code" "count" "I", Cond.fieldLink RX0 39 "PlusCodes$Code" "terms" "[I", Cond.methodLink RX0 43 yJ6_bitCount_0f7a4, Cond.methodLink RX0 49 yX0_isCarried, Cond.instanceMethod yX0_isCarried, Cond.selects RX0 yX0_isCarried yX0_isCarried, Cond.code yX0_isCarried cX0_isCarried 7 (some .boolean), Cond.fieldLink RX0 59 "PlusCodes$Code" "places" "I", Cond.methodLink RX0 66 Lib.Math.abs.name, Cond.static Lib.Math.abs.name, Cond.code Lib.Math.abs.name Lib.Math.abs.code 1 (some .int), Cond.static yX8_partsOf, Cond.code yX8_partsOf cX8_partsOf 3 (some .int), Cond.static yX8_isOdd]
def wsX8_does_r11 : List Cond := [Cond.code yX8_isOdd cX8_isOdd 1 (some .boolean), Cond.methodLink RX8 127 yJ6_bitCount_0f7a4, Cond.methodLink RX0 53 yX1_summed, Cond.methodLink RX8 293 yX8_orderSoft, Cond.instanceMethod yX8_orderSoft, Cond.selects RX8 yX8_orderSoft yX8_orderSoft, Cond.code yX8_orderSoft cX8_orderSoft 2 none, Cond.methodLink RX8 190 yX2_solve, Cond.instanceMethod yX2_solve, Cond.selects RX2 yX2_solve yX2_solve, Cond.initialized RX2, Cond.code yX2_solve cX2_solve 3 (some .int), Cond.fieldLink RX2 11 "PlusCodes$Halver" "rows" "[[I", Cond.fieldLink RX2 16 "PlusCodes$Code" "length" "I", Cond.fieldLink RX2 22 "PlusCodes$Code" "places" "I", Cond.methodLink RX2 25 arraycopyName, Cond.fieldLink RX2 31 "PlusCodes$Code" "order" "I", Cond.methodLink RX2 34 yX2_wordFor, Cond.instanceMethod yX2_wordFor, Cond.selects RX2 yX2_wordFor yX2_wordFor, Cond.code yX2_wordFor cX2_wordFor 5 (some .int), Cond.methodLink RX2 38 yX2_allAlike, Cond.instanceMethod yX2_allAlike, Cond.selects RX2 yX2_allAlike yX2_allAlike]
def wsX8_does_r12 : List Cond := [Cond.code yX2_allAlike cX2_allAlike 5 (some .int), Cond.methodLink RX2 42 yX2_eachAlone, Cond.instanceMethod yX2_eachAlone, Cond.selects RX2 yX2_eachAlone yX2_eachAlone, Cond.code yX2_eachAlone cX2_eachAlone 4 (some .int), Cond.methodLink RX2 45 yX2_putLesser, Cond.instanceMethod yX2_putLesser, Cond.selects RX2 yX2_putLesser yX2_putLesser, Cond.code yX2_putLesser cX2_putLesser 7 none, Cond.methodLink RX2 56 Lib.Math.abs.name, Cond.methodLink RX2 61 Lib.Math.min.name, Cond.methodLink RX2 49 yX2_putTogether, Cond.instanceMethod yX2_putTogether, Cond.selects RX2 yX2_putTogether yX2_putTogether, Cond.code yX2_putTogether cX2_putTogether 6 none, Cond.methodLink RX8 272 yX6_isAtEnd, Cond.methodLink RX8 69 yX4_keep, Cond.instanceMethod yX4_keep, Cond.selects RX4 yX4_keep yX4_keep, Cond.initialized RX4, Cond.code yX4_keep cX4_keep 2 none, Cond.fieldLink RX4 11 "PlusCodes$Past" "ring" "[LPlusCodes$State;", Cond.fieldLink RX4 18 "PlusCodes$Past" "next" "I", Cond.fieldLink RX4 26 "PlusCodes$Past" "count" "I"]
def wsX8_does_r13 : List Cond := [Cond.methodLink RX4 29 Lib.Math.min.name, Cond.methodLink RX4 22 yX5_copy]
def wsX8_does : List Cond := .code yX8_does cX8_does 2 (some .int) :: ((wsX8_does_r1 ++ (wsX8_does_r2 ++ (wsX8_does_r3 ++ (wsX8_does_r4 ++ (wsX8_does_r5 ++ (wsX8_does_r6 ++ (wsX8_does_r7 ++ (wsX8_does_r8 ++ (wsX8_does_r9 ++ (wsX8_does_r10 ++ (wsX8_does_r11 ++ (wsX8_does_r12 ++ wsX8_does_r13)))))))))))) ++ wsX80 ++ wsX60 ++ wsX50 ++ wsX10 ++ wsX00 ++ wsX20 ++ wsX40)
def wsX8_back_r1 : List Cond := [Cond.fieldLink RX8 22 "PlusCodes" "past" "LPlusCodes$Past;", Cond.fieldLink RX8 240 "PlusCodes$Past" "count" "I", Cond.fieldLink RX8 10 "PlusCodes" "live" "LPlusCodes$State;", Cond.methodLink RX8 172 yX8_refuseNo, Cond.instanceMethod yX8_refuseNo, Cond.selects RX8 yX8_refuseNo yX8_refuseNo, Cond.initialized RX8, Cond.code yX8_refuseNo cX8_refuseNo 2 (some .int), Cond.fieldLink RX8 247 "PlusCodes" "noTimes" "I", Cond.methodLink RX8 241 yX4_giveBack, Cond.instanceMethod yX4_giveBack, Cond.selects RX4 yX4_giveBack yX4_giveBack, Cond.initialized RX4, Cond.code yX4_giveBack cX4_giveBack 2 none, Cond.fieldLink RX4 26 "PlusCodes$Past" "count" "I", Cond.fieldLink RX4 18 "PlusCodes$Past" "next" "I", Cond.fieldLink RX4 11 "PlusCodes$Past" "ring" "[LPlusCodes$State;", Cond.methodLink RX4 22 yX5_copy, Cond.instanceMethod yX5_copy, Cond.selects RX5 yX5_copy yX5_copy, Cond.initialized RX5, Cond.code yX5_copy cX5_copy 2 none, Cond.fieldLink RX5 12 "PlusCodes$State" "code" "LPlusCodes$Code;", Cond.fieldLink RX5 36 "PlusCodes$Code" "order" "I"]
def wsX8_back_r2 : List Cond := [Cond.fieldLink RX5 39 "PlusCodes$Code" "length" "I", Cond.fieldLink RX5 26 "PlusCodes$State" "word" "I", Cond.fieldLink RX5 18 "PlusCodes$State" "soft" "[I", Cond.methodLink RX5 42 arraycopyName, Cond.native arraycopyName, Cond.static arraycopyName, Cond.initialized "java/lang/System", Cond.methodLink RX5 22 yX1_become, Cond.instanceMethod yX1_become, Cond.selects RX1 yX1_become yX1_become, Cond.initialized RX1, Cond.code yX1_become cX1_become 7 none, Cond.fieldLink RX1 15 "PlusCodes$Code" "order" "I", Cond.fieldLink RX1 19 "PlusCodes$Code" "length" "I", Cond.fieldLink RX1 22 "PlusCodes$Code" "places" "I", Cond.fieldLink RX1 25 "PlusCodes$Code" "count" "I", Cond.fieldLink RX1 9 "PlusCodes$Code" "terms" "[I", Cond.methodLink RX1 31 yJ6_bitCount_0f7a4, Cond.static yJ6_bitCount_0f7a4, Cond.initialized RJ6, Cond.code yJ6_bitCount_0f7a4 cJ6_bitCount_0f7a4 1 (some .int), Cond.constant RJ6 265 (1431655765), Cond.constant RJ6 266 (858993459), Cond.constant RJ6 267 (252645135)]
def wsX8_back : List Cond := .code yX8_back cX8_back 1 (some .int) :: ((wsX8_back_r1 ++ wsX8_back_r2) ++ wsX80 ++ wsX40 ++ wsX50 ++ wsX10)
def wsX8_told : List Cond := .code yX8_told cX8_told 2 (some .int) :: ([.fieldLink RX8 244 "PlusCodes" "badTimes" "I", .fieldLink RX8 247 "PlusCodes" "noTimes" "I", .fieldLink RX8 224 "PlusCodes" "fullTimes" "I", .fieldLink RX8 29 "PlusCodes" "text" "LPlusCodes$Text;", .fieldLink RX8 221 "PlusCodes$Text" "size" "I", .fieldLink RX8 22 "PlusCodes" "past" "LPlusCodes$Past;", .fieldLink RX8 240 "PlusCodes$Past" "count" "I", .methodLink RX8 65 yX8_refuseBad, .instanceMethod yX8_refuseBad, .selects RX8 yX8_refuseBad yX8_refuseBad, .initialized RX8, .code yX8_refuseBad cX8_refuseBad 2 (some .int)] ++ wsX80 ++ wsX60 ++ wsX40)
def wsX8_digest_r1 : List Cond := [Cond.constantLong RX8 250 (2111), Cond.constantLong RX8 252 (31), Cond.fieldLink RX8 10 "PlusCodes" "live" "LPlusCodes$State;", Cond.fieldLink RX8 73 "PlusCodes$State" "code" "LPlusCodes$Code;", Cond.fieldLink RX8 83 "PlusCodes$Code" "order" "I", Cond.fieldLink RX8 86 "PlusCodes$Code" "length" "I", Cond.fieldLink RX8 103 "PlusCodes$State" "word" "I", Cond.fieldLink RX8 93 "PlusCodes$Code" "places" "I", Cond.fieldLink RX8 187 "PlusCodes$State" "soft" "[I", Cond.methodLink RX8 254 yX8_told, Cond.instanceMethod yX8_told, Cond.selects RX8 yX8_told yX8_told, Cond.initialized RX8, Cond.code yX8_told cX8_told 2 (some .int), Cond.fieldLink RX8 244 "PlusCodes" "badTimes" "I", Cond.fieldLink RX8 247 "PlusCodes" "noTimes" "I", Cond.fieldLink RX8 224 "PlusCodes" "fullTimes" "I", Cond.fieldLink RX8 29 "PlusCodes" "text" "LPlusCodes$Text;", Cond.fieldLink RX8 221 "PlusCodes$Text" "size" "I", Cond.fieldLink RX8 22 "PlusCodes" "past" "LPlusCodes$Past;", Cond.fieldLink RX8 240 "PlusCodes$Past" "count" "I", Cond.methodLink RX8 65 yX8_refuseBad, Cond.instanceMethod yX8_refuseBad, Cond.selects RX8 yX8_refuseBad yX8_refuseBad]
def wsX8_digest_r2 : List Cond := [Cond.code yX8_refuseBad cX8_refuseBad 2 (some .int), Cond.methodLink RX8 257 yX8_votes, Cond.instanceMethod yX8_votes, Cond.selects RX8 yX8_votes yX8_votes, Cond.code yX8_votes cX8_votes 1 (some .int), Cond.fieldLink RX8 36 "PlusCodes" "ballot" "LPlusCodes$Ballot;", Cond.fieldLink RX8 145 "PlusCodes$Ballot" "message" "I", Cond.methodLink RX8 141 yX0_hold, Cond.instanceMethod yX0_hold, Cond.selects RX0 yX0_hold yX0_hold, Cond.initialized RX0, Cond.code yX0_hold cX0_hold 4 none, Cond.fieldLink RX0 9 "PlusCodes$Ballot" "message" "I", Cond.fieldLink RX0 15 "PlusCodes$Ballot" "mended" "I", Cond.fieldLink RX0 18 "PlusCodes$Ballot" "ties" "I", Cond.fieldLink RX0 21 "PlusCodes$Ballot" "closest" "I", Cond.fieldLink RX0 24 "PlusCodes$Ballot" "margin" "I", Cond.fieldLink RX0 27 "PlusCodes$Code" "order" "I", Cond.methodLink RX0 32 yX0_wordVoted, Cond.instanceMethod yX0_wordVoted, Cond.selects RX0 yX0_wordVoted yX0_wordVoted, Cond.code yX0_wordVoted cX0_wordVoted 7 (some .int), Cond.fieldLink RX0 36 "PlusCodes$Code" "count" "I", Cond.fieldLink RX0 39 "PlusCodes$Code" "terms" "[I"]
def wsX8_digest_r3 : List Cond := [Cond.methodLink RX0 43 yJ6_bitCount_0f7a4, Cond.static yJ6_bitCount_0f7a4, Cond.initialized RJ6, Cond.code yJ6_bitCount_0f7a4 cJ6_bitCount_0f7a4 1 (some .int), Cond.constant RJ6 265 (1431655765), Cond.constant RJ6 266 (858993459), Cond.constant RJ6 267 (252645135), Cond.methodLink RX0 49 yX0_isCarried, Cond.instanceMethod yX0_isCarried, Cond.selects RX0 yX0_isCarried yX0_isCarried, Cond.code yX0_isCarried cX0_isCarried 7 (some .boolean), Cond.fieldLink RX0 59 "PlusCodes$Code" "places" "I", Cond.methodLink RX0 66 Lib.Math.abs.name, Cond.static Lib.Math.abs.name, Cond.initialized "java/lang/Math", Cond.code Lib.Math.abs.name Lib.Math.abs.code 1 (some .int), Cond.static yX8_partsOf, Cond.code yX8_partsOf cX8_partsOf 3 (some .int), Cond.static yX8_isOdd, Cond.code yX8_isOdd cX8_isOdd 1 (some .boolean), Cond.methodLink RX8 127 yJ6_bitCount_0f7a4, Cond.methodLink RX0 53 yX1_summed, Cond.instanceMethod yX1_summed, Cond.selects RX1 yX1_summed yX1_summed]
def wsX8_digest_r4 : List Cond := [Cond.initialized RX1, Cond.code yX1_summed cX1_summed 4 (some .int), Cond.fieldLink RX1 19 "PlusCodes$Code" "length" "I", Cond.methodLink RX8 202 yX8_halves, Cond.instanceMethod yX8_halves, Cond.selects RX8 yX8_halves yX8_halves, Cond.code yX8_halves cX8_halves 1 (some .int), Cond.fieldLink RX8 43 "PlusCodes" "halver" "LPlusCodes$Halver;", Cond.methodLink RX8 190 yX2_solve, Cond.instanceMethod yX2_solve, Cond.selects RX2 yX2_solve yX2_solve, Cond.initialized RX2, Cond.code yX2_solve cX2_solve 3 (some .int), Cond.fieldLink RX2 11 "PlusCodes$Halver" "rows" "[[I", Cond.fieldLink RX2 16 "PlusCodes$Code" "length" "I", Cond.fieldLink RX2 22 "PlusCodes$Code" "places" "I", Cond.methodLink RX2 25 arraycopyName, Cond.native arraycopyName, Cond.static arraycopyName, Cond.initialized "java/lang/System", Cond.fieldLink RX2 31 "PlusCodes$Code" "order" "I", Cond.methodLink RX2 34 yX2_wordFor, Cond.instanceMethod yX2_wordFor, Cond.selects RX2 yX2_wordFor yX2_wordFor]
def wsX8_digest_r5 : List Cond := [Cond.code yX2_wordFor cX2_wordFor 5 (some .int), Cond.methodLink RX2 38 yX2_allAlike, Cond.instanceMethod yX2_allAlike, Cond.selects RX2 yX2_allAlike yX2_allAlike, Cond.code yX2_allAlike cX2_allAlike 5 (some .int), Cond.static yX8_lowest, Cond.code yX8_lowest cX8_lowest 1 (some .int), Cond.methodLink RX2 42 yX2_eachAlone, Cond.instanceMethod yX2_eachAlone, Cond.selects RX2 yX2_eachAlone yX2_eachAlone, Cond.code yX2_eachAlone cX2_eachAlone 4 (some .int), Cond.methodLink RX2 45 yX2_putLesser, Cond.instanceMethod yX2_putLesser, Cond.selects RX2 yX2_putLesser yX2_putLesser, Cond.code yX2_putLesser cX2_putLesser 7 none, Cond.methodLink RX2 56 Lib.Math.abs.name, Cond.methodLink RX2 61 Lib.Math.min.name, Cond.static Lib.Math.min.name, Cond.code Lib.Math.min.name Lib.Math.min.code 2 (some .int), Cond.methodLink RX2 49 yX2_putTogether, Cond.instanceMethod yX2_putTogether, Cond.selects RX2 yX2_putTogether yX2_putTogether, Cond.code yX2_putTogether cX2_putTogether 6 none]
def wsX8_digest : List Cond := .code yX8_digest cX8_digest 4 (some .long) :: ((wsX8_digest_r1 ++ (wsX8_digest_r2 ++ (wsX8_digest_r3 ++ (wsX8_digest_r4 ++ wsX8_digest_r5)))) ++ wsX80 ++ wsX50 ++ wsX10 ++ wsX60 ++ wsX40 ++ wsX00 ++ wsX20)
def wsX9_init : List Cond := .code yX9_init cX9_init 1 none :: ([.methodLink RX9 1 objectInit, .instanceMethod objectInit, .code objectInit ⟨#[0xb1]⟩ 1 none, .arrayClass .int, .fieldLink RX9 7 "PlusCodesModel" "all" "[I", .fieldLink RX9 13 "PlusCodesModel" "past" "[I", .fieldLink RX9 16 "PlusCodesModel" "refused" "[I", .fieldLink RX9 19 "PlusCodesModel" "terms" "[I", .fieldLink RX9 22 "PlusCodesModel" "basis" "[I", .fieldLink RX9 25 "PlusCodesModel" "numbers" "[I", .fieldLink RX9 28 "PlusCodesModel" "orderAt" "[I", .fieldLink RX9 31 "PlusCodesModel" "lengthAt" "[I", .fieldLink RX9 34 "PlusCodesModel" "phase" "[I", .fieldLink RX9 37 "PlusCodesModel" "upon" "[I", .fieldLink RX9 40 "PlusCodesModel" "text" "[I", .fieldLink RX9 43 "PlusCodesModel" "aside" "[I", .fieldLink RX9 46 "PlusCodesModel" "behind" "[I"] ++ wsX90)
def wsX9_in : List Cond := .code yX9_in cX9_in 6 (some .boolean) :: ([])
def wsX9_bad : List Cond := .code yX9_bad cX9_bad 2 (some .int) :: ([.fieldLink RX9 16 "PlusCodesModel" "refused" "[I"] ++ wsX90)
def wsX9_no : List Cond := .code yX9_no cX9_no 2 (some .int) :: ([.fieldLink RX9 16 "PlusCodesModel" "refused" "[I"] ++ wsX90)
def wsX9_full : List Cond := .code yX9_full cX9_full 1 (some .int) :: ([.fieldLink RX9 16 "PlusCodesModel" "refused" "[I"] ++ wsX90)
def wsX9_has : List Cond := .code yX9_has cX9_has 2 (some .boolean) :: ([])
def wsX9_bits : List Cond := .code yX9_bits cX9_bits 3 (some .int) :: ([])
def wsX9_order : List Cond := .code yX9_order cX9_order 1 (some .int) :: ([.fieldLink RX9 7 "PlusCodesModel" "all" "[I"] ++ wsX90)
def wsX9_length : List Cond := .code yX9_length cX9_length 1 (some .int) :: ([.fieldLink RX9 7 "PlusCodesModel" "all" "[I"] ++ wsX90)
def wsX9_places : List Cond := .code yX9_places cX9_places 1 (some .int) :: ([.methodLink RX9 49 yX9_length, .instanceMethod yX9_length, .selects RX9 yX9_length yX9_length, .initialized RX9, .code yX9_length cX9_length 1 (some .int), .fieldLink RX9 7 "PlusCodesModel" "all" "[I"] ++ wsX90)
def wsX9_theWord : List Cond := .code yX9_theWord cX9_theWord 1 (some .int) :: ([.fieldLink RX9 7 "PlusCodesModel" "all" "[I"] ++ wsX90)
def wsX9_allOf : List Cond := .code yX9_allOf cX9_allOf 1 (some .int) :: ([])
def wsX9_keep : List Cond := .code yX9_keep cX9_keep 2 none :: ([.fieldLink RX9 53 "PlusCodesModel" "states" "I", .fieldLink RX9 13 "PlusCodesModel" "past" "[I", .fieldLink RX9 7 "PlusCodesModel" "all" "[I"] ++ wsX90)
def wsX9_lays : List Cond := .code yX9_lays cX9_lays 4 none :: ([.fieldLink RX9 57 "PlusCodesModel" "termsMany" "I", .fieldLink RX9 19 "PlusCodesModel" "terms" "[I", .methodLink RX9 60 yX9_places, .instanceMethod yX9_places, .selects RX9 yX9_places yX9_places, .initialized RX9, .code yX9_places cX9_places 1 (some .int), .methodLink RX9 49 yX9_length, .instanceMethod yX9_length, .selects RX9 yX9_length yX9_length, .code yX9_length cX9_length 1 (some .int), .fieldLink RX9 7 "PlusCodesModel" "all" "[I", .methodLink RX9 63 yX9_bits, .static yX9_bits, .code yX9_bits cX9_bits 3 (some .int)] ++ wsX90)
def wsX9_many : List Cond := .code yX9_many cX9_many 1 (some .int) :: ([.fieldLink RX9 57 "PlusCodesModel" "termsMany" "I", .methodLink RX9 67 yX9_order, .instanceMethod yX9_order, .selects RX9 yX9_order yX9_order, .initialized RX9, .code yX9_order cX9_order 1 (some .int), .fieldLink RX9 7 "PlusCodesModel" "all" "[I", .methodLink RX9 70 yX9_lays, .instanceMethod yX9_lays, .selects RX9 yX9_lays yX9_lays, .code yX9_lays cX9_lays 4 none, .fieldLink RX9 19 "PlusCodesModel" "terms" "[I", .methodLink RX9 60 yX9_places, .instanceMethod yX9_places, .selects RX9 yX9_places yX9_places, .code yX9_places cX9_places 1 (some .int), .methodLink RX9 49 yX9_length, .instanceMethod yX9_length, .selects RX9 yX9_length yX9_length, .code yX9_length cX9_length 1 (some .int), .methodLink RX9 63 yX9_bits, .static yX9_bits, .code yX9_bits cX9_bits 3 (some .int)] ++ wsX90)
def wsX9_wordOf : List Cond := .code yX9_wordOf cX9_wordOf 4 (some .int) :: ([.methodLink RX9 60 yX9_places, .instanceMethod yX9_places, .selects RX9 yX9_places yX9_places, .initialized RX9, .code yX9_places cX9_places 1 (some .int), .methodLink RX9 49 yX9_length, .instanceMethod yX9_length, .selects RX9 yX9_length yX9_length, .code yX9_length cX9_length 1 (some .int), .fieldLink RX9 7 "PlusCodesModel" "all" "[I"] ++ wsX90)
def wsX9_sumOf : List Cond := .code yX9_sumOf cX9_sumOf 5 (some .int) :: ([.fieldLink RX9 19 "PlusCodesModel" "terms" "[I", .methodLink RX9 74 yX9_has, .static yX9_has, .initialized RX9, .code yX9_has cX9_has 2 (some .boolean), .methodLink RX9 78 yX9_wordOf, .instanceMethod yX9_wordOf, .selects RX9 yX9_wordOf yX9_wordOf, .code yX9_wordOf cX9_wordOf 4 (some .int), .methodLink RX9 60 yX9_places, .instanceMethod yX9_places, .selects RX9 yX9_places yX9_places, .code yX9_places cX9_places 1 (some .int), .methodLink RX9 49 yX9_length, .instanceMethod yX9_length, .selects RX9 yX9_length yX9_length, .code yX9_length cX9_length 1 (some .int), .fieldLink RX9 7 "PlusCodesModel" "all" "[I"] ++ wsX90)
def wsX9_isCode : List Cond := .code yX9_isCode cX9_isCode 3 (some .boolean) :: ([.constantLong RX9 81 (5), .methodLink RX9 83 yX9_in, .static yX9_in, .initialized RX9, .code yX9_in cX9_in 6 (some .boolean)])
def wsX9_becomesCode : List Cond := .code yX9_becomesCode cX9_becomesCode 4 none :: ([.fieldLink RX9 7 "PlusCodesModel" "all" "[I"] ++ wsX90)
def wsX9_code_r1 : List Cond := [Cond.methodLink RX9 87 yX9_isCode, Cond.instanceMethod yX9_isCode, Cond.selects RX9 yX9_isCode yX9_isCode, Cond.initialized RX9, Cond.code yX9_isCode cX9_isCode 3 (some .boolean), Cond.constantLong RX9 81 (5), Cond.methodLink RX9 83 yX9_in, Cond.static yX9_in, Cond.code yX9_in cX9_in 6 (some .boolean), Cond.methodLink RX9 90 yX9_bad, Cond.instanceMethod yX9_bad, Cond.selects RX9 yX9_bad yX9_bad, Cond.code yX9_bad cX9_bad 2 (some .int), Cond.fieldLink RX9 16 "PlusCodesModel" "refused" "[I", Cond.methodLink RX9 93 yX9_keep, Cond.instanceMethod yX9_keep, Cond.selects RX9 yX9_keep yX9_keep, Cond.code yX9_keep cX9_keep 2 none, Cond.fieldLink RX9 53 "PlusCodesModel" "states" "I", Cond.fieldLink RX9 13 "PlusCodesModel" "past" "[I", Cond.fieldLink RX9 7 "PlusCodesModel" "all" "[I", Cond.methodLink RX9 96 yX9_becomesCode, Cond.instanceMethod yX9_becomesCode, Cond.selects RX9 yX9_becomesCode yX9_becomesCode]
def wsX9_code_r2 : List Cond := [Cond.code yX9_becomesCode cX9_becomesCode 4 none, Cond.methodLink RX9 100 yX9_many, Cond.instanceMethod yX9_many, Cond.selects RX9 yX9_many yX9_many, Cond.code yX9_many cX9_many 1 (some .int), Cond.fieldLink RX9 57 "PlusCodesModel" "termsMany" "I", Cond.methodLink RX9 67 yX9_order, Cond.instanceMethod yX9_order, Cond.selects RX9 yX9_order yX9_order, Cond.code yX9_order cX9_order 1 (some .int), Cond.methodLink RX9 70 yX9_lays, Cond.instanceMethod yX9_lays, Cond.selects RX9 yX9_lays yX9_lays, Cond.code yX9_lays cX9_lays 4 none, Cond.fieldLink RX9 19 "PlusCodesModel" "terms" "[I", Cond.methodLink RX9 60 yX9_places, Cond.instanceMethod yX9_places, Cond.selects RX9 yX9_places yX9_places, Cond.code yX9_places cX9_places 1 (some .int), Cond.methodLink RX9 49 yX9_length, Cond.instanceMethod yX9_length, Cond.selects RX9 yX9_length yX9_length, Cond.code yX9_length cX9_length 1 (some .int), Cond.methodLink RX9 63 yX9_bits]
def wsX9_code_r3 : List Cond := [Cond.static yX9_bits, Cond.code yX9_bits cX9_bits 3 (some .int)]
def wsX9_code : List Cond := .code yX9_code cX9_code 3 (some .int) :: ((wsX9_code_r1 ++ (wsX9_code_r2 ++ wsX9_code_r3)) ++ wsX90)
def wsX9_distance : List Cond := .code yX9_distance cX9_distance 1 (some .int) :: ([.methodLink RX9 49 yX9_length, .instanceMethod yX9_length, .selects RX9 yX9_length yX9_length, .initialized RX9, .code yX9_length cX9_length 1 (some .int), .fieldLink RX9 7 "PlusCodesModel" "all" "[I", .methodLink RX9 67 yX9_order, .instanceMethod yX9_order, .selects RX9 yX9_order yX9_order, .code yX9_order cX9_order 1 (some .int)] ++ wsX90)
def wsX9_of_r1 : List Cond := [Cond.constantLong RX9 81 (5), Cond.methodLink RX9 83 yX9_in, Cond.static yX9_in, Cond.initialized RX9, Cond.code yX9_in cX9_in 6 (some .boolean), Cond.methodLink RX9 90 yX9_bad, Cond.instanceMethod yX9_bad, Cond.selects RX9 yX9_bad yX9_bad, Cond.code yX9_bad cX9_bad 2 (some .int), Cond.fieldLink RX9 16 "PlusCodesModel" "refused" "[I", Cond.methodLink RX9 67 yX9_order, Cond.instanceMethod yX9_order, Cond.selects RX9 yX9_order yX9_order, Cond.code yX9_order cX9_order 1 (some .int), Cond.fieldLink RX9 7 "PlusCodesModel" "all" "[I", Cond.methodLink RX9 49 yX9_length, Cond.instanceMethod yX9_length, Cond.selects RX9 yX9_length yX9_length, Cond.code yX9_length cX9_length 1 (some .int), Cond.methodLink RX9 100 yX9_many, Cond.instanceMethod yX9_many, Cond.selects RX9 yX9_many yX9_many, Cond.code yX9_many cX9_many 1 (some .int), Cond.fieldLink RX9 57 "PlusCodesModel" "termsMany" "I"]
def wsX9_of_r2 : List Cond := [Cond.methodLink RX9 70 yX9_lays, Cond.instanceMethod yX9_lays, Cond.selects RX9 yX9_lays yX9_lays, Cond.code yX9_lays cX9_lays 4 none, Cond.fieldLink RX9 19 "PlusCodesModel" "terms" "[I", Cond.methodLink RX9 60 yX9_places, Cond.instanceMethod yX9_places, Cond.selects RX9 yX9_places yX9_places, Cond.code yX9_places cX9_places 1 (some .int), Cond.methodLink RX9 63 yX9_bits, Cond.static yX9_bits, Cond.code yX9_bits cX9_bits 3 (some .int), Cond.methodLink RX9 103 yX9_distance, Cond.instanceMethod yX9_distance, Cond.selects RX9 yX9_distance yX9_distance, Cond.code yX9_distance cX9_distance 1 (some .int)]
def wsX9_of : List Cond := .code yX9_of cX9_of 2 (some .int) :: ((wsX9_of_r1 ++ wsX9_of_r2) ++ wsX90)
def wsX9_term_r1 : List Cond := [Cond.fieldLink RX9 19 "PlusCodesModel" "terms" "[I", Cond.methodLink RX9 90 yX9_bad, Cond.instanceMethod yX9_bad, Cond.selects RX9 yX9_bad yX9_bad, Cond.initialized RX9, Cond.code yX9_bad cX9_bad 2 (some .int), Cond.fieldLink RX9 16 "PlusCodesModel" "refused" "[I", Cond.methodLink RX9 100 yX9_many, Cond.instanceMethod yX9_many, Cond.selects RX9 yX9_many yX9_many, Cond.code yX9_many cX9_many 1 (some .int), Cond.fieldLink RX9 57 "PlusCodesModel" "termsMany" "I", Cond.methodLink RX9 67 yX9_order, Cond.instanceMethod yX9_order, Cond.selects RX9 yX9_order yX9_order, Cond.code yX9_order cX9_order 1 (some .int), Cond.fieldLink RX9 7 "PlusCodesModel" "all" "[I", Cond.methodLink RX9 70 yX9_lays, Cond.instanceMethod yX9_lays, Cond.selects RX9 yX9_lays yX9_lays, Cond.code yX9_lays cX9_lays 4 none, Cond.methodLink RX9 60 yX9_places, Cond.instanceMethod yX9_places, Cond.selects RX9 yX9_places yX9_places]
def wsX9_term_r2 : List Cond := [Cond.code yX9_places cX9_places 1 (some .int), Cond.methodLink RX9 49 yX9_length, Cond.instanceMethod yX9_length, Cond.selects RX9 yX9_length yX9_length, Cond.code yX9_length cX9_length 1 (some .int), Cond.methodLink RX9 63 yX9_bits, Cond.static yX9_bits, Cond.code yX9_bits cX9_bits 3 (some .int)]
def wsX9_term : List Cond := .code yX9_term cX9_term 2 (some .int) :: ((wsX9_term_r1 ++ wsX9_term_r2) ++ wsX90)
def wsX9_isWithin : List Cond := .code yX9_isWithin cX9_isWithin 3 (some .boolean) :: ([.methodLink RX9 106 yX9_allOf, .static yX9_allOf, .initialized RX9, .code yX9_allOf cX9_allOf 1 (some .int)])
def wsX9_word_r1 : List Cond := [Cond.fieldLink RX9 7 "PlusCodesModel" "all" "[I", Cond.methodLink RX9 60 yX9_places, Cond.instanceMethod yX9_places, Cond.selects RX9 yX9_places yX9_places, Cond.initialized RX9, Cond.code yX9_places cX9_places 1 (some .int), Cond.methodLink RX9 49 yX9_length, Cond.instanceMethod yX9_length, Cond.selects RX9 yX9_length yX9_length, Cond.code yX9_length cX9_length 1 (some .int), Cond.methodLink RX9 109 yX9_isWithin, Cond.instanceMethod yX9_isWithin, Cond.selects RX9 yX9_isWithin yX9_isWithin, Cond.code yX9_isWithin cX9_isWithin 3 (some .boolean), Cond.methodLink RX9 106 yX9_allOf, Cond.static yX9_allOf, Cond.code yX9_allOf cX9_allOf 1 (some .int), Cond.methodLink RX9 90 yX9_bad, Cond.instanceMethod yX9_bad, Cond.selects RX9 yX9_bad yX9_bad, Cond.code yX9_bad cX9_bad 2 (some .int), Cond.fieldLink RX9 16 "PlusCodesModel" "refused" "[I", Cond.methodLink RX9 93 yX9_keep, Cond.instanceMethod yX9_keep]
def wsX9_word_r2 : List Cond := [Cond.selects RX9 yX9_keep yX9_keep, Cond.code yX9_keep cX9_keep 2 none, Cond.fieldLink RX9 53 "PlusCodesModel" "states" "I", Cond.fieldLink RX9 13 "PlusCodesModel" "past" "[I"]
def wsX9_word : List Cond := .code yX9_word cX9_word 2 (some .int) :: ((wsX9_word_r1 ++ wsX9_word_r2) ++ wsX90)
def wsX9_encodes_r1 : List Cond := [Cond.fieldLink RX9 7 "PlusCodesModel" "all" "[I", Cond.methodLink RX9 100 yX9_many, Cond.instanceMethod yX9_many, Cond.selects RX9 yX9_many yX9_many, Cond.initialized RX9, Cond.code yX9_many cX9_many 1 (some .int), Cond.fieldLink RX9 57 "PlusCodesModel" "termsMany" "I", Cond.methodLink RX9 67 yX9_order, Cond.instanceMethod yX9_order, Cond.selects RX9 yX9_order yX9_order, Cond.code yX9_order cX9_order 1 (some .int), Cond.methodLink RX9 70 yX9_lays, Cond.instanceMethod yX9_lays, Cond.selects RX9 yX9_lays yX9_lays, Cond.code yX9_lays cX9_lays 4 none, Cond.fieldLink RX9 19 "PlusCodesModel" "terms" "[I", Cond.methodLink RX9 60 yX9_places, Cond.instanceMethod yX9_places, Cond.selects RX9 yX9_places yX9_places, Cond.code yX9_places cX9_places 1 (some .int), Cond.methodLink RX9 49 yX9_length, Cond.instanceMethod yX9_length, Cond.selects RX9 yX9_length yX9_length, Cond.code yX9_length cX9_length 1 (some .int)]
def wsX9_encodes_r2 : List Cond := [Cond.methodLink RX9 63 yX9_bits, Cond.static yX9_bits, Cond.code yX9_bits cX9_bits 3 (some .int), Cond.methodLink RX9 112 yX9_sumOf, Cond.instanceMethod yX9_sumOf, Cond.selects RX9 yX9_sumOf yX9_sumOf, Cond.code yX9_sumOf cX9_sumOf 5 (some .int), Cond.methodLink RX9 74 yX9_has, Cond.static yX9_has, Cond.code yX9_has cX9_has 2 (some .boolean), Cond.methodLink RX9 78 yX9_wordOf, Cond.instanceMethod yX9_wordOf, Cond.selects RX9 yX9_wordOf yX9_wordOf, Cond.code yX9_wordOf cX9_wordOf 4 (some .int), Cond.methodLink RX9 116 yX9_theWord, Cond.instanceMethod yX9_theWord, Cond.selects RX9 yX9_theWord yX9_theWord, Cond.code yX9_theWord cX9_theWord 1 (some .int)]
def wsX9_encodes : List Cond := .code yX9_encodes cX9_encodes 3 (some .int) :: ((wsX9_encodes_r1 ++ wsX9_encodes_r2) ++ wsX90)
def wsX9_encode_r1 : List Cond := [Cond.methodLink RX9 100 yX9_many, Cond.instanceMethod yX9_many, Cond.selects RX9 yX9_many yX9_many, Cond.initialized RX9, Cond.code yX9_many cX9_many 1 (some .int), Cond.fieldLink RX9 57 "PlusCodesModel" "termsMany" "I", Cond.methodLink RX9 67 yX9_order, Cond.instanceMethod yX9_order, Cond.selects RX9 yX9_order yX9_order, Cond.code yX9_order cX9_order 1 (some .int), Cond.fieldLink RX9 7 "PlusCodesModel" "all" "[I", Cond.methodLink RX9 70 yX9_lays, Cond.instanceMethod yX9_lays, Cond.selects RX9 yX9_lays yX9_lays, Cond.code yX9_lays cX9_lays 4 none, Cond.fieldLink RX9 19 "PlusCodesModel" "terms" "[I", Cond.methodLink RX9 60 yX9_places, Cond.instanceMethod yX9_places, Cond.selects RX9 yX9_places yX9_places, Cond.code yX9_places cX9_places 1 (some .int), Cond.methodLink RX9 49 yX9_length, Cond.instanceMethod yX9_length, Cond.selects RX9 yX9_length yX9_length, Cond.code yX9_length cX9_length 1 (some .int)]
def wsX9_encode_r2 : List Cond := [Cond.methodLink RX9 63 yX9_bits, Cond.static yX9_bits, Cond.code yX9_bits cX9_bits 3 (some .int), Cond.methodLink RX9 109 yX9_isWithin, Cond.instanceMethod yX9_isWithin, Cond.selects RX9 yX9_isWithin yX9_isWithin, Cond.code yX9_isWithin cX9_isWithin 3 (some .boolean), Cond.methodLink RX9 106 yX9_allOf, Cond.static yX9_allOf, Cond.code yX9_allOf cX9_allOf 1 (some .int), Cond.methodLink RX9 90 yX9_bad, Cond.instanceMethod yX9_bad, Cond.selects RX9 yX9_bad yX9_bad, Cond.code yX9_bad cX9_bad 2 (some .int), Cond.fieldLink RX9 16 "PlusCodesModel" "refused" "[I", Cond.methodLink RX9 93 yX9_keep, Cond.instanceMethod yX9_keep, Cond.selects RX9 yX9_keep yX9_keep, Cond.code yX9_keep cX9_keep 2 none, Cond.fieldLink RX9 53 "PlusCodesModel" "states" "I", Cond.fieldLink RX9 13 "PlusCodesModel" "past" "[I", Cond.methodLink RX9 119 yX9_encodes, Cond.instanceMethod yX9_encodes, Cond.selects RX9 yX9_encodes yX9_encodes]
def wsX9_encode_r3 : List Cond := [Cond.code yX9_encodes cX9_encodes 3 (some .int), Cond.methodLink RX9 112 yX9_sumOf, Cond.instanceMethod yX9_sumOf, Cond.selects RX9 yX9_sumOf yX9_sumOf, Cond.code yX9_sumOf cX9_sumOf 5 (some .int), Cond.methodLink RX9 74 yX9_has, Cond.static yX9_has, Cond.code yX9_has cX9_has 2 (some .boolean), Cond.methodLink RX9 78 yX9_wordOf, Cond.instanceMethod yX9_wordOf, Cond.selects RX9 yX9_wordOf yX9_wordOf, Cond.code yX9_wordOf cX9_wordOf 4 (some .int), Cond.methodLink RX9 116 yX9_theWord, Cond.instanceMethod yX9_theWord, Cond.selects RX9 yX9_theWord yX9_theWord, Cond.code yX9_theWord cX9_theWord 1 (some .int)]
def wsX9_encode : List Cond := .code yX9_encode cX9_encode 2 (some .int) :: ((wsX9_encode_r1 ++ (wsX9_encode_r2 ++ wsX9_encode_r3)) ++ wsX90)
def wsX9_isPlace : List Cond := .code yX9_isPlace cX9_isPlace 2 (some .boolean) :: ([.methodLink RX9 60 yX9_places, .instanceMethod yX9_places, .selects RX9 yX9_places yX9_places, .initialized RX9, .code yX9_places cX9_places 1 (some .int), .methodLink RX9 49 yX9_length, .instanceMethod yX9_length, .selects RX9 yX9_length yX9_length, .code yX9_length cX9_length 1 (some .int), .fieldLink RX9 7 "PlusCodesModel" "all" "[I", .methodLink RX9 83 yX9_in, .static yX9_in, .code yX9_in cX9_in 6 (some .boolean)] ++ wsX90)
def wsX9_flips : List Cond := .code yX9_flips cX9_flips 2 (some .int) :: ([.fieldLink RX9 7 "PlusCodesModel" "all" "[I", .methodLink RX9 116 yX9_theWord, .instanceMethod yX9_theWord, .selects RX9 yX9_theWord yX9_theWord, .initialized RX9, .code yX9_theWord cX9_theWord 1 (some .int), .methodLink RX9 74 yX9_has, .static yX9_has, .code yX9_has cX9_has 2 (some .boolean)] ++ wsX90)
def wsX9_flip_r1 : List Cond := [Cond.methodLink RX9 122 yX9_isPlace, Cond.instanceMethod yX9_isPlace, Cond.selects RX9 yX9_isPlace yX9_isPlace, Cond.initialized RX9, Cond.code yX9_isPlace cX9_isPlace 2 (some .boolean), Cond.methodLink RX9 60 yX9_places, Cond.instanceMethod yX9_places, Cond.selects RX9 yX9_places yX9_places, Cond.code yX9_places cX9_places 1 (some .int), Cond.methodLink RX9 49 yX9_length, Cond.instanceMethod yX9_length, Cond.selects RX9 yX9_length yX9_length, Cond.code yX9_length cX9_length 1 (some .int), Cond.fieldLink RX9 7 "PlusCodesModel" "all" "[I", Cond.methodLink RX9 83 yX9_in, Cond.static yX9_in, Cond.code yX9_in cX9_in 6 (some .boolean), Cond.methodLink RX9 90 yX9_bad, Cond.instanceMethod yX9_bad, Cond.selects RX9 yX9_bad yX9_bad, Cond.code yX9_bad cX9_bad 2 (some .int), Cond.fieldLink RX9 16 "PlusCodesModel" "refused" "[I", Cond.methodLink RX9 93 yX9_keep, Cond.instanceMethod yX9_keep]
def wsX9_flip_r2 : List Cond := [Cond.selects RX9 yX9_keep yX9_keep, Cond.code yX9_keep cX9_keep 2 none, Cond.fieldLink RX9 53 "PlusCodesModel" "states" "I", Cond.fieldLink RX9 13 "PlusCodesModel" "past" "[I", Cond.methodLink RX9 126 yX9_flips, Cond.instanceMethod yX9_flips, Cond.selects RX9 yX9_flips yX9_flips, Cond.code yX9_flips cX9_flips 2 (some .int), Cond.methodLink RX9 116 yX9_theWord, Cond.instanceMethod yX9_theWord, Cond.selects RX9 yX9_theWord yX9_theWord, Cond.code yX9_theWord cX9_theWord 1 (some .int), Cond.methodLink RX9 74 yX9_has, Cond.static yX9_has, Cond.code yX9_has cX9_has 2 (some .boolean)]
def wsX9_flip : List Cond := .code yX9_flip cX9_flip 2 (some .int) :: ((wsX9_flip_r1 ++ wsX9_flip_r2) ++ wsX90)
def wsX9_hurt_r1 : List Cond := [Cond.constantLong RX9 129 (999999), Cond.constantLong RX9 131 (1103515245), Cond.constantLong RX9 133 (12345), Cond.constantLong RX9 135 (2147483648), Cond.constantLong RX9 137 (65536), Cond.fieldLink RX9 7 "PlusCodesModel" "all" "[I", Cond.methodLink RX9 83 yX9_in, Cond.static yX9_in, Cond.initialized RX9, Cond.code yX9_in cX9_in 6 (some .boolean), Cond.methodLink RX9 60 yX9_places, Cond.instanceMethod yX9_places, Cond.selects RX9 yX9_places yX9_places, Cond.code yX9_places cX9_places 1 (some .int), Cond.methodLink RX9 49 yX9_length, Cond.instanceMethod yX9_length, Cond.selects RX9 yX9_length yX9_length, Cond.code yX9_length cX9_length 1 (some .int), Cond.methodLink RX9 90 yX9_bad, Cond.instanceMethod yX9_bad, Cond.selects RX9 yX9_bad yX9_bad, Cond.code yX9_bad cX9_bad 2 (some .int), Cond.fieldLink RX9 16 "PlusCodesModel" "refused" "[I", Cond.methodLink RX9 93 yX9_keep]
def wsX9_hurt_r2 : List Cond := [Cond.instanceMethod yX9_keep, Cond.selects RX9 yX9_keep yX9_keep, Cond.code yX9_keep cX9_keep 2 none, Cond.fieldLink RX9 53 "PlusCodesModel" "states" "I", Cond.fieldLink RX9 13 "PlusCodesModel" "past" "[I", Cond.methodLink RX9 74 yX9_has, Cond.static yX9_has, Cond.code yX9_has cX9_has 2 (some .boolean), Cond.methodLink RX9 116 yX9_theWord, Cond.instanceMethod yX9_theWord, Cond.selects RX9 yX9_theWord yX9_theWord, Cond.code yX9_theWord cX9_theWord 1 (some .int), Cond.methodLink RX9 63 yX9_bits, Cond.static yX9_bits, Cond.code yX9_bits cX9_bits 3 (some .int)]
def wsX9_hurt : List Cond := .code yX9_hurt cX9_hurt 8 (some .int) :: ((wsX9_hurt_r1 ++ wsX9_hurt_r2) ++ wsX90)
def wsX9_now : List Cond := .code yX9_now cX9_now 1 (some .int) :: ([.methodLink RX9 116 yX9_theWord, .instanceMethod yX9_theWord, .selects RX9 yX9_theWord yX9_theWord, .initialized RX9, .code yX9_theWord cX9_theWord 1 (some .int), .fieldLink RX9 7 "PlusCodesModel" "all" "[I"] ++ wsX90)
def wsX9_at_r1 : List Cond := [Cond.methodLink RX9 122 yX9_isPlace, Cond.instanceMethod yX9_isPlace, Cond.selects RX9 yX9_isPlace yX9_isPlace, Cond.initialized RX9, Cond.code yX9_isPlace cX9_isPlace 2 (some .boolean), Cond.methodLink RX9 60 yX9_places, Cond.instanceMethod yX9_places, Cond.selects RX9 yX9_places yX9_places, Cond.code yX9_places cX9_places 1 (some .int), Cond.methodLink RX9 49 yX9_length, Cond.instanceMethod yX9_length, Cond.selects RX9 yX9_length yX9_length, Cond.code yX9_length cX9_length 1 (some .int), Cond.fieldLink RX9 7 "PlusCodesModel" "all" "[I", Cond.methodLink RX9 83 yX9_in, Cond.static yX9_in, Cond.code yX9_in cX9_in 6 (some .boolean), Cond.methodLink RX9 116 yX9_theWord, Cond.instanceMethod yX9_theWord, Cond.selects RX9 yX9_theWord yX9_theWord, Cond.code yX9_theWord cX9_theWord 1 (some .int), Cond.methodLink RX9 90 yX9_bad, Cond.instanceMethod yX9_bad, Cond.selects RX9 yX9_bad yX9_bad]
def wsX9_at_r2 : List Cond := [Cond.code yX9_bad cX9_bad 2 (some .int), Cond.fieldLink RX9 16 "PlusCodesModel" "refused" "[I"]
def wsX9_at : List Cond := .code yX9_at cX9_at 2 (some .int) :: ((wsX9_at_r1 ++ wsX9_at_r2) ++ wsX90)
def wsX9_weight : List Cond := .code yX9_weight cX9_weight 1 (some .int) :: ([.methodLink RX9 116 yX9_theWord, .instanceMethod yX9_theWord, .selects RX9 yX9_theWord yX9_theWord, .initialized RX9, .code yX9_theWord cX9_theWord 1 (some .int), .fieldLink RX9 7 "PlusCodesModel" "all" "[I", .methodLink RX9 63 yX9_bits, .static yX9_bits, .code yX9_bits cX9_bits 3 (some .int)] ++ wsX90)
def wsX9_coefficientOf : List Cond := .code yX9_coefficientOf cX9_coefficientOf 5 (some .int) :: ([.methodLink RX9 60 yX9_places, .instanceMethod yX9_places, .selects RX9 yX9_places yX9_places, .initialized RX9, .code yX9_places cX9_places 1 (some .int), .methodLink RX9 49 yX9_length, .instanceMethod yX9_length, .selects RX9 yX9_length yX9_length, .code yX9_length cX9_length 1 (some .int), .fieldLink RX9 7 "PlusCodesModel" "all" "[I"] ++ wsX90)
def wsX9_isWord_r1 : List Cond := [Cond.methodLink RX9 60 yX9_places, Cond.instanceMethod yX9_places, Cond.selects RX9 yX9_places yX9_places, Cond.initialized RX9, Cond.code yX9_places cX9_places 1 (some .int), Cond.methodLink RX9 49 yX9_length, Cond.instanceMethod yX9_length, Cond.selects RX9 yX9_length yX9_length, Cond.code yX9_length cX9_length 1 (some .int), Cond.fieldLink RX9 7 "PlusCodesModel" "all" "[I", Cond.methodLink RX9 63 yX9_bits, Cond.static yX9_bits, Cond.code yX9_bits cX9_bits 3 (some .int), Cond.methodLink RX9 67 yX9_order, Cond.instanceMethod yX9_order, Cond.selects RX9 yX9_order yX9_order, Cond.code yX9_order cX9_order 1 (some .int), Cond.methodLink RX9 116 yX9_theWord, Cond.instanceMethod yX9_theWord, Cond.selects RX9 yX9_theWord yX9_theWord, Cond.code yX9_theWord cX9_theWord 1 (some .int), Cond.methodLink RX9 139 yX9_coefficientOf, Cond.instanceMethod yX9_coefficientOf, Cond.selects RX9 yX9_coefficientOf yX9_coefficientOf]
def wsX9_isWord_r2 : List Cond := [Cond.code yX9_coefficientOf cX9_coefficientOf 5 (some .int)]
def wsX9_isWord : List Cond := .code yX9_isWord cX9_isWord 3 (some .int) :: ((wsX9_isWord_r1 ++ wsX9_isWord_r2) ++ wsX90)
def wsX9_coefficient_r1 : List Cond := [Cond.fieldLink RX9 19 "PlusCodesModel" "terms" "[I", Cond.methodLink RX9 122 yX9_isPlace, Cond.instanceMethod yX9_isPlace, Cond.selects RX9 yX9_isPlace yX9_isPlace, Cond.initialized RX9, Cond.code yX9_isPlace cX9_isPlace 2 (some .boolean), Cond.methodLink RX9 60 yX9_places, Cond.instanceMethod yX9_places, Cond.selects RX9 yX9_places yX9_places, Cond.code yX9_places cX9_places 1 (some .int), Cond.methodLink RX9 49 yX9_length, Cond.instanceMethod yX9_length, Cond.selects RX9 yX9_length yX9_length, Cond.code yX9_length cX9_length 1 (some .int), Cond.fieldLink RX9 7 "PlusCodesModel" "all" "[I", Cond.methodLink RX9 83 yX9_in, Cond.static yX9_in, Cond.code yX9_in cX9_in 6 (some .boolean), Cond.methodLink RX9 90 yX9_bad, Cond.instanceMethod yX9_bad, Cond.selects RX9 yX9_bad yX9_bad, Cond.code yX9_bad cX9_bad 2 (some .int), Cond.fieldLink RX9 16 "PlusCodesModel" "refused" "[I", Cond.methodLink RX9 70 yX9_lays]
def wsX9_coefficient_r2 : List Cond := [Cond.instanceMethod yX9_lays, Cond.selects RX9 yX9_lays yX9_lays, Cond.code yX9_lays cX9_lays 4 none, Cond.fieldLink RX9 57 "PlusCodesModel" "termsMany" "I", Cond.methodLink RX9 63 yX9_bits, Cond.static yX9_bits, Cond.code yX9_bits cX9_bits 3 (some .int), Cond.methodLink RX9 116 yX9_theWord, Cond.instanceMethod yX9_theWord, Cond.selects RX9 yX9_theWord yX9_theWord, Cond.code yX9_theWord cX9_theWord 1 (some .int), Cond.methodLink RX9 139 yX9_coefficientOf, Cond.instanceMethod yX9_coefficientOf, Cond.selects RX9 yX9_coefficientOf yX9_coefficientOf, Cond.code yX9_coefficientOf cX9_coefficientOf 5 (some .int)]
def wsX9_coefficient : List Cond := .code yX9_coefficient cX9_coefficient 2 (some .int) :: ((wsX9_coefficient_r1 ++ wsX9_coefficient_r2) ++ wsX90)
def wsX9_voted : List Cond := .code yX9_voted cX9_voted 7 (some .int) :: ([.methodLink RX9 60 yX9_places, .instanceMethod yX9_places, .selects RX9 yX9_places yX9_places, .initialized RX9, .code yX9_places cX9_places 1 (some .int), .methodLink RX9 49 yX9_length, .instanceMethod yX9_length, .selects RX9 yX9_length yX9_length, .code yX9_length cX9_length 1 (some .int), .fieldLink RX9 7 "PlusCodesModel" "all" "[I"] ++ wsX90)
def wsX9_votesNow_r1 : List Cond := [Cond.fieldLink RX9 142 "PlusCodesModel" "message" "I", Cond.fieldLink RX9 145 "PlusCodesModel" "ties" "I", Cond.fieldLink RX9 148 "PlusCodesModel" "closest" "I", Cond.fieldLink RX9 151 "PlusCodesModel" "closestBy" "I", Cond.fieldLink RX9 19 "PlusCodesModel" "terms" "[I", Cond.fieldLink RX9 157 "PlusCodesModel" "mended" "I", Cond.methodLink RX9 116 yX9_theWord, Cond.instanceMethod yX9_theWord, Cond.selects RX9 yX9_theWord yX9_theWord, Cond.initialized RX9, Cond.code yX9_theWord cX9_theWord 1 (some .int), Cond.fieldLink RX9 7 "PlusCodesModel" "all" "[I", Cond.methodLink RX9 100 yX9_many, Cond.instanceMethod yX9_many, Cond.selects RX9 yX9_many yX9_many, Cond.code yX9_many cX9_many 1 (some .int), Cond.fieldLink RX9 57 "PlusCodesModel" "termsMany" "I", Cond.methodLink RX9 67 yX9_order, Cond.instanceMethod yX9_order, Cond.selects RX9 yX9_order yX9_order, Cond.code yX9_order cX9_order 1 (some .int), Cond.methodLink RX9 70 yX9_lays, Cond.instanceMethod yX9_lays, Cond.selects RX9 yX9_lays yX9_lays]
def wsX9_votesNow_r2 : List Cond := [Cond.code yX9_lays cX9_lays 4 none, Cond.methodLink RX9 60 yX9_places, Cond.instanceMethod yX9_places, Cond.selects RX9 yX9_places yX9_places, Cond.code yX9_places cX9_places 1 (some .int), Cond.methodLink RX9 49 yX9_length, Cond.instanceMethod yX9_length, Cond.selects RX9 yX9_length yX9_length, Cond.code yX9_length cX9_length 1 (some .int), Cond.methodLink RX9 63 yX9_bits, Cond.static yX9_bits, Cond.code yX9_bits cX9_bits 3 (some .int), Cond.methodLink RX9 154 yX9_voted, Cond.instanceMethod yX9_voted, Cond.selects RX9 yX9_voted yX9_voted, Cond.code yX9_voted cX9_voted 7 (some .int), Cond.methodLink RX9 78 yX9_wordOf, Cond.instanceMethod yX9_wordOf, Cond.selects RX9 yX9_wordOf yX9_wordOf, Cond.code yX9_wordOf cX9_wordOf 4 (some .int), Cond.methodLink RX9 112 yX9_sumOf, Cond.instanceMethod yX9_sumOf, Cond.selects RX9 yX9_sumOf yX9_sumOf, Cond.code yX9_sumOf cX9_sumOf 5 (some .int)]
def wsX9_votesNow_r3 : List Cond := [Cond.methodLink RX9 74 yX9_has, Cond.static yX9_has, Cond.code yX9_has cX9_has 2 (some .boolean)]
def wsX9_votesNow : List Cond := .code yX9_votesNow cX9_votesNow 8 none :: ((wsX9_votesNow_r1 ++ (wsX9_votesNow_r2 ++ wsX9_votesNow_r3)) ++ wsX90)
def wsX9_votes_r1 : List Cond := [Cond.fieldLink RX9 142 "PlusCodesModel" "message" "I", Cond.methodLink RX9 160 yX9_votesNow, Cond.instanceMethod yX9_votesNow, Cond.selects RX9 yX9_votesNow yX9_votesNow, Cond.initialized RX9, Cond.code yX9_votesNow cX9_votesNow 8 none, Cond.fieldLink RX9 145 "PlusCodesModel" "ties" "I", Cond.fieldLink RX9 148 "PlusCodesModel" "closest" "I", Cond.fieldLink RX9 151 "PlusCodesModel" "closestBy" "I", Cond.fieldLink RX9 19 "PlusCodesModel" "terms" "[I", Cond.fieldLink RX9 157 "PlusCodesModel" "mended" "I", Cond.methodLink RX9 116 yX9_theWord, Cond.instanceMethod yX9_theWord, Cond.selects RX9 yX9_theWord yX9_theWord, Cond.code yX9_theWord cX9_theWord 1 (some .int), Cond.fieldLink RX9 7 "PlusCodesModel" "all" "[I", Cond.methodLink RX9 100 yX9_many, Cond.instanceMethod yX9_many, Cond.selects RX9 yX9_many yX9_many, Cond.code yX9_many cX9_many 1 (some .int), Cond.fieldLink RX9 57 "PlusCodesModel" "termsMany" "I", Cond.methodLink RX9 67 yX9_order, Cond.instanceMethod yX9_order, Cond.selects RX9 yX9_order yX9_order]
def wsX9_votes_r2 : List Cond := [Cond.code yX9_order cX9_order 1 (some .int), Cond.methodLink RX9 70 yX9_lays, Cond.instanceMethod yX9_lays, Cond.selects RX9 yX9_lays yX9_lays, Cond.code yX9_lays cX9_lays 4 none, Cond.methodLink RX9 60 yX9_places, Cond.instanceMethod yX9_places, Cond.selects RX9 yX9_places yX9_places, Cond.code yX9_places cX9_places 1 (some .int), Cond.methodLink RX9 49 yX9_length, Cond.instanceMethod yX9_length, Cond.selects RX9 yX9_length yX9_length, Cond.code yX9_length cX9_length 1 (some .int), Cond.methodLink RX9 63 yX9_bits, Cond.static yX9_bits, Cond.code yX9_bits cX9_bits 3 (some .int), Cond.methodLink RX9 154 yX9_voted, Cond.instanceMethod yX9_voted, Cond.selects RX9 yX9_voted yX9_voted, Cond.code yX9_voted cX9_voted 7 (some .int), Cond.methodLink RX9 78 yX9_wordOf, Cond.instanceMethod yX9_wordOf, Cond.selects RX9 yX9_wordOf yX9_wordOf, Cond.code yX9_wordOf cX9_wordOf 4 (some .int)]
def wsX9_votes_r3 : List Cond := [Cond.methodLink RX9 112 yX9_sumOf, Cond.instanceMethod yX9_sumOf, Cond.selects RX9 yX9_sumOf yX9_sumOf, Cond.code yX9_sumOf cX9_sumOf 5 (some .int), Cond.methodLink RX9 74 yX9_has, Cond.static yX9_has, Cond.code yX9_has cX9_has 2 (some .boolean)]
def wsX9_votes : List Cond := .code yX9_votes cX9_votes 1 (some .int) :: ((wsX9_votes_r1 ++ (wsX9_votes_r2 ++ wsX9_votes_r3)) ++ wsX90)
def wsX9_vote_r1 : List Cond := [Cond.constantLong RX9 163 (3), Cond.fieldLink RX9 157 "PlusCodesModel" "mended" "I", Cond.fieldLink RX9 145 "PlusCodesModel" "ties" "I", Cond.fieldLink RX9 148 "PlusCodesModel" "closest" "I", Cond.fieldLink RX9 151 "PlusCodesModel" "closestBy" "I", Cond.methodLink RX9 83 yX9_in, Cond.static yX9_in, Cond.initialized RX9, Cond.code yX9_in cX9_in 6 (some .boolean), Cond.methodLink RX9 90 yX9_bad, Cond.instanceMethod yX9_bad, Cond.selects RX9 yX9_bad yX9_bad, Cond.code yX9_bad cX9_bad 2 (some .int), Cond.fieldLink RX9 16 "PlusCodesModel" "refused" "[I", Cond.methodLink RX9 160 yX9_votesNow, Cond.instanceMethod yX9_votesNow, Cond.selects RX9 yX9_votesNow yX9_votesNow, Cond.code yX9_votesNow cX9_votesNow 8 none, Cond.fieldLink RX9 142 "PlusCodesModel" "message" "I", Cond.fieldLink RX9 19 "PlusCodesModel" "terms" "[I", Cond.methodLink RX9 116 yX9_theWord, Cond.instanceMethod yX9_theWord, Cond.selects RX9 yX9_theWord yX9_theWord, Cond.code yX9_theWord cX9_theWord 1 (some .int)]
def wsX9_vote_r2 : List Cond := [Cond.fieldLink RX9 7 "PlusCodesModel" "all" "[I", Cond.methodLink RX9 100 yX9_many, Cond.instanceMethod yX9_many, Cond.selects RX9 yX9_many yX9_many, Cond.code yX9_many cX9_many 1 (some .int), Cond.fieldLink RX9 57 "PlusCodesModel" "termsMany" "I", Cond.methodLink RX9 67 yX9_order, Cond.instanceMethod yX9_order, Cond.selects RX9 yX9_order yX9_order, Cond.code yX9_order cX9_order 1 (some .int), Cond.methodLink RX9 70 yX9_lays, Cond.instanceMethod yX9_lays, Cond.selects RX9 yX9_lays yX9_lays, Cond.code yX9_lays cX9_lays 4 none, Cond.methodLink RX9 60 yX9_places, Cond.instanceMethod yX9_places, Cond.selects RX9 yX9_places yX9_places, Cond.code yX9_places cX9_places 1 (some .int), Cond.methodLink RX9 49 yX9_length, Cond.instanceMethod yX9_length, Cond.selects RX9 yX9_length yX9_length, Cond.code yX9_length cX9_length 1 (some .int), Cond.methodLink RX9 63 yX9_bits, Cond.static yX9_bits]
def wsX9_vote_r3 : List Cond := [Cond.code yX9_bits cX9_bits 3 (some .int), Cond.methodLink RX9 154 yX9_voted, Cond.instanceMethod yX9_voted, Cond.selects RX9 yX9_voted yX9_voted, Cond.code yX9_voted cX9_voted 7 (some .int), Cond.methodLink RX9 78 yX9_wordOf, Cond.instanceMethod yX9_wordOf, Cond.selects RX9 yX9_wordOf yX9_wordOf, Cond.code yX9_wordOf cX9_wordOf 4 (some .int), Cond.methodLink RX9 112 yX9_sumOf, Cond.instanceMethod yX9_sumOf, Cond.selects RX9 yX9_sumOf yX9_sumOf, Cond.code yX9_sumOf cX9_sumOf 5 (some .int), Cond.methodLink RX9 74 yX9_has, Cond.static yX9_has, Cond.code yX9_has cX9_has 2 (some .boolean)]
def wsX9_vote : List Cond := .code yX9_vote cX9_vote 2 (some .int) :: ((wsX9_vote_r1 ++ (wsX9_vote_r2 ++ wsX9_vote_r3)) ++ wsX90)
def wsX9_mendsNow_r1 : List Cond := [Cond.fieldLink RX9 157 "PlusCodesModel" "mended" "I", Cond.fieldLink RX9 7 "PlusCodesModel" "all" "[I", Cond.methodLink RX9 160 yX9_votesNow, Cond.instanceMethod yX9_votesNow, Cond.selects RX9 yX9_votesNow yX9_votesNow, Cond.initialized RX9, Cond.code yX9_votesNow cX9_votesNow 8 none, Cond.fieldLink RX9 142 "PlusCodesModel" "message" "I", Cond.fieldLink RX9 145 "PlusCodesModel" "ties" "I", Cond.fieldLink RX9 148 "PlusCodesModel" "closest" "I", Cond.fieldLink RX9 151 "PlusCodesModel" "closestBy" "I", Cond.fieldLink RX9 19 "PlusCodesModel" "terms" "[I", Cond.methodLink RX9 116 yX9_theWord, Cond.instanceMethod yX9_theWord, Cond.selects RX9 yX9_theWord yX9_theWord, Cond.code yX9_theWord cX9_theWord 1 (some .int), Cond.methodLink RX9 100 yX9_many, Cond.instanceMethod yX9_many, Cond.selects RX9 yX9_many yX9_many, Cond.code yX9_many cX9_many 1 (some .int), Cond.fieldLink RX9 57 "PlusCodesModel" "termsMany" "I", Cond.methodLink RX9 67 yX9_order, Cond.instanceMethod yX9_order, Cond.selects RX9 yX9_order yX9_order]
def wsX9_mendsNow_r2 : List Cond := [Cond.code yX9_order cX9_order 1 (some .int), Cond.methodLink RX9 70 yX9_lays, Cond.instanceMethod yX9_lays, Cond.selects RX9 yX9_lays yX9_lays, Cond.code yX9_lays cX9_lays 4 none, Cond.methodLink RX9 60 yX9_places, Cond.instanceMethod yX9_places, Cond.selects RX9 yX9_places yX9_places, Cond.code yX9_places cX9_places 1 (some .int), Cond.methodLink RX9 49 yX9_length, Cond.instanceMethod yX9_length, Cond.selects RX9 yX9_length yX9_length, Cond.code yX9_length cX9_length 1 (some .int), Cond.methodLink RX9 63 yX9_bits, Cond.static yX9_bits, Cond.code yX9_bits cX9_bits 3 (some .int), Cond.methodLink RX9 154 yX9_voted, Cond.instanceMethod yX9_voted, Cond.selects RX9 yX9_voted yX9_voted, Cond.code yX9_voted cX9_voted 7 (some .int), Cond.methodLink RX9 78 yX9_wordOf, Cond.instanceMethod yX9_wordOf, Cond.selects RX9 yX9_wordOf yX9_wordOf, Cond.code yX9_wordOf cX9_wordOf 4 (some .int)]
def wsX9_mendsNow_r3 : List Cond := [Cond.methodLink RX9 112 yX9_sumOf, Cond.instanceMethod yX9_sumOf, Cond.selects RX9 yX9_sumOf yX9_sumOf, Cond.code yX9_sumOf cX9_sumOf 5 (some .int), Cond.methodLink RX9 74 yX9_has, Cond.static yX9_has, Cond.code yX9_has cX9_has 2 (some .boolean)]
def wsX9_mendsNow : List Cond := .code yX9_mendsNow cX9_mendsNow 2 (some .int) :: ((wsX9_mendsNow_r1 ++ (wsX9_mendsNow_r2 ++ wsX9_mendsNow_r3)) ++ wsX90)
def wsX9_mends_r1 : List Cond := [Cond.methodLink RX9 93 yX9_keep, Cond.instanceMethod yX9_keep, Cond.selects RX9 yX9_keep yX9_keep, Cond.initialized RX9, Cond.code yX9_keep cX9_keep 2 none, Cond.fieldLink RX9 53 "PlusCodesModel" "states" "I", Cond.fieldLink RX9 13 "PlusCodesModel" "past" "[I", Cond.fieldLink RX9 7 "PlusCodesModel" "all" "[I", Cond.methodLink RX9 165 yX9_mendsNow, Cond.instanceMethod yX9_mendsNow, Cond.selects RX9 yX9_mendsNow yX9_mendsNow, Cond.code yX9_mendsNow cX9_mendsNow 2 (some .int), Cond.fieldLink RX9 157 "PlusCodesModel" "mended" "I", Cond.methodLink RX9 160 yX9_votesNow, Cond.instanceMethod yX9_votesNow, Cond.selects RX9 yX9_votesNow yX9_votesNow, Cond.code yX9_votesNow cX9_votesNow 8 none, Cond.fieldLink RX9 142 "PlusCodesModel" "message" "I", Cond.fieldLink RX9 145 "PlusCodesModel" "ties" "I", Cond.fieldLink RX9 148 "PlusCodesModel" "closest" "I", Cond.fieldLink RX9 151 "PlusCodesModel" "closestBy" "I", Cond.fieldLink RX9 19 "PlusCodesModel" "terms" "[I", Cond.methodLink RX9 116 yX9_theWord, Cond.instanceMethod yX9_theWord]
def wsX9_mends_r2 : List Cond := [Cond.selects RX9 yX9_theWord yX9_theWord, Cond.code yX9_theWord cX9_theWord 1 (some .int), Cond.methodLink RX9 100 yX9_many, Cond.instanceMethod yX9_many, Cond.selects RX9 yX9_many yX9_many, Cond.code yX9_many cX9_many 1 (some .int), Cond.fieldLink RX9 57 "PlusCodesModel" "termsMany" "I", Cond.methodLink RX9 67 yX9_order, Cond.instanceMethod yX9_order, Cond.selects RX9 yX9_order yX9_order, Cond.code yX9_order cX9_order 1 (some .int), Cond.methodLink RX9 70 yX9_lays, Cond.instanceMethod yX9_lays, Cond.selects RX9 yX9_lays yX9_lays, Cond.code yX9_lays cX9_lays 4 none, Cond.methodLink RX9 60 yX9_places, Cond.instanceMethod yX9_places, Cond.selects RX9 yX9_places yX9_places, Cond.code yX9_places cX9_places 1 (some .int), Cond.methodLink RX9 49 yX9_length, Cond.instanceMethod yX9_length, Cond.selects RX9 yX9_length yX9_length, Cond.code yX9_length cX9_length 1 (some .int), Cond.methodLink RX9 63 yX9_bits]
def wsX9_mends_r3 : List Cond := [Cond.static yX9_bits, Cond.code yX9_bits cX9_bits 3 (some .int), Cond.methodLink RX9 154 yX9_voted, Cond.instanceMethod yX9_voted, Cond.selects RX9 yX9_voted yX9_voted, Cond.code yX9_voted cX9_voted 7 (some .int), Cond.methodLink RX9 78 yX9_wordOf, Cond.instanceMethod yX9_wordOf, Cond.selects RX9 yX9_wordOf yX9_wordOf, Cond.code yX9_wordOf cX9_wordOf 4 (some .int), Cond.methodLink RX9 112 yX9_sumOf, Cond.instanceMethod yX9_sumOf, Cond.selects RX9 yX9_sumOf yX9_sumOf, Cond.code yX9_sumOf cX9_sumOf 5 (some .int), Cond.methodLink RX9 74 yX9_has, Cond.static yX9_has, Cond.code yX9_has cX9_has 2 (some .boolean)]
def wsX9_mends : List Cond := .code yX9_mends cX9_mends 1 (some .int) :: ((wsX9_mends_r1 ++ (wsX9_mends_r2 ++ wsX9_mends_r3)) ++ wsX90)
def wsX9_signOf : List Cond := .code yX9_signOf cX9_signOf 4 (some .int) :: ([.methodLink RX9 60 yX9_places, .instanceMethod yX9_places, .selects RX9 yX9_places yX9_places, .initialized RX9, .code yX9_places cX9_places 1 (some .int), .methodLink RX9 49 yX9_length, .instanceMethod yX9_length, .selects RX9 yX9_length yX9_length, .code yX9_length cX9_length 1 (some .int), .fieldLink RX9 7 "PlusCodesModel" "all" "[I", .methodLink RX9 116 yX9_theWord, .instanceMethod yX9_theWord, .selects RX9 yX9_theWord yX9_theWord, .code yX9_theWord cX9_theWord 1 (some .int), .methodLink RX9 63 yX9_bits, .static yX9_bits, .code yX9_bits cX9_bits 3 (some .int)] ++ wsX90)
def wsX9_sign_r1 : List Cond := [Cond.methodLink RX9 122 yX9_isPlace, Cond.instanceMethod yX9_isPlace, Cond.selects RX9 yX9_isPlace yX9_isPlace, Cond.initialized RX9, Cond.code yX9_isPlace cX9_isPlace 2 (some .boolean), Cond.methodLink RX9 60 yX9_places, Cond.instanceMethod yX9_places, Cond.selects RX9 yX9_places yX9_places, Cond.code yX9_places cX9_places 1 (some .int), Cond.methodLink RX9 49 yX9_length, Cond.instanceMethod yX9_length, Cond.selects RX9 yX9_length yX9_length, Cond.code yX9_length cX9_length 1 (some .int), Cond.fieldLink RX9 7 "PlusCodesModel" "all" "[I", Cond.methodLink RX9 83 yX9_in, Cond.static yX9_in, Cond.code yX9_in cX9_in 6 (some .boolean), Cond.methodLink RX9 168 yX9_signOf, Cond.instanceMethod yX9_signOf, Cond.selects RX9 yX9_signOf yX9_signOf, Cond.code yX9_signOf cX9_signOf 4 (some .int), Cond.methodLink RX9 116 yX9_theWord, Cond.instanceMethod yX9_theWord, Cond.selects RX9 yX9_theWord yX9_theWord]
def wsX9_sign_r2 : List Cond := [Cond.code yX9_theWord cX9_theWord 1 (some .int), Cond.methodLink RX9 63 yX9_bits, Cond.static yX9_bits, Cond.code yX9_bits cX9_bits 3 (some .int), Cond.methodLink RX9 90 yX9_bad, Cond.instanceMethod yX9_bad, Cond.selects RX9 yX9_bad yX9_bad, Cond.code yX9_bad cX9_bad 2 (some .int), Cond.fieldLink RX9 16 "PlusCodesModel" "refused" "[I"]
def wsX9_sign : List Cond := .code yX9_sign cX9_sign 2 (some .int) :: ((wsX9_sign_r1 ++ wsX9_sign_r2) ++ wsX90)
def wsX9_far : List Cond := .code yX9_far cX9_far 1 (some .int) :: ([])
def wsX9_best_r1 : List Cond := [Cond.constantLong RX9 171 (2), Cond.methodLink RX9 83 yX9_in, Cond.static yX9_in, Cond.initialized RX9, Cond.code yX9_in cX9_in 6 (some .boolean), Cond.methodLink RX9 90 yX9_bad, Cond.instanceMethod yX9_bad, Cond.selects RX9 yX9_bad yX9_bad, Cond.code yX9_bad cX9_bad 2 (some .int), Cond.fieldLink RX9 16 "PlusCodesModel" "refused" "[I", Cond.methodLink RX9 60 yX9_places, Cond.instanceMethod yX9_places, Cond.selects RX9 yX9_places yX9_places, Cond.code yX9_places cX9_places 1 (some .int), Cond.methodLink RX9 49 yX9_length, Cond.instanceMethod yX9_length, Cond.selects RX9 yX9_length yX9_length, Cond.code yX9_length cX9_length 1 (some .int), Cond.fieldLink RX9 7 "PlusCodesModel" "all" "[I", Cond.methodLink RX9 168 yX9_signOf, Cond.instanceMethod yX9_signOf, Cond.selects RX9 yX9_signOf yX9_signOf, Cond.code yX9_signOf cX9_signOf 4 (some .int), Cond.methodLink RX9 116 yX9_theWord]
def wsX9_best_r2 : List Cond := [Cond.instanceMethod yX9_theWord, Cond.selects RX9 yX9_theWord yX9_theWord, Cond.code yX9_theWord cX9_theWord 1 (some .int), Cond.methodLink RX9 63 yX9_bits, Cond.static yX9_bits, Cond.code yX9_bits cX9_bits 3 (some .int), Cond.methodLink RX9 173 yX9_far, Cond.static yX9_far, Cond.code yX9_far cX9_far 1 (some .int)]
def wsX9_best : List Cond := .code yX9_best cX9_best 6 (some .int) :: ((wsX9_best_r1 ++ wsX9_best_r2) ++ wsX90)
def wsX9_isFew_r1 : List Cond := [Cond.methodLink RX9 100 yX9_many, Cond.instanceMethod yX9_many, Cond.selects RX9 yX9_many yX9_many, Cond.initialized RX9, Cond.code yX9_many cX9_many 1 (some .int), Cond.fieldLink RX9 57 "PlusCodesModel" "termsMany" "I", Cond.methodLink RX9 67 yX9_order, Cond.instanceMethod yX9_order, Cond.selects RX9 yX9_order yX9_order, Cond.code yX9_order cX9_order 1 (some .int), Cond.fieldLink RX9 7 "PlusCodesModel" "all" "[I", Cond.methodLink RX9 70 yX9_lays, Cond.instanceMethod yX9_lays, Cond.selects RX9 yX9_lays yX9_lays, Cond.code yX9_lays cX9_lays 4 none, Cond.fieldLink RX9 19 "PlusCodesModel" "terms" "[I", Cond.methodLink RX9 60 yX9_places, Cond.instanceMethod yX9_places, Cond.selects RX9 yX9_places yX9_places, Cond.code yX9_places cX9_places 1 (some .int), Cond.methodLink RX9 49 yX9_length, Cond.instanceMethod yX9_length, Cond.selects RX9 yX9_length yX9_length, Cond.code yX9_length cX9_length 1 (some .int)]
def wsX9_isFew_r2 : List Cond := [Cond.methodLink RX9 63 yX9_bits, Cond.static yX9_bits, Cond.code yX9_bits cX9_bits 3 (some .int)]
def wsX9_isFew : List Cond := .code yX9_isFew cX9_isFew 1 (some .boolean) :: ((wsX9_isFew_r1 ++ wsX9_isFew_r2) ++ wsX90)
def wsX9_laysBasis_r1 : List Cond := [Cond.fieldLink RX9 22 "PlusCodesModel" "basis" "[I", Cond.fieldLink RX9 19 "PlusCodesModel" "terms" "[I", Cond.methodLink RX9 100 yX9_many, Cond.instanceMethod yX9_many, Cond.selects RX9 yX9_many yX9_many, Cond.initialized RX9, Cond.code yX9_many cX9_many 1 (some .int), Cond.fieldLink RX9 57 "PlusCodesModel" "termsMany" "I", Cond.methodLink RX9 67 yX9_order, Cond.instanceMethod yX9_order, Cond.selects RX9 yX9_order yX9_order, Cond.code yX9_order cX9_order 1 (some .int), Cond.fieldLink RX9 7 "PlusCodesModel" "all" "[I", Cond.methodLink RX9 70 yX9_lays, Cond.instanceMethod yX9_lays, Cond.selects RX9 yX9_lays yX9_lays, Cond.code yX9_lays cX9_lays 4 none, Cond.methodLink RX9 60 yX9_places, Cond.instanceMethod yX9_places, Cond.selects RX9 yX9_places yX9_places, Cond.code yX9_places cX9_places 1 (some .int), Cond.methodLink RX9 49 yX9_length, Cond.instanceMethod yX9_length, Cond.selects RX9 yX9_length yX9_length]
def wsX9_laysBasis_r2 : List Cond := [Cond.code yX9_length cX9_length 1 (some .int), Cond.methodLink RX9 63 yX9_bits, Cond.static yX9_bits, Cond.code yX9_bits cX9_bits 3 (some .int), Cond.methodLink RX9 78 yX9_wordOf, Cond.instanceMethod yX9_wordOf, Cond.selects RX9 yX9_wordOf yX9_wordOf, Cond.code yX9_wordOf cX9_wordOf 4 (some .int)]
def wsX9_laysBasis : List Cond := .code yX9_laysBasis cX9_laysBasis 3 none :: ((wsX9_laysBasis_r1 ++ wsX9_laysBasis_r2) ++ wsX90)
def wsX9_finds_r1 : List Cond := [Cond.fieldLink RX9 179 "PlusCodesModel" "nearWord" "I", Cond.fieldLink RX9 182 "PlusCodesModel" "nearBy" "I", Cond.fieldLink RX9 185 "PlusCodesModel" "nearMany" "I", Cond.fieldLink RX9 22 "PlusCodesModel" "basis" "[I", Cond.methodLink RX9 100 yX9_many, Cond.instanceMethod yX9_many, Cond.selects RX9 yX9_many yX9_many, Cond.initialized RX9, Cond.code yX9_many cX9_many 1 (some .int), Cond.fieldLink RX9 57 "PlusCodesModel" "termsMany" "I", Cond.methodLink RX9 67 yX9_order, Cond.instanceMethod yX9_order, Cond.selects RX9 yX9_order yX9_order, Cond.code yX9_order cX9_order 1 (some .int), Cond.fieldLink RX9 7 "PlusCodesModel" "all" "[I", Cond.methodLink RX9 70 yX9_lays, Cond.instanceMethod yX9_lays, Cond.selects RX9 yX9_lays yX9_lays, Cond.code yX9_lays cX9_lays 4 none, Cond.fieldLink RX9 19 "PlusCodesModel" "terms" "[I", Cond.methodLink RX9 60 yX9_places, Cond.instanceMethod yX9_places, Cond.selects RX9 yX9_places yX9_places, Cond.code yX9_places cX9_places 1 (some .int)]
def wsX9_finds_r2 : List Cond := [Cond.methodLink RX9 49 yX9_length, Cond.instanceMethod yX9_length, Cond.selects RX9 yX9_length yX9_length, Cond.code yX9_length cX9_length 1 (some .int), Cond.methodLink RX9 63 yX9_bits, Cond.static yX9_bits, Cond.code yX9_bits cX9_bits 3 (some .int), Cond.methodLink RX9 176 yX9_laysBasis, Cond.instanceMethod yX9_laysBasis, Cond.selects RX9 yX9_laysBasis yX9_laysBasis, Cond.code yX9_laysBasis cX9_laysBasis 3 none, Cond.methodLink RX9 78 yX9_wordOf, Cond.instanceMethod yX9_wordOf, Cond.selects RX9 yX9_wordOf yX9_wordOf, Cond.code yX9_wordOf cX9_wordOf 4 (some .int), Cond.methodLink RX9 116 yX9_theWord, Cond.instanceMethod yX9_theWord, Cond.selects RX9 yX9_theWord yX9_theWord, Cond.code yX9_theWord cX9_theWord 1 (some .int), Cond.methodLink RX9 74 yX9_has, Cond.static yX9_has, Cond.code yX9_has cX9_has 2 (some .boolean)]
def wsX9_finds : List Cond := .code yX9_finds cX9_finds 6 none :: ((wsX9_finds_r1 ++ wsX9_finds_r2) ++ wsX90)
def wsX9_nearest_r1 : List Cond := [Cond.fieldLink RX9 182 "PlusCodesModel" "nearBy" "I", Cond.fieldLink RX9 185 "PlusCodesModel" "nearMany" "I", Cond.methodLink RX9 83 yX9_in, Cond.static yX9_in, Cond.initialized RX9, Cond.code yX9_in cX9_in 6 (some .boolean), Cond.methodLink RX9 90 yX9_bad, Cond.instanceMethod yX9_bad, Cond.selects RX9 yX9_bad yX9_bad, Cond.code yX9_bad cX9_bad 2 (some .int), Cond.fieldLink RX9 16 "PlusCodesModel" "refused" "[I", Cond.methodLink RX9 188 yX9_isFew, Cond.instanceMethod yX9_isFew, Cond.selects RX9 yX9_isFew yX9_isFew, Cond.code yX9_isFew cX9_isFew 1 (some .boolean), Cond.methodLink RX9 100 yX9_many, Cond.instanceMethod yX9_many, Cond.selects RX9 yX9_many yX9_many, Cond.code yX9_many cX9_many 1 (some .int), Cond.fieldLink RX9 57 "PlusCodesModel" "termsMany" "I", Cond.methodLink RX9 67 yX9_order, Cond.instanceMethod yX9_order, Cond.selects RX9 yX9_order yX9_order, Cond.code yX9_order cX9_order 1 (some .int)]
def wsX9_nearest_r2 : List Cond := [Cond.fieldLink RX9 7 "PlusCodesModel" "all" "[I", Cond.methodLink RX9 70 yX9_lays, Cond.instanceMethod yX9_lays, Cond.selects RX9 yX9_lays yX9_lays, Cond.code yX9_lays cX9_lays 4 none, Cond.fieldLink RX9 19 "PlusCodesModel" "terms" "[I", Cond.methodLink RX9 60 yX9_places, Cond.instanceMethod yX9_places, Cond.selects RX9 yX9_places yX9_places, Cond.code yX9_places cX9_places 1 (some .int), Cond.methodLink RX9 49 yX9_length, Cond.instanceMethod yX9_length, Cond.selects RX9 yX9_length yX9_length, Cond.code yX9_length cX9_length 1 (some .int), Cond.methodLink RX9 63 yX9_bits, Cond.static yX9_bits, Cond.code yX9_bits cX9_bits 3 (some .int), Cond.methodLink RX9 192 yX9_no, Cond.instanceMethod yX9_no, Cond.selects RX9 yX9_no yX9_no, Cond.code yX9_no cX9_no 2 (some .int), Cond.methodLink RX9 195 yX9_finds, Cond.instanceMethod yX9_finds, Cond.selects RX9 yX9_finds yX9_finds]
def wsX9_nearest_r3 : List Cond := [Cond.code yX9_finds cX9_finds 6 none, Cond.fieldLink RX9 179 "PlusCodesModel" "nearWord" "I", Cond.fieldLink RX9 22 "PlusCodesModel" "basis" "[I", Cond.methodLink RX9 176 yX9_laysBasis, Cond.instanceMethod yX9_laysBasis, Cond.selects RX9 yX9_laysBasis yX9_laysBasis, Cond.code yX9_laysBasis cX9_laysBasis 3 none, Cond.methodLink RX9 78 yX9_wordOf, Cond.instanceMethod yX9_wordOf, Cond.selects RX9 yX9_wordOf yX9_wordOf, Cond.code yX9_wordOf cX9_wordOf 4 (some .int), Cond.methodLink RX9 116 yX9_theWord, Cond.instanceMethod yX9_theWord, Cond.selects RX9 yX9_theWord yX9_theWord, Cond.code yX9_theWord cX9_theWord 1 (some .int), Cond.methodLink RX9 74 yX9_has, Cond.static yX9_has, Cond.code yX9_has cX9_has 2 (some .boolean)]
def wsX9_nearest : List Cond := .code yX9_nearest cX9_nearest 2 (some .int) :: ((wsX9_nearest_r1 ++ (wsX9_nearest_r2 ++ wsX9_nearest_r3)) ++ wsX90)
def wsX9_near_r1 : List Cond := [Cond.fieldLink RX9 179 "PlusCodesModel" "nearWord" "I", Cond.methodLink RX9 188 yX9_isFew, Cond.instanceMethod yX9_isFew, Cond.selects RX9 yX9_isFew yX9_isFew, Cond.initialized RX9, Cond.code yX9_isFew cX9_isFew 1 (some .boolean), Cond.methodLink RX9 100 yX9_many, Cond.instanceMethod yX9_many, Cond.selects RX9 yX9_many yX9_many, Cond.code yX9_many cX9_many 1 (some .int), Cond.fieldLink RX9 57 "PlusCodesModel" "termsMany" "I", Cond.methodLink RX9 67 yX9_order, Cond.instanceMethod yX9_order, Cond.selects RX9 yX9_order yX9_order, Cond.code yX9_order cX9_order 1 (some .int), Cond.fieldLink RX9 7 "PlusCodesModel" "all" "[I", Cond.methodLink RX9 70 yX9_lays, Cond.instanceMethod yX9_lays, Cond.selects RX9 yX9_lays yX9_lays, Cond.code yX9_lays cX9_lays 4 none, Cond.fieldLink RX9 19 "PlusCodesModel" "terms" "[I", Cond.methodLink RX9 60 yX9_places, Cond.instanceMethod yX9_places, Cond.selects RX9 yX9_places yX9_places]
def wsX9_near_r2 : List Cond := [Cond.code yX9_places cX9_places 1 (some .int), Cond.methodLink RX9 49 yX9_length, Cond.instanceMethod yX9_length, Cond.selects RX9 yX9_length yX9_length, Cond.code yX9_length cX9_length 1 (some .int), Cond.methodLink RX9 63 yX9_bits, Cond.static yX9_bits, Cond.code yX9_bits cX9_bits 3 (some .int), Cond.methodLink RX9 192 yX9_no, Cond.instanceMethod yX9_no, Cond.selects RX9 yX9_no yX9_no, Cond.code yX9_no cX9_no 2 (some .int), Cond.fieldLink RX9 16 "PlusCodesModel" "refused" "[I", Cond.methodLink RX9 195 yX9_finds, Cond.instanceMethod yX9_finds, Cond.selects RX9 yX9_finds yX9_finds, Cond.code yX9_finds cX9_finds 6 none, Cond.fieldLink RX9 182 "PlusCodesModel" "nearBy" "I", Cond.fieldLink RX9 185 "PlusCodesModel" "nearMany" "I", Cond.fieldLink RX9 22 "PlusCodesModel" "basis" "[I", Cond.methodLink RX9 176 yX9_laysBasis, Cond.instanceMethod yX9_laysBasis, Cond.selects RX9 yX9_laysBasis yX9_laysBasis, Cond.code yX9_laysBasis cX9_laysBasis 3 none]
def wsX9_near_r3 : List Cond := [Cond.methodLink RX9 78 yX9_wordOf, Cond.instanceMethod yX9_wordOf, Cond.selects RX9 yX9_wordOf yX9_wordOf, Cond.code yX9_wordOf cX9_wordOf 4 (some .int), Cond.methodLink RX9 116 yX9_theWord, Cond.instanceMethod yX9_theWord, Cond.selects RX9 yX9_theWord yX9_theWord, Cond.code yX9_theWord cX9_theWord 1 (some .int), Cond.methodLink RX9 74 yX9_has, Cond.static yX9_has, Cond.code yX9_has cX9_has 2 (some .boolean)]
def wsX9_near : List Cond := .code yX9_near cX9_near 1 (some .int) :: ((wsX9_near_r1 ++ (wsX9_near_r2 ++ wsX9_near_r3)) ++ wsX90)
def wsX9_softOf : List Cond := .code yX9_softOf cX9_softOf 2 (some .int) :: ([.fieldLink RX9 7 "PlusCodesModel" "all" "[I"] ++ wsX90)
def wsX9_softens : List Cond := .code yX9_softens cX9_softens 4 (some .int) :: ([.fieldLink RX9 7 "PlusCodesModel" "all" "[I", .methodLink RX9 198 yX9_softOf, .instanceMethod yX9_softOf, .selects RX9 yX9_softOf yX9_softOf, .initialized RX9, .code yX9_softOf cX9_softOf 2 (some .int)] ++ wsX90)
def wsX9_soft_r1 : List Cond := [Cond.constantLong RX9 201 (-99), Cond.constantLong RX9 203 (99), Cond.methodLink RX9 122 yX9_isPlace, Cond.instanceMethod yX9_isPlace, Cond.selects RX9 yX9_isPlace yX9_isPlace, Cond.initialized RX9, Cond.code yX9_isPlace cX9_isPlace 2 (some .boolean), Cond.methodLink RX9 60 yX9_places, Cond.instanceMethod yX9_places, Cond.selects RX9 yX9_places yX9_places, Cond.code yX9_places cX9_places 1 (some .int), Cond.methodLink RX9 49 yX9_length, Cond.instanceMethod yX9_length, Cond.selects RX9 yX9_length yX9_length, Cond.code yX9_length cX9_length 1 (some .int), Cond.fieldLink RX9 7 "PlusCodesModel" "all" "[I", Cond.methodLink RX9 83 yX9_in, Cond.static yX9_in, Cond.code yX9_in cX9_in 6 (some .boolean), Cond.methodLink RX9 90 yX9_bad, Cond.instanceMethod yX9_bad, Cond.selects RX9 yX9_bad yX9_bad, Cond.code yX9_bad cX9_bad 2 (some .int), Cond.fieldLink RX9 16 "PlusCodesModel" "refused" "[I"]
def wsX9_soft_r2 : List Cond := [Cond.methodLink RX9 93 yX9_keep, Cond.instanceMethod yX9_keep, Cond.selects RX9 yX9_keep yX9_keep, Cond.code yX9_keep cX9_keep 2 none, Cond.fieldLink RX9 53 "PlusCodesModel" "states" "I", Cond.fieldLink RX9 13 "PlusCodesModel" "past" "[I", Cond.methodLink RX9 205 yX9_softens, Cond.instanceMethod yX9_softens, Cond.selects RX9 yX9_softens yX9_softens, Cond.code yX9_softens cX9_softens 4 (some .int), Cond.methodLink RX9 198 yX9_softOf, Cond.instanceMethod yX9_softOf, Cond.selects RX9 yX9_softOf yX9_softOf, Cond.code yX9_softOf cX9_softOf 2 (some .int)]
def wsX9_soft : List Cond := .code yX9_soft cX9_soft 3 (some .int) :: ((wsX9_soft_r1 ++ wsX9_soft_r2) ++ wsX90)
def wsX9_harden_r1 : List Cond := [Cond.constantLong RX9 203 (99), Cond.fieldLink RX9 7 "PlusCodesModel" "all" "[I", Cond.methodLink RX9 83 yX9_in, Cond.static yX9_in, Cond.initialized RX9, Cond.code yX9_in cX9_in 6 (some .boolean), Cond.methodLink RX9 90 yX9_bad, Cond.instanceMethod yX9_bad, Cond.selects RX9 yX9_bad yX9_bad, Cond.code yX9_bad cX9_bad 2 (some .int), Cond.fieldLink RX9 16 "PlusCodesModel" "refused" "[I", Cond.methodLink RX9 93 yX9_keep, Cond.instanceMethod yX9_keep, Cond.selects RX9 yX9_keep yX9_keep, Cond.code yX9_keep cX9_keep 2 none, Cond.fieldLink RX9 53 "PlusCodesModel" "states" "I", Cond.fieldLink RX9 13 "PlusCodesModel" "past" "[I", Cond.methodLink RX9 60 yX9_places, Cond.instanceMethod yX9_places, Cond.selects RX9 yX9_places yX9_places, Cond.code yX9_places cX9_places 1 (some .int), Cond.methodLink RX9 49 yX9_length, Cond.instanceMethod yX9_length, Cond.selects RX9 yX9_length yX9_length]
def wsX9_harden_r2 : List Cond := [Cond.code yX9_length cX9_length 1 (some .int), Cond.methodLink RX9 116 yX9_theWord, Cond.instanceMethod yX9_theWord, Cond.selects RX9 yX9_theWord yX9_theWord, Cond.code yX9_theWord cX9_theWord 1 (some .int), Cond.methodLink RX9 74 yX9_has, Cond.static yX9_has, Cond.code yX9_has cX9_has 2 (some .boolean)]
def wsX9_harden : List Cond := .code yX9_harden cX9_harden 3 (some .int) :: ((wsX9_harden_r1 ++ wsX9_harden_r2) ++ wsX90)
def wsX9_plain : List Cond := .code yX9_plain cX9_plain 5 (some .int) :: ([.fieldLink RX9 31 "PlusCodesModel" "lengthAt" "[I", .fieldLink RX9 25 "PlusCodesModel" "numbers" "[I", .fieldLink RX9 28 "PlusCodesModel" "orderAt" "[I", .methodLink RX9 106 yX9_allOf, .static yX9_allOf, .initialized RX9, .code yX9_allOf cX9_allOf 1 (some .int)] ++ wsX90)
def wsX9_lesser : List Cond := .code yX9_lesser cX9_lesser 3 (some .int) :: ([.methodLink RX9 173 yX9_far, .static yX9_far, .initialized RX9, .code yX9_far cX9_far 1 (some .int)])
def wsX9_begins : List Cond := .code yX9_begins cX9_begins 4 none :: ([.fieldLink RX9 28 "PlusCodesModel" "orderAt" "[I", .fieldLink RX9 31 "PlusCodesModel" "lengthAt" "[I", .fieldLink RX9 34 "PlusCodesModel" "phase" "[I"] ++ wsX90)
def wsX9_halvesOf_r1 : List Cond := [Cond.fieldLink RX9 25 "PlusCodesModel" "numbers" "[I", Cond.fieldLink RX9 31 "PlusCodesModel" "lengthAt" "[I", Cond.fieldLink RX9 28 "PlusCodesModel" "orderAt" "[I", Cond.fieldLink RX9 34 "PlusCodesModel" "phase" "[I", Cond.fieldLink RX9 37 "PlusCodesModel" "upon" "[I", Cond.methodLink RX9 67 yX9_order, Cond.instanceMethod yX9_order, Cond.selects RX9 yX9_order yX9_order, Cond.initialized RX9, Cond.code yX9_order cX9_order 1 (some .int), Cond.fieldLink RX9 7 "PlusCodesModel" "all" "[I", Cond.methodLink RX9 49 yX9_length, Cond.instanceMethod yX9_length, Cond.selects RX9 yX9_length yX9_length, Cond.code yX9_length cX9_length 1 (some .int), Cond.methodLink RX9 208 yX9_begins, Cond.instanceMethod yX9_begins, Cond.selects RX9 yX9_begins yX9_begins, Cond.code yX9_begins cX9_begins 4 none, Cond.methodLink RX9 60 yX9_places, Cond.instanceMethod yX9_places, Cond.selects RX9 yX9_places yX9_places, Cond.code yX9_places cX9_places 1 (some .int), Cond.methodLink RX9 198 yX9_softOf]
def wsX9_halvesOf_r2 : List Cond := [Cond.instanceMethod yX9_softOf, Cond.selects RX9 yX9_softOf yX9_softOf, Cond.code yX9_softOf cX9_softOf 2 (some .int), Cond.methodLink RX9 212 yX9_plain, Cond.instanceMethod yX9_plain, Cond.selects RX9 yX9_plain yX9_plain, Cond.code yX9_plain cX9_plain 5 (some .int), Cond.methodLink RX9 106 yX9_allOf, Cond.static yX9_allOf, Cond.code yX9_allOf cX9_allOf 1 (some .int), Cond.methodLink RX9 215 yX9_lesser, Cond.static yX9_lesser, Cond.code yX9_lesser cX9_lesser 3 (some .int), Cond.methodLink RX9 173 yX9_far, Cond.static yX9_far, Cond.code yX9_far cX9_far 1 (some .int), Cond.methodLink RX9 74 yX9_has, Cond.static yX9_has, Cond.code yX9_has cX9_has 2 (some .boolean)]
def wsX9_halvesOf : List Cond := .code yX9_halvesOf cX9_halvesOf 7 (some .int) :: ((wsX9_halvesOf_r1 ++ wsX9_halvesOf_r2) ++ wsX90)
def wsX9_halves_r1 : List Cond := [Cond.methodLink RX9 218 yX9_halvesOf, Cond.instanceMethod yX9_halvesOf, Cond.selects RX9 yX9_halvesOf yX9_halvesOf, Cond.initialized RX9, Cond.code yX9_halvesOf cX9_halvesOf 7 (some .int), Cond.fieldLink RX9 25 "PlusCodesModel" "numbers" "[I", Cond.fieldLink RX9 31 "PlusCodesModel" "lengthAt" "[I", Cond.fieldLink RX9 28 "PlusCodesModel" "orderAt" "[I", Cond.fieldLink RX9 34 "PlusCodesModel" "phase" "[I", Cond.fieldLink RX9 37 "PlusCodesModel" "upon" "[I", Cond.methodLink RX9 67 yX9_order, Cond.instanceMethod yX9_order, Cond.selects RX9 yX9_order yX9_order, Cond.code yX9_order cX9_order 1 (some .int), Cond.fieldLink RX9 7 "PlusCodesModel" "all" "[I", Cond.methodLink RX9 49 yX9_length, Cond.instanceMethod yX9_length, Cond.selects RX9 yX9_length yX9_length, Cond.code yX9_length cX9_length 1 (some .int), Cond.methodLink RX9 208 yX9_begins, Cond.instanceMethod yX9_begins, Cond.selects RX9 yX9_begins yX9_begins, Cond.code yX9_begins cX9_begins 4 none, Cond.methodLink RX9 60 yX9_places]
def wsX9_halves_r2 : List Cond := [Cond.instanceMethod yX9_places, Cond.selects RX9 yX9_places yX9_places, Cond.code yX9_places cX9_places 1 (some .int), Cond.methodLink RX9 198 yX9_softOf, Cond.instanceMethod yX9_softOf, Cond.selects RX9 yX9_softOf yX9_softOf, Cond.code yX9_softOf cX9_softOf 2 (some .int), Cond.methodLink RX9 212 yX9_plain, Cond.instanceMethod yX9_plain, Cond.selects RX9 yX9_plain yX9_plain, Cond.code yX9_plain cX9_plain 5 (some .int), Cond.methodLink RX9 106 yX9_allOf, Cond.static yX9_allOf, Cond.code yX9_allOf cX9_allOf 1 (some .int), Cond.methodLink RX9 215 yX9_lesser, Cond.static yX9_lesser, Cond.code yX9_lesser cX9_lesser 3 (some .int), Cond.methodLink RX9 173 yX9_far, Cond.static yX9_far, Cond.code yX9_far cX9_far 1 (some .int), Cond.methodLink RX9 74 yX9_has, Cond.static yX9_has, Cond.code yX9_has cX9_has 2 (some .boolean)]
def wsX9_halves : List Cond := .code yX9_halves cX9_halves 1 (some .int) :: ((wsX9_halves_r1 ++ wsX9_halves_r2) ++ wsX90)
def wsX9_meritOf : List Cond := .code yX9_meritOf cX9_meritOf 4 (some .int) :: ([.methodLink RX9 60 yX9_places, .instanceMethod yX9_places, .selects RX9 yX9_places yX9_places, .initialized RX9, .code yX9_places cX9_places 1 (some .int), .methodLink RX9 49 yX9_length, .instanceMethod yX9_length, .selects RX9 yX9_length yX9_length, .code yX9_length cX9_length 1 (some .int), .fieldLink RX9 7 "PlusCodesModel" "all" "[I", .methodLink RX9 74 yX9_has, .static yX9_has, .code yX9_has cX9_has 2 (some .boolean), .methodLink RX9 198 yX9_softOf, .instanceMethod yX9_softOf, .selects RX9 yX9_softOf yX9_softOf, .code yX9_softOf cX9_softOf 2 (some .int)] ++ wsX90)
def wsX9_greatest_r1 : List Cond := [Cond.fieldLink RX9 22 "PlusCodesModel" "basis" "[I", Cond.methodLink RX9 100 yX9_many, Cond.instanceMethod yX9_many, Cond.selects RX9 yX9_many yX9_many, Cond.initialized RX9, Cond.code yX9_many cX9_many 1 (some .int), Cond.fieldLink RX9 57 "PlusCodesModel" "termsMany" "I", Cond.methodLink RX9 67 yX9_order, Cond.instanceMethod yX9_order, Cond.selects RX9 yX9_order yX9_order, Cond.code yX9_order cX9_order 1 (some .int), Cond.fieldLink RX9 7 "PlusCodesModel" "all" "[I", Cond.methodLink RX9 70 yX9_lays, Cond.instanceMethod yX9_lays, Cond.selects RX9 yX9_lays yX9_lays, Cond.code yX9_lays cX9_lays 4 none, Cond.fieldLink RX9 19 "PlusCodesModel" "terms" "[I", Cond.methodLink RX9 60 yX9_places, Cond.instanceMethod yX9_places, Cond.selects RX9 yX9_places yX9_places, Cond.code yX9_places cX9_places 1 (some .int), Cond.methodLink RX9 49 yX9_length, Cond.instanceMethod yX9_length, Cond.selects RX9 yX9_length yX9_length]
def wsX9_greatest_r2 : List Cond := [Cond.code yX9_length cX9_length 1 (some .int), Cond.methodLink RX9 63 yX9_bits, Cond.static yX9_bits, Cond.code yX9_bits cX9_bits 3 (some .int), Cond.methodLink RX9 176 yX9_laysBasis, Cond.instanceMethod yX9_laysBasis, Cond.selects RX9 yX9_laysBasis yX9_laysBasis, Cond.code yX9_laysBasis cX9_laysBasis 3 none, Cond.methodLink RX9 78 yX9_wordOf, Cond.instanceMethod yX9_wordOf, Cond.selects RX9 yX9_wordOf yX9_wordOf, Cond.code yX9_wordOf cX9_wordOf 4 (some .int), Cond.methodLink RX9 221 yX9_meritOf, Cond.instanceMethod yX9_meritOf, Cond.selects RX9 yX9_meritOf yX9_meritOf, Cond.code yX9_meritOf cX9_meritOf 4 (some .int), Cond.methodLink RX9 74 yX9_has, Cond.static yX9_has, Cond.code yX9_has cX9_has 2 (some .boolean), Cond.methodLink RX9 198 yX9_softOf, Cond.instanceMethod yX9_softOf, Cond.selects RX9 yX9_softOf yX9_softOf, Cond.code yX9_softOf cX9_softOf 2 (some .int)]
def wsX9_greatest : List Cond := .code yX9_greatest cX9_greatest 7 (some .int) :: ((wsX9_greatest_r1 ++ wsX9_greatest_r2) ++ wsX90)
def wsX9_merit_r1 : List Cond := [Cond.constantLong RX9 171 (2), Cond.methodLink RX9 83 yX9_in, Cond.static yX9_in, Cond.initialized RX9, Cond.code yX9_in cX9_in 6 (some .boolean), Cond.methodLink RX9 90 yX9_bad, Cond.instanceMethod yX9_bad, Cond.selects RX9 yX9_bad yX9_bad, Cond.code yX9_bad cX9_bad 2 (some .int), Cond.fieldLink RX9 16 "PlusCodesModel" "refused" "[I", Cond.methodLink RX9 188 yX9_isFew, Cond.instanceMethod yX9_isFew, Cond.selects RX9 yX9_isFew yX9_isFew, Cond.code yX9_isFew cX9_isFew 1 (some .boolean), Cond.methodLink RX9 100 yX9_many, Cond.instanceMethod yX9_many, Cond.selects RX9 yX9_many yX9_many, Cond.code yX9_many cX9_many 1 (some .int), Cond.fieldLink RX9 57 "PlusCodesModel" "termsMany" "I", Cond.methodLink RX9 67 yX9_order, Cond.instanceMethod yX9_order, Cond.selects RX9 yX9_order yX9_order, Cond.code yX9_order cX9_order 1 (some .int), Cond.fieldLink RX9 7 "PlusCodesModel" "all" "[I"]
def wsX9_merit_r2 : List Cond := [Cond.methodLink RX9 70 yX9_lays, Cond.instanceMethod yX9_lays, Cond.selects RX9 yX9_lays yX9_lays, Cond.code yX9_lays cX9_lays 4 none, Cond.fieldLink RX9 19 "PlusCodesModel" "terms" "[I", Cond.methodLink RX9 60 yX9_places, Cond.instanceMethod yX9_places, Cond.selects RX9 yX9_places yX9_places, Cond.code yX9_places cX9_places 1 (some .int), Cond.methodLink RX9 49 yX9_length, Cond.instanceMethod yX9_length, Cond.selects RX9 yX9_length yX9_length, Cond.code yX9_length cX9_length 1 (some .int), Cond.methodLink RX9 63 yX9_bits, Cond.static yX9_bits, Cond.code yX9_bits cX9_bits 3 (some .int), Cond.methodLink RX9 192 yX9_no, Cond.instanceMethod yX9_no, Cond.selects RX9 yX9_no yX9_no, Cond.code yX9_no cX9_no 2 (some .int), Cond.methodLink RX9 116 yX9_theWord, Cond.instanceMethod yX9_theWord, Cond.selects RX9 yX9_theWord yX9_theWord, Cond.code yX9_theWord cX9_theWord 1 (some .int)]
def wsX9_merit_r3 : List Cond := [Cond.methodLink RX9 221 yX9_meritOf, Cond.instanceMethod yX9_meritOf, Cond.selects RX9 yX9_meritOf yX9_meritOf, Cond.code yX9_meritOf cX9_meritOf 4 (some .int), Cond.methodLink RX9 74 yX9_has, Cond.static yX9_has, Cond.code yX9_has cX9_has 2 (some .boolean), Cond.methodLink RX9 198 yX9_softOf, Cond.instanceMethod yX9_softOf, Cond.selects RX9 yX9_softOf yX9_softOf, Cond.code yX9_softOf cX9_softOf 2 (some .int), Cond.methodLink RX9 218 yX9_halvesOf, Cond.instanceMethod yX9_halvesOf, Cond.selects RX9 yX9_halvesOf yX9_halvesOf, Cond.code yX9_halvesOf cX9_halvesOf 7 (some .int), Cond.fieldLink RX9 25 "PlusCodesModel" "numbers" "[I", Cond.fieldLink RX9 31 "PlusCodesModel" "lengthAt" "[I", Cond.fieldLink RX9 28 "PlusCodesModel" "orderAt" "[I", Cond.fieldLink RX9 34 "PlusCodesModel" "phase" "[I", Cond.fieldLink RX9 37 "PlusCodesModel" "upon" "[I", Cond.methodLink RX9 208 yX9_begins, Cond.instanceMethod yX9_begins, Cond.selects RX9 yX9_begins yX9_begins, Cond.code yX9_begins cX9_begins 4 none]
def wsX9_merit_r4 : List Cond := [Cond.methodLink RX9 212 yX9_plain, Cond.instanceMethod yX9_plain, Cond.selects RX9 yX9_plain yX9_plain, Cond.code yX9_plain cX9_plain 5 (some .int), Cond.methodLink RX9 106 yX9_allOf, Cond.static yX9_allOf, Cond.code yX9_allOf cX9_allOf 1 (some .int), Cond.methodLink RX9 215 yX9_lesser, Cond.static yX9_lesser, Cond.code yX9_lesser cX9_lesser 3 (some .int), Cond.methodLink RX9 173 yX9_far, Cond.static yX9_far, Cond.code yX9_far cX9_far 1 (some .int), Cond.methodLink RX9 224 yX9_greatest, Cond.instanceMethod yX9_greatest, Cond.selects RX9 yX9_greatest yX9_greatest, Cond.code yX9_greatest cX9_greatest 7 (some .int), Cond.fieldLink RX9 22 "PlusCodesModel" "basis" "[I", Cond.methodLink RX9 176 yX9_laysBasis, Cond.instanceMethod yX9_laysBasis, Cond.selects RX9 yX9_laysBasis yX9_laysBasis, Cond.code yX9_laysBasis cX9_laysBasis 3 none, Cond.methodLink RX9 78 yX9_wordOf, Cond.instanceMethod yX9_wordOf]
def wsX9_merit_r5 : List Cond := [Cond.selects RX9 yX9_wordOf yX9_wordOf, Cond.code yX9_wordOf cX9_wordOf 4 (some .int)]
def wsX9_merit : List Cond := .code yX9_merit cX9_merit 2 (some .int) :: ((wsX9_merit_r1 ++ (wsX9_merit_r2 ++ (wsX9_merit_r3 ++ (wsX9_merit_r4 ++ wsX9_merit_r5)))) ++ wsX90)
def wsX9_weights_r1 : List Cond := [Cond.constantLong RX9 227 (32), Cond.fieldLink RX9 22 "PlusCodesModel" "basis" "[I", Cond.methodLink RX9 83 yX9_in, Cond.static yX9_in, Cond.initialized RX9, Cond.code yX9_in cX9_in 6 (some .boolean), Cond.methodLink RX9 90 yX9_bad, Cond.instanceMethod yX9_bad, Cond.selects RX9 yX9_bad yX9_bad, Cond.code yX9_bad cX9_bad 2 (some .int), Cond.fieldLink RX9 16 "PlusCodesModel" "refused" "[I", Cond.methodLink RX9 188 yX9_isFew, Cond.instanceMethod yX9_isFew, Cond.selects RX9 yX9_isFew yX9_isFew, Cond.code yX9_isFew cX9_isFew 1 (some .boolean), Cond.methodLink RX9 100 yX9_many, Cond.instanceMethod yX9_many, Cond.selects RX9 yX9_many yX9_many, Cond.code yX9_many cX9_many 1 (some .int), Cond.fieldLink RX9 57 "PlusCodesModel" "termsMany" "I", Cond.methodLink RX9 67 yX9_order, Cond.instanceMethod yX9_order, Cond.selects RX9 yX9_order yX9_order, Cond.code yX9_order cX9_order 1 (some .int)]
def wsX9_weights_r2 : List Cond := [Cond.fieldLink RX9 7 "PlusCodesModel" "all" "[I", Cond.methodLink RX9 70 yX9_lays, Cond.instanceMethod yX9_lays, Cond.selects RX9 yX9_lays yX9_lays, Cond.code yX9_lays cX9_lays 4 none, Cond.fieldLink RX9 19 "PlusCodesModel" "terms" "[I", Cond.methodLink RX9 60 yX9_places, Cond.instanceMethod yX9_places, Cond.selects RX9 yX9_places yX9_places, Cond.code yX9_places cX9_places 1 (some .int), Cond.methodLink RX9 49 yX9_length, Cond.instanceMethod yX9_length, Cond.selects RX9 yX9_length yX9_length, Cond.code yX9_length cX9_length 1 (some .int), Cond.methodLink RX9 63 yX9_bits, Cond.static yX9_bits, Cond.code yX9_bits cX9_bits 3 (some .int), Cond.methodLink RX9 192 yX9_no, Cond.instanceMethod yX9_no, Cond.selects RX9 yX9_no yX9_no, Cond.code yX9_no cX9_no 2 (some .int), Cond.methodLink RX9 176 yX9_laysBasis, Cond.instanceMethod yX9_laysBasis, Cond.selects RX9 yX9_laysBasis yX9_laysBasis]
def wsX9_weights_r3 : List Cond := [Cond.code yX9_laysBasis cX9_laysBasis 3 none, Cond.methodLink RX9 78 yX9_wordOf, Cond.instanceMethod yX9_wordOf, Cond.selects RX9 yX9_wordOf yX9_wordOf, Cond.code yX9_wordOf cX9_wordOf 4 (some .int), Cond.methodLink RX9 74 yX9_has, Cond.static yX9_has, Cond.code yX9_has cX9_has 2 (some .boolean)]
def wsX9_weights : List Cond := .code yX9_weights cX9_weights 8 (some .int) :: ((wsX9_weights_r1 ++ (wsX9_weights_r2 ++ wsX9_weights_r3)) ++ wsX90)
def wsX9_perpendicular_r1 : List Cond := [Cond.fieldLink RX9 19 "PlusCodesModel" "terms" "[I", Cond.methodLink RX9 100 yX9_many, Cond.instanceMethod yX9_many, Cond.selects RX9 yX9_many yX9_many, Cond.initialized RX9, Cond.code yX9_many cX9_many 1 (some .int), Cond.fieldLink RX9 57 "PlusCodesModel" "termsMany" "I", Cond.methodLink RX9 67 yX9_order, Cond.instanceMethod yX9_order, Cond.selects RX9 yX9_order yX9_order, Cond.code yX9_order cX9_order 1 (some .int), Cond.fieldLink RX9 7 "PlusCodesModel" "all" "[I", Cond.methodLink RX9 70 yX9_lays, Cond.instanceMethod yX9_lays, Cond.selects RX9 yX9_lays yX9_lays, Cond.code yX9_lays cX9_lays 4 none, Cond.methodLink RX9 60 yX9_places, Cond.instanceMethod yX9_places, Cond.selects RX9 yX9_places yX9_places, Cond.code yX9_places cX9_places 1 (some .int), Cond.methodLink RX9 49 yX9_length, Cond.instanceMethod yX9_length, Cond.selects RX9 yX9_length yX9_length, Cond.code yX9_length cX9_length 1 (some .int)]
def wsX9_perpendicular_r2 : List Cond := [Cond.methodLink RX9 63 yX9_bits, Cond.static yX9_bits, Cond.code yX9_bits cX9_bits 3 (some .int), Cond.methodLink RX9 116 yX9_theWord, Cond.instanceMethod yX9_theWord, Cond.selects RX9 yX9_theWord yX9_theWord, Cond.code yX9_theWord cX9_theWord 1 (some .int), Cond.methodLink RX9 78 yX9_wordOf, Cond.instanceMethod yX9_wordOf, Cond.selects RX9 yX9_wordOf yX9_wordOf, Cond.code yX9_wordOf cX9_wordOf 4 (some .int)]
def wsX9_perpendicular : List Cond := .code yX9_perpendicular cX9_perpendicular 4 (some .int) :: ((wsX9_perpendicular_r1 ++ wsX9_perpendicular_r2) ++ wsX90)
def wsX9_around : List Cond := .code yX9_around cX9_around 6 (some .int) :: ([.methodLink RX9 60 yX9_places, .instanceMethod yX9_places, .selects RX9 yX9_places yX9_places, .initialized RX9, .code yX9_places cX9_places 1 (some .int), .methodLink RX9 49 yX9_length, .instanceMethod yX9_length, .selects RX9 yX9_length yX9_length, .code yX9_length cX9_length 1 (some .int), .fieldLink RX9 7 "PlusCodesModel" "all" "[I", .methodLink RX9 116 yX9_theWord, .instanceMethod yX9_theWord, .selects RX9 yX9_theWord yX9_theWord, .code yX9_theWord cX9_theWord 1 (some .int)] ++ wsX90)
def wsX9_asked_r1 : List Cond := [Cond.methodLink RX9 122 yX9_isPlace, Cond.instanceMethod yX9_isPlace, Cond.selects RX9 yX9_isPlace yX9_isPlace, Cond.initialized RX9, Cond.code yX9_isPlace cX9_isPlace 2 (some .boolean), Cond.methodLink RX9 60 yX9_places, Cond.instanceMethod yX9_places, Cond.selects RX9 yX9_places yX9_places, Cond.code yX9_places cX9_places 1 (some .int), Cond.methodLink RX9 49 yX9_length, Cond.instanceMethod yX9_length, Cond.selects RX9 yX9_length yX9_length, Cond.code yX9_length cX9_length 1 (some .int), Cond.fieldLink RX9 7 "PlusCodesModel" "all" "[I", Cond.methodLink RX9 83 yX9_in, Cond.static yX9_in, Cond.code yX9_in cX9_in 6 (some .boolean), Cond.methodLink RX9 90 yX9_bad, Cond.instanceMethod yX9_bad, Cond.selects RX9 yX9_bad yX9_bad, Cond.code yX9_bad cX9_bad 2 (some .int), Cond.fieldLink RX9 16 "PlusCodesModel" "refused" "[I", Cond.methodLink RX9 67 yX9_order, Cond.instanceMethod yX9_order]
def wsX9_asked_r2 : List Cond := [Cond.selects RX9 yX9_order yX9_order, Cond.code yX9_order cX9_order 1 (some .int), Cond.methodLink RX9 192 yX9_no, Cond.instanceMethod yX9_no, Cond.selects RX9 yX9_no yX9_no, Cond.code yX9_no cX9_no 2 (some .int), Cond.methodLink RX9 63 yX9_bits, Cond.static yX9_bits, Cond.code yX9_bits cX9_bits 3 (some .int), Cond.methodLink RX9 229 yX9_around, Cond.instanceMethod yX9_around, Cond.selects RX9 yX9_around yX9_around, Cond.code yX9_around cX9_around 6 (some .int), Cond.methodLink RX9 116 yX9_theWord, Cond.instanceMethod yX9_theWord, Cond.selects RX9 yX9_theWord yX9_theWord, Cond.code yX9_theWord cX9_theWord 1 (some .int)]
def wsX9_asked : List Cond := .code yX9_asked cX9_asked 4 (some .int) :: ((wsX9_asked_r1 ++ wsX9_asked_r2) ++ wsX90)
def wsX9_type : List Cond := .code yX9_type cX9_type 2 (some .int) :: ([.constantLong RX9 232 (127), .fieldLink RX9 234 "PlusCodesModel" "textLong" "I", .fieldLink RX9 40 "PlusCodesModel" "text" "[I", .methodLink RX9 83 yX9_in, .static yX9_in, .initialized RX9, .code yX9_in cX9_in 6 (some .boolean), .methodLink RX9 90 yX9_bad, .instanceMethod yX9_bad, .selects RX9 yX9_bad yX9_bad, .code yX9_bad cX9_bad 2 (some .int), .fieldLink RX9 16 "PlusCodesModel" "refused" "[I", .methodLink RX9 237 yX9_full, .instanceMethod yX9_full, .selects RX9 yX9_full yX9_full, .code yX9_full cX9_full 1 (some .int)] ++ wsX90)
def wsX9_clear : List Cond := .code yX9_clear cX9_clear 2 (some .int) :: ([.fieldLink RX9 234 "PlusCodesModel" "textLong" "I"] ++ wsX90)
def wsX9_here : List Cond := .code yX9_here cX9_here 1 (some .int) :: ([.fieldLink RX9 240 "PlusCodesModel" "place" "I", .fieldLink RX9 234 "PlusCodesModel" "textLong" "I", .fieldLink RX9 40 "PlusCodesModel" "text" "[I"] ++ wsX90)
def wsX9_isFigure : List Cond := .code yX9_isFigure cX9_isFigure 2 (some .boolean) :: ([.fieldLink RX9 234 "PlusCodesModel" "textLong" "I", .fieldLink RX9 40 "PlusCodesModel" "text" "[I", .constantLong RX9 243 (48), .constantLong RX9 245 (57), .methodLink RX9 83 yX9_in, .static yX9_in, .initialized RX9, .code yX9_in cX9_in 6 (some .boolean)] ++ wsX90)
def wsX9_takes : List Cond := .code yX9_takes cX9_takes 8 (some .boolean) :: ([.fieldLink RX9 240 "PlusCodesModel" "place" "I", .fieldLink RX9 40 "PlusCodesModel" "text" "[I", .fieldLink RX9 253 "PlusCodesModel" "value" "I", .constantLong RX9 171 (2), .methodLink RX9 247 yX9_here, .instanceMethod yX9_here, .selects RX9 yX9_here yX9_here, .initialized RX9, .code yX9_here cX9_here 1 (some .int), .fieldLink RX9 234 "PlusCodesModel" "textLong" "I", .methodLink RX9 250 yX9_isFigure, .instanceMethod yX9_isFigure, .selects RX9 yX9_isFigure yX9_isFigure, .code yX9_isFigure cX9_isFigure 2 (some .boolean), .constantLong RX9 243 (48), .constantLong RX9 245 (57), .methodLink RX9 83 yX9_in, .static yX9_in, .code yX9_in cX9_in 6 (some .boolean)] ++ wsX90)
def wsX9_hexAt : List Cond := .code yX9_hexAt cX9_hexAt 3 (some .int) :: ([.fieldLink RX9 234 "PlusCodesModel" "textLong" "I", .fieldLink RX9 40 "PlusCodesModel" "text" "[I", .constantLong RX9 243 (48), .constantLong RX9 245 (57), .constantLong RX9 256 (97), .constantLong RX9 258 (102), .methodLink RX9 83 yX9_in, .static yX9_in, .initialized RX9, .code yX9_in cX9_in 6 (some .boolean)] ++ wsX90)
def wsX9_takesHex_r1 : List Cond := [Cond.fieldLink RX9 240 "PlusCodesModel" "place" "I", Cond.fieldLink RX9 253 "PlusCodesModel" "value" "I", Cond.constantLong RX9 263 (8), Cond.methodLink RX9 247 yX9_here, Cond.instanceMethod yX9_here, Cond.selects RX9 yX9_here yX9_here, Cond.initialized RX9, Cond.code yX9_here cX9_here 1 (some .int), Cond.fieldLink RX9 234 "PlusCodesModel" "textLong" "I", Cond.fieldLink RX9 40 "PlusCodesModel" "text" "[I", Cond.methodLink RX9 260 yX9_hexAt, Cond.instanceMethod yX9_hexAt, Cond.selects RX9 yX9_hexAt yX9_hexAt, Cond.code yX9_hexAt cX9_hexAt 3 (some .int), Cond.constantLong RX9 243 (48), Cond.constantLong RX9 245 (57), Cond.constantLong RX9 256 (97), Cond.constantLong RX9 258 (102), Cond.methodLink RX9 83 yX9_in, Cond.static yX9_in, Cond.code yX9_in cX9_in 6 (some .boolean), Cond.methodLink RX9 109 yX9_isWithin, Cond.instanceMethod yX9_isWithin, Cond.selects RX9 yX9_isWithin yX9_isWithin]
def wsX9_takesHex_r2 : List Cond := [Cond.code yX9_isWithin cX9_isWithin 3 (some .boolean), Cond.methodLink RX9 106 yX9_allOf, Cond.static yX9_allOf, Cond.code yX9_allOf cX9_allOf 1 (some .int)]
def wsX9_takesHex : List Cond := .code yX9_takesHex cX9_takesHex 5 (some .boolean) :: ((wsX9_takesHex_r1 ++ wsX9_takesHex_r2) ++ wsX90)
def wsX9_doesOne_r1 : List Cond := [Cond.fieldLink RX9 268 "PlusCodesModel" "first" "I", Cond.fieldLink RX9 253 "PlusCodesModel" "value" "I", Cond.fieldLink RX9 7 "PlusCodesModel" "all" "[I", Cond.methodLink RX9 96 yX9_becomesCode, Cond.instanceMethod yX9_becomesCode, Cond.selects RX9 yX9_becomesCode yX9_becomesCode, Cond.initialized RX9, Cond.code yX9_becomesCode cX9_becomesCode 4 none, Cond.methodLink RX9 119 yX9_encodes, Cond.instanceMethod yX9_encodes, Cond.selects RX9 yX9_encodes yX9_encodes, Cond.code yX9_encodes cX9_encodes 3 (some .int), Cond.methodLink RX9 100 yX9_many, Cond.instanceMethod yX9_many, Cond.selects RX9 yX9_many yX9_many, Cond.code yX9_many cX9_many 1 (some .int), Cond.fieldLink RX9 57 "PlusCodesModel" "termsMany" "I", Cond.methodLink RX9 67 yX9_order, Cond.instanceMethod yX9_order, Cond.selects RX9 yX9_order yX9_order, Cond.code yX9_order cX9_order 1 (some .int), Cond.methodLink RX9 70 yX9_lays, Cond.instanceMethod yX9_lays, Cond.selects RX9 yX9_lays yX9_lays]
def wsX9_doesOne_r2 : List Cond := [Cond.code yX9_lays cX9_lays 4 none, Cond.fieldLink RX9 19 "PlusCodesModel" "terms" "[I", Cond.methodLink RX9 60 yX9_places, Cond.instanceMethod yX9_places, Cond.selects RX9 yX9_places yX9_places, Cond.code yX9_places cX9_places 1 (some .int), Cond.methodLink RX9 49 yX9_length, Cond.instanceMethod yX9_length, Cond.selects RX9 yX9_length yX9_length, Cond.code yX9_length cX9_length 1 (some .int), Cond.methodLink RX9 63 yX9_bits, Cond.static yX9_bits, Cond.code yX9_bits cX9_bits 3 (some .int), Cond.methodLink RX9 112 yX9_sumOf, Cond.instanceMethod yX9_sumOf, Cond.selects RX9 yX9_sumOf yX9_sumOf, Cond.code yX9_sumOf cX9_sumOf 5 (some .int), Cond.methodLink RX9 74 yX9_has, Cond.static yX9_has, Cond.code yX9_has cX9_has 2 (some .boolean), Cond.methodLink RX9 78 yX9_wordOf, Cond.instanceMethod yX9_wordOf, Cond.selects RX9 yX9_wordOf yX9_wordOf, Cond.code yX9_wordOf cX9_wordOf 4 (some .int)]
def wsX9_doesOne_r3 : List Cond := [Cond.methodLink RX9 116 yX9_theWord, Cond.instanceMethod yX9_theWord, Cond.selects RX9 yX9_theWord yX9_theWord, Cond.code yX9_theWord cX9_theWord 1 (some .int), Cond.methodLink RX9 126 yX9_flips, Cond.instanceMethod yX9_flips, Cond.selects RX9 yX9_flips yX9_flips, Cond.code yX9_flips cX9_flips 2 (some .int), Cond.methodLink RX9 165 yX9_mendsNow, Cond.instanceMethod yX9_mendsNow, Cond.selects RX9 yX9_mendsNow yX9_mendsNow, Cond.code yX9_mendsNow cX9_mendsNow 2 (some .int), Cond.fieldLink RX9 157 "PlusCodesModel" "mended" "I", Cond.methodLink RX9 160 yX9_votesNow, Cond.instanceMethod yX9_votesNow, Cond.selects RX9 yX9_votesNow yX9_votesNow, Cond.code yX9_votesNow cX9_votesNow 8 none, Cond.fieldLink RX9 142 "PlusCodesModel" "message" "I", Cond.fieldLink RX9 145 "PlusCodesModel" "ties" "I", Cond.fieldLink RX9 148 "PlusCodesModel" "closest" "I", Cond.fieldLink RX9 151 "PlusCodesModel" "closestBy" "I", Cond.methodLink RX9 154 yX9_voted, Cond.instanceMethod yX9_voted, Cond.selects RX9 yX9_voted yX9_voted]
def wsX9_doesOne_r4 : List Cond := [Cond.code yX9_voted cX9_voted 7 (some .int), Cond.methodLink RX9 205 yX9_softens, Cond.instanceMethod yX9_softens, Cond.selects RX9 yX9_softens yX9_softens, Cond.code yX9_softens cX9_softens 4 (some .int), Cond.methodLink RX9 198 yX9_softOf, Cond.instanceMethod yX9_softOf, Cond.selects RX9 yX9_softOf yX9_softOf, Cond.code yX9_softOf cX9_softOf 2 (some .int), Cond.methodLink RX9 218 yX9_halvesOf, Cond.instanceMethod yX9_halvesOf, Cond.selects RX9 yX9_halvesOf yX9_halvesOf, Cond.code yX9_halvesOf cX9_halvesOf 7 (some .int), Cond.fieldLink RX9 25 "PlusCodesModel" "numbers" "[I", Cond.fieldLink RX9 31 "PlusCodesModel" "lengthAt" "[I", Cond.fieldLink RX9 28 "PlusCodesModel" "orderAt" "[I", Cond.fieldLink RX9 34 "PlusCodesModel" "phase" "[I", Cond.fieldLink RX9 37 "PlusCodesModel" "upon" "[I", Cond.methodLink RX9 208 yX9_begins, Cond.instanceMethod yX9_begins, Cond.selects RX9 yX9_begins yX9_begins, Cond.code yX9_begins cX9_begins 4 none, Cond.methodLink RX9 212 yX9_plain, Cond.instanceMethod yX9_plain]
def wsX9_doesOne_r5 : List Cond := [Cond.selects RX9 yX9_plain yX9_plain, Cond.code yX9_plain cX9_plain 5 (some .int), Cond.methodLink RX9 106 yX9_allOf, Cond.static yX9_allOf, Cond.code yX9_allOf cX9_allOf 1 (some .int), Cond.methodLink RX9 215 yX9_lesser, Cond.static yX9_lesser, Cond.code yX9_lesser cX9_lesser 3 (some .int), Cond.methodLink RX9 173 yX9_far, Cond.static yX9_far, Cond.code yX9_far cX9_far 1 (some .int)]
def wsX9_doesOne : List Cond := .code yX9_doesOne cX9_doesOne 6 none :: ((wsX9_doesOne_r1 ++ (wsX9_doesOne_r2 ++ (wsX9_doesOne_r3 ++ (wsX9_doesOne_r4 ++ wsX9_doesOne_r5)))) ++ wsX90)
def wsX9_readsOne_r1 : List Cond := [Cond.fieldLink RX9 240 "PlusCodesModel" "place" "I", Cond.fieldLink RX9 253 "PlusCodesModel" "value" "I", Cond.fieldLink RX9 268 "PlusCodesModel" "first" "I", Cond.methodLink RX9 247 yX9_here, Cond.instanceMethod yX9_here, Cond.selects RX9 yX9_here yX9_here, Cond.initialized RX9, Cond.code yX9_here cX9_here 1 (some .int), Cond.fieldLink RX9 234 "PlusCodesModel" "textLong" "I", Cond.fieldLink RX9 40 "PlusCodesModel" "text" "[I", Cond.methodLink RX9 265 yX9_takes, Cond.instanceMethod yX9_takes, Cond.selects RX9 yX9_takes yX9_takes, Cond.code yX9_takes cX9_takes 8 (some .boolean), Cond.constantLong RX9 171 (2), Cond.methodLink RX9 250 yX9_isFigure, Cond.instanceMethod yX9_isFigure, Cond.selects RX9 yX9_isFigure yX9_isFigure, Cond.code yX9_isFigure cX9_isFigure 2 (some .boolean), Cond.constantLong RX9 243 (48), Cond.constantLong RX9 245 (57), Cond.methodLink RX9 83 yX9_in, Cond.static yX9_in, Cond.code yX9_in cX9_in 6 (some .boolean)]
def wsX9_readsOne_r2 : List Cond := [Cond.methodLink RX9 100 yX9_many, Cond.instanceMethod yX9_many, Cond.selects RX9 yX9_many yX9_many, Cond.code yX9_many cX9_many 1 (some .int), Cond.fieldLink RX9 57 "PlusCodesModel" "termsMany" "I", Cond.methodLink RX9 67 yX9_order, Cond.instanceMethod yX9_order, Cond.selects RX9 yX9_order yX9_order, Cond.code yX9_order cX9_order 1 (some .int), Cond.fieldLink RX9 7 "PlusCodesModel" "all" "[I", Cond.methodLink RX9 70 yX9_lays, Cond.instanceMethod yX9_lays, Cond.selects RX9 yX9_lays yX9_lays, Cond.code yX9_lays cX9_lays 4 none, Cond.fieldLink RX9 19 "PlusCodesModel" "terms" "[I", Cond.methodLink RX9 60 yX9_places, Cond.instanceMethod yX9_places, Cond.selects RX9 yX9_places yX9_places, Cond.code yX9_places cX9_places 1 (some .int), Cond.methodLink RX9 49 yX9_length, Cond.instanceMethod yX9_length, Cond.selects RX9 yX9_length yX9_length, Cond.code yX9_length cX9_length 1 (some .int), Cond.methodLink RX9 63 yX9_bits]
def wsX9_readsOne_r3 : List Cond := [Cond.static yX9_bits, Cond.code yX9_bits cX9_bits 3 (some .int), Cond.methodLink RX9 271 yX9_takesHex, Cond.instanceMethod yX9_takesHex, Cond.selects RX9 yX9_takesHex yX9_takesHex, Cond.code yX9_takesHex cX9_takesHex 5 (some .boolean), Cond.constantLong RX9 263 (8), Cond.methodLink RX9 260 yX9_hexAt, Cond.instanceMethod yX9_hexAt, Cond.selects RX9 yX9_hexAt yX9_hexAt, Cond.code yX9_hexAt cX9_hexAt 3 (some .int), Cond.constantLong RX9 256 (97), Cond.constantLong RX9 258 (102), Cond.methodLink RX9 109 yX9_isWithin, Cond.instanceMethod yX9_isWithin, Cond.selects RX9 yX9_isWithin yX9_isWithin, Cond.code yX9_isWithin cX9_isWithin 3 (some .boolean), Cond.methodLink RX9 106 yX9_allOf, Cond.static yX9_allOf, Cond.code yX9_allOf cX9_allOf 1 (some .int), Cond.methodLink RX9 274 yX9_doesOne, Cond.instanceMethod yX9_doesOne, Cond.selects RX9 yX9_doesOne yX9_doesOne, Cond.code yX9_doesOne cX9_doesOne 6 none]
def wsX9_readsOne_r4 : List Cond := [Cond.methodLink RX9 96 yX9_becomesCode, Cond.instanceMethod yX9_becomesCode, Cond.selects RX9 yX9_becomesCode yX9_becomesCode, Cond.code yX9_becomesCode cX9_becomesCode 4 none, Cond.methodLink RX9 119 yX9_encodes, Cond.instanceMethod yX9_encodes, Cond.selects RX9 yX9_encodes yX9_encodes, Cond.code yX9_encodes cX9_encodes 3 (some .int), Cond.methodLink RX9 112 yX9_sumOf, Cond.instanceMethod yX9_sumOf, Cond.selects RX9 yX9_sumOf yX9_sumOf, Cond.code yX9_sumOf cX9_sumOf 5 (some .int), Cond.methodLink RX9 74 yX9_has, Cond.static yX9_has, Cond.code yX9_has cX9_has 2 (some .boolean), Cond.methodLink RX9 78 yX9_wordOf, Cond.instanceMethod yX9_wordOf, Cond.selects RX9 yX9_wordOf yX9_wordOf, Cond.code yX9_wordOf cX9_wordOf 4 (some .int), Cond.methodLink RX9 116 yX9_theWord, Cond.instanceMethod yX9_theWord, Cond.selects RX9 yX9_theWord yX9_theWord, Cond.code yX9_theWord cX9_theWord 1 (some .int), Cond.methodLink RX9 126 yX9_flips]
def wsX9_readsOne_r5 : List Cond := [Cond.instanceMethod yX9_flips, Cond.selects RX9 yX9_flips yX9_flips, Cond.code yX9_flips cX9_flips 2 (some .int), Cond.methodLink RX9 165 yX9_mendsNow, Cond.instanceMethod yX9_mendsNow, Cond.selects RX9 yX9_mendsNow yX9_mendsNow, Cond.code yX9_mendsNow cX9_mendsNow 2 (some .int), Cond.fieldLink RX9 157 "PlusCodesModel" "mended" "I", Cond.methodLink RX9 160 yX9_votesNow, Cond.instanceMethod yX9_votesNow, Cond.selects RX9 yX9_votesNow yX9_votesNow, Cond.code yX9_votesNow cX9_votesNow 8 none, Cond.fieldLink RX9 142 "PlusCodesModel" "message" "I", Cond.fieldLink RX9 145 "PlusCodesModel" "ties" "I", Cond.fieldLink RX9 148 "PlusCodesModel" "closest" "I", Cond.fieldLink RX9 151 "PlusCodesModel" "closestBy" "I", Cond.methodLink RX9 154 yX9_voted, Cond.instanceMethod yX9_voted, Cond.selects RX9 yX9_voted yX9_voted, Cond.code yX9_voted cX9_voted 7 (some .int), Cond.methodLink RX9 205 yX9_softens, Cond.instanceMethod yX9_softens, Cond.selects RX9 yX9_softens yX9_softens, Cond.code yX9_softens cX9_softens 4 (some .int)]
def wsX9_readsOne_r6 : List Cond := [Cond.methodLink RX9 198 yX9_softOf, Cond.instanceMethod yX9_softOf, Cond.selects RX9 yX9_softOf yX9_softOf, Cond.code yX9_softOf cX9_softOf 2 (some .int), Cond.methodLink RX9 218 yX9_halvesOf, Cond.instanceMethod yX9_halvesOf, Cond.selects RX9 yX9_halvesOf yX9_halvesOf, Cond.code yX9_halvesOf cX9_halvesOf 7 (some .int), Cond.fieldLink RX9 25 "PlusCodesModel" "numbers" "[I", Cond.fieldLink RX9 31 "PlusCodesModel" "lengthAt" "[I", Cond.fieldLink RX9 28 "PlusCodesModel" "orderAt" "[I", Cond.fieldLink RX9 34 "PlusCodesModel" "phase" "[I", Cond.fieldLink RX9 37 "PlusCodesModel" "upon" "[I", Cond.methodLink RX9 208 yX9_begins, Cond.instanceMethod yX9_begins, Cond.selects RX9 yX9_begins yX9_begins, Cond.code yX9_begins cX9_begins 4 none, Cond.methodLink RX9 212 yX9_plain, Cond.instanceMethod yX9_plain, Cond.selects RX9 yX9_plain yX9_plain, Cond.code yX9_plain cX9_plain 5 (some .int), Cond.methodLink RX9 215 yX9_lesser, Cond.static yX9_lesser, Cond.code yX9_lesser cX9_lesser 3 (some .int)]
def wsX9_readsOne_r7 : List Cond := [Cond.methodLink RX9 173 yX9_far, Cond.static yX9_far, Cond.code yX9_far cX9_far 1 (some .int)]
def wsX9_readsOne : List Cond := .code yX9_readsOne cX9_readsOne 3 (some .boolean) :: ((wsX9_readsOne_r1 ++ (wsX9_readsOne_r2 ++ (wsX9_readsOne_r3 ++ (wsX9_readsOne_r4 ++ (wsX9_readsOne_r5 ++ (wsX9_readsOne_r6 ++ wsX9_readsOne_r7)))))) ++ wsX90)
def wsX9_keepsAside : List Cond := .code yX9_keepsAside cX9_keepsAside 2 none :: ([.fieldLink RX9 46 "PlusCodesModel" "behind" "[I", .fieldLink RX9 7 "PlusCodesModel" "all" "[I", .fieldLink RX9 43 "PlusCodesModel" "aside" "[I", .methodLink RX9 93 yX9_keep, .instanceMethod yX9_keep, .selects RX9 yX9_keep yX9_keep, .initialized RX9, .code yX9_keep cX9_keep 2 none, .fieldLink RX9 53 "PlusCodesModel" "states" "I", .fieldLink RX9 13 "PlusCodesModel" "past" "[I"] ++ wsX90)
def wsX9_does_r1 : List Cond := [Cond.fieldLink RX9 43 "PlusCodesModel" "aside" "[I", Cond.fieldLink RX9 7 "PlusCodesModel" "all" "[I", Cond.fieldLink RX9 240 "PlusCodesModel" "place" "I", Cond.methodLink RX9 277 yX9_readsOne, Cond.instanceMethod yX9_readsOne, Cond.selects RX9 yX9_readsOne yX9_readsOne, Cond.initialized RX9, Cond.code yX9_readsOne cX9_readsOne 3 (some .boolean), Cond.fieldLink RX9 253 "PlusCodesModel" "value" "I", Cond.fieldLink RX9 268 "PlusCodesModel" "first" "I", Cond.methodLink RX9 247 yX9_here, Cond.instanceMethod yX9_here, Cond.selects RX9 yX9_here yX9_here, Cond.code yX9_here cX9_here 1 (some .int), Cond.fieldLink RX9 234 "PlusCodesModel" "textLong" "I", Cond.fieldLink RX9 40 "PlusCodesModel" "text" "[I", Cond.methodLink RX9 265 yX9_takes, Cond.instanceMethod yX9_takes, Cond.selects RX9 yX9_takes yX9_takes, Cond.code yX9_takes cX9_takes 8 (some .boolean), Cond.constantLong RX9 171 (2), Cond.methodLink RX9 250 yX9_isFigure, Cond.instanceMethod yX9_isFigure, Cond.selects RX9 yX9_isFigure yX9_isFigure]
def wsX9_does_r2 : List Cond := [Cond.code yX9_isFigure cX9_isFigure 2 (some .boolean), Cond.constantLong RX9 243 (48), Cond.constantLong RX9 245 (57), Cond.methodLink RX9 83 yX9_in, Cond.static yX9_in, Cond.code yX9_in cX9_in 6 (some .boolean), Cond.methodLink RX9 100 yX9_many, Cond.instanceMethod yX9_many, Cond.selects RX9 yX9_many yX9_many, Cond.code yX9_many cX9_many 1 (some .int), Cond.fieldLink RX9 57 "PlusCodesModel" "termsMany" "I", Cond.methodLink RX9 67 yX9_order, Cond.instanceMethod yX9_order, Cond.selects RX9 yX9_order yX9_order, Cond.code yX9_order cX9_order 1 (some .int), Cond.methodLink RX9 70 yX9_lays, Cond.instanceMethod yX9_lays, Cond.selects RX9 yX9_lays yX9_lays, Cond.code yX9_lays cX9_lays 4 none, Cond.fieldLink RX9 19 "PlusCodesModel" "terms" "[I", Cond.methodLink RX9 60 yX9_places, Cond.instanceMethod yX9_places, Cond.selects RX9 yX9_places yX9_places, Cond.code yX9_places cX9_places 1 (some .int)]
def wsX9_does_r3 : List Cond := [Cond.methodLink RX9 49 yX9_length, Cond.instanceMethod yX9_length, Cond.selects RX9 yX9_length yX9_length, Cond.code yX9_length cX9_length 1 (some .int), Cond.methodLink RX9 63 yX9_bits, Cond.static yX9_bits, Cond.code yX9_bits cX9_bits 3 (some .int), Cond.methodLink RX9 271 yX9_takesHex, Cond.instanceMethod yX9_takesHex, Cond.selects RX9 yX9_takesHex yX9_takesHex, Cond.code yX9_takesHex cX9_takesHex 5 (some .boolean), Cond.constantLong RX9 263 (8), Cond.methodLink RX9 260 yX9_hexAt, Cond.instanceMethod yX9_hexAt, Cond.selects RX9 yX9_hexAt yX9_hexAt, Cond.code yX9_hexAt cX9_hexAt 3 (some .int), Cond.constantLong RX9 256 (97), Cond.constantLong RX9 258 (102), Cond.methodLink RX9 109 yX9_isWithin, Cond.instanceMethod yX9_isWithin, Cond.selects RX9 yX9_isWithin yX9_isWithin, Cond.code yX9_isWithin cX9_isWithin 3 (some .boolean), Cond.methodLink RX9 106 yX9_allOf, Cond.static yX9_allOf]
def wsX9_does_r4 : List Cond := [Cond.code yX9_allOf cX9_allOf 1 (some .int), Cond.methodLink RX9 274 yX9_doesOne, Cond.instanceMethod yX9_doesOne, Cond.selects RX9 yX9_doesOne yX9_doesOne, Cond.code yX9_doesOne cX9_doesOne 6 none, Cond.methodLink RX9 96 yX9_becomesCode, Cond.instanceMethod yX9_becomesCode, Cond.selects RX9 yX9_becomesCode yX9_becomesCode, Cond.code yX9_becomesCode cX9_becomesCode 4 none, Cond.methodLink RX9 119 yX9_encodes, Cond.instanceMethod yX9_encodes, Cond.selects RX9 yX9_encodes yX9_encodes, Cond.code yX9_encodes cX9_encodes 3 (some .int), Cond.methodLink RX9 112 yX9_sumOf, Cond.instanceMethod yX9_sumOf, Cond.selects RX9 yX9_sumOf yX9_sumOf, Cond.code yX9_sumOf cX9_sumOf 5 (some .int), Cond.methodLink RX9 74 yX9_has, Cond.static yX9_has, Cond.code yX9_has cX9_has 2 (some .boolean), Cond.methodLink RX9 78 yX9_wordOf, Cond.instanceMethod yX9_wordOf, Cond.selects RX9 yX9_wordOf yX9_wordOf, Cond.code yX9_wordOf cX9_wordOf 4 (some .int)]
def wsX9_does_r5 : List Cond := [Cond.methodLink RX9 116 yX9_theWord, Cond.instanceMethod yX9_theWord, Cond.selects RX9 yX9_theWord yX9_theWord, Cond.code yX9_theWord cX9_theWord 1 (some .int), Cond.methodLink RX9 126 yX9_flips, Cond.instanceMethod yX9_flips, Cond.selects RX9 yX9_flips yX9_flips, Cond.code yX9_flips cX9_flips 2 (some .int), Cond.methodLink RX9 165 yX9_mendsNow, Cond.instanceMethod yX9_mendsNow, Cond.selects RX9 yX9_mendsNow yX9_mendsNow, Cond.code yX9_mendsNow cX9_mendsNow 2 (some .int), Cond.fieldLink RX9 157 "PlusCodesModel" "mended" "I", Cond.methodLink RX9 160 yX9_votesNow, Cond.instanceMethod yX9_votesNow, Cond.selects RX9 yX9_votesNow yX9_votesNow, Cond.code yX9_votesNow cX9_votesNow 8 none, Cond.fieldLink RX9 142 "PlusCodesModel" "message" "I", Cond.fieldLink RX9 145 "PlusCodesModel" "ties" "I", Cond.fieldLink RX9 148 "PlusCodesModel" "closest" "I", Cond.fieldLink RX9 151 "PlusCodesModel" "closestBy" "I", Cond.methodLink RX9 154 yX9_voted, Cond.instanceMethod yX9_voted, Cond.selects RX9 yX9_voted yX9_voted]
def wsX9_does_r6 : List Cond := [Cond.code yX9_voted cX9_voted 7 (some .int), Cond.methodLink RX9 205 yX9_softens, Cond.instanceMethod yX9_softens, Cond.selects RX9 yX9_softens yX9_softens, Cond.code yX9_softens cX9_softens 4 (some .int), Cond.methodLink RX9 198 yX9_softOf, Cond.instanceMethod yX9_softOf, Cond.selects RX9 yX9_softOf yX9_softOf, Cond.code yX9_softOf cX9_softOf 2 (some .int), Cond.methodLink RX9 218 yX9_halvesOf, Cond.instanceMethod yX9_halvesOf, Cond.selects RX9 yX9_halvesOf yX9_halvesOf, Cond.code yX9_halvesOf cX9_halvesOf 7 (some .int), Cond.fieldLink RX9 25 "PlusCodesModel" "numbers" "[I", Cond.fieldLink RX9 31 "PlusCodesModel" "lengthAt" "[I", Cond.fieldLink RX9 28 "PlusCodesModel" "orderAt" "[I", Cond.fieldLink RX9 34 "PlusCodesModel" "phase" "[I", Cond.fieldLink RX9 37 "PlusCodesModel" "upon" "[I", Cond.methodLink RX9 208 yX9_begins, Cond.instanceMethod yX9_begins, Cond.selects RX9 yX9_begins yX9_begins, Cond.code yX9_begins cX9_begins 4 none, Cond.methodLink RX9 212 yX9_plain, Cond.instanceMethod yX9_plain]
def wsX9_does_r7 : List Cond := [Cond.selects RX9 yX9_plain yX9_plain, Cond.code yX9_plain cX9_plain 5 (some .int), Cond.methodLink RX9 215 yX9_lesser, Cond.static yX9_lesser, Cond.code yX9_lesser cX9_lesser 3 (some .int), Cond.methodLink RX9 173 yX9_far, Cond.static yX9_far, Cond.code yX9_far cX9_far 1 (some .int), Cond.methodLink RX9 280 yX9_keepsAside, Cond.instanceMethod yX9_keepsAside, Cond.selects RX9 yX9_keepsAside yX9_keepsAside, Cond.code yX9_keepsAside cX9_keepsAside 2 none, Cond.fieldLink RX9 46 "PlusCodesModel" "behind" "[I", Cond.methodLink RX9 93 yX9_keep, Cond.instanceMethod yX9_keep, Cond.selects RX9 yX9_keep yX9_keep, Cond.code yX9_keep cX9_keep 2 none, Cond.fieldLink RX9 53 "PlusCodesModel" "states" "I", Cond.fieldLink RX9 13 "PlusCodesModel" "past" "[I"]
def wsX9_does : List Cond := .code yX9_does cX9_does 4 (some .int) :: ((wsX9_does_r1 ++ (wsX9_does_r2 ++ (wsX9_does_r3 ++ (wsX9_does_r4 ++ (wsX9_does_r5 ++ (wsX9_does_r6 ++ wsX9_does_r7)))))) ++ wsX90)
def wsX9_back : List Cond := .code yX9_back cX9_back 2 (some .int) :: ([.fieldLink RX9 53 "PlusCodesModel" "states" "I", .fieldLink RX9 7 "PlusCodesModel" "all" "[I", .fieldLink RX9 13 "PlusCodesModel" "past" "[I", .methodLink RX9 192 yX9_no, .instanceMethod yX9_no, .selects RX9 yX9_no yX9_no, .initialized RX9, .code yX9_no cX9_no 2 (some .int), .fieldLink RX9 16 "PlusCodesModel" "refused" "[I"] ++ wsX90)
def wsX9_toldOf : List Cond := .code yX9_toldOf cX9_toldOf 2 (some .int) :: ([.fieldLink RX9 16 "PlusCodesModel" "refused" "[I", .fieldLink RX9 234 "PlusCodesModel" "textLong" "I", .fieldLink RX9 53 "PlusCodesModel" "states" "I"] ++ wsX90)
def wsX9_told : List Cond := .code yX9_told cX9_told 2 (some .int) :: ([.constantLong RX9 283 (4), .methodLink RX9 83 yX9_in, .static yX9_in, .initialized RX9, .code yX9_in cX9_in 6 (some .boolean), .methodLink RX9 285 yX9_toldOf, .instanceMethod yX9_toldOf, .selects RX9 yX9_toldOf yX9_toldOf, .code yX9_toldOf cX9_toldOf 2 (some .int), .fieldLink RX9 16 "PlusCodesModel" "refused" "[I", .fieldLink RX9 234 "PlusCodesModel" "textLong" "I", .fieldLink RX9 53 "PlusCodesModel" "states" "I", .methodLink RX9 90 yX9_bad, .instanceMethod yX9_bad, .selects RX9 yX9_bad yX9_bad, .code yX9_bad cX9_bad 2 (some .int)] ++ wsX90)
def wsX9_digest_r1 : List Cond := [Cond.constantLong RX9 288 (2111), Cond.constantLong RX9 290 (31), Cond.fieldLink RX9 7 "PlusCodesModel" "all" "[I", Cond.methodLink RX9 285 yX9_toldOf, Cond.instanceMethod yX9_toldOf, Cond.selects RX9 yX9_toldOf yX9_toldOf, Cond.initialized RX9, Cond.code yX9_toldOf cX9_toldOf 2 (some .int), Cond.fieldLink RX9 16 "PlusCodesModel" "refused" "[I", Cond.fieldLink RX9 234 "PlusCodesModel" "textLong" "I", Cond.fieldLink RX9 53 "PlusCodesModel" "states" "I", Cond.methodLink RX9 60 yX9_places, Cond.instanceMethod yX9_places, Cond.selects RX9 yX9_places yX9_places, Cond.code yX9_places cX9_places 1 (some .int), Cond.methodLink RX9 49 yX9_length, Cond.instanceMethod yX9_length, Cond.selects RX9 yX9_length yX9_length, Cond.code yX9_length cX9_length 1 (some .int), Cond.methodLink RX9 292 yX9_votes, Cond.instanceMethod yX9_votes, Cond.selects RX9 yX9_votes yX9_votes, Cond.code yX9_votes cX9_votes 1 (some .int), Cond.fieldLink RX9 142 "PlusCodesModel" "message" "I"]
def wsX9_digest_r2 : List Cond := [Cond.methodLink RX9 160 yX9_votesNow, Cond.instanceMethod yX9_votesNow, Cond.selects RX9 yX9_votesNow yX9_votesNow, Cond.code yX9_votesNow cX9_votesNow 8 none, Cond.fieldLink RX9 145 "PlusCodesModel" "ties" "I", Cond.fieldLink RX9 148 "PlusCodesModel" "closest" "I", Cond.fieldLink RX9 151 "PlusCodesModel" "closestBy" "I", Cond.fieldLink RX9 19 "PlusCodesModel" "terms" "[I", Cond.fieldLink RX9 157 "PlusCodesModel" "mended" "I", Cond.methodLink RX9 116 yX9_theWord, Cond.instanceMethod yX9_theWord, Cond.selects RX9 yX9_theWord yX9_theWord, Cond.code yX9_theWord cX9_theWord 1 (some .int), Cond.methodLink RX9 100 yX9_many, Cond.instanceMethod yX9_many, Cond.selects RX9 yX9_many yX9_many, Cond.code yX9_many cX9_many 1 (some .int), Cond.fieldLink RX9 57 "PlusCodesModel" "termsMany" "I", Cond.methodLink RX9 67 yX9_order, Cond.instanceMethod yX9_order, Cond.selects RX9 yX9_order yX9_order, Cond.code yX9_order cX9_order 1 (some .int), Cond.methodLink RX9 70 yX9_lays, Cond.instanceMethod yX9_lays]
def wsX9_digest_r3 : List Cond := [Cond.selects RX9 yX9_lays yX9_lays, Cond.code yX9_lays cX9_lays 4 none, Cond.methodLink RX9 63 yX9_bits, Cond.static yX9_bits, Cond.code yX9_bits cX9_bits 3 (some .int), Cond.methodLink RX9 154 yX9_voted, Cond.instanceMethod yX9_voted, Cond.selects RX9 yX9_voted yX9_voted, Cond.code yX9_voted cX9_voted 7 (some .int), Cond.methodLink RX9 78 yX9_wordOf, Cond.instanceMethod yX9_wordOf, Cond.selects RX9 yX9_wordOf yX9_wordOf, Cond.code yX9_wordOf cX9_wordOf 4 (some .int), Cond.methodLink RX9 112 yX9_sumOf, Cond.instanceMethod yX9_sumOf, Cond.selects RX9 yX9_sumOf yX9_sumOf, Cond.code yX9_sumOf cX9_sumOf 5 (some .int), Cond.methodLink RX9 74 yX9_has, Cond.static yX9_has, Cond.code yX9_has cX9_has 2 (some .boolean), Cond.methodLink RX9 218 yX9_halvesOf, Cond.instanceMethod yX9_halvesOf, Cond.selects RX9 yX9_halvesOf yX9_halvesOf, Cond.code yX9_halvesOf cX9_halvesOf 7 (some .int)]
def wsX9_digest_r4 : List Cond := [Cond.fieldLink RX9 25 "PlusCodesModel" "numbers" "[I", Cond.fieldLink RX9 31 "PlusCodesModel" "lengthAt" "[I", Cond.fieldLink RX9 28 "PlusCodesModel" "orderAt" "[I", Cond.fieldLink RX9 34 "PlusCodesModel" "phase" "[I", Cond.fieldLink RX9 37 "PlusCodesModel" "upon" "[I", Cond.methodLink RX9 208 yX9_begins, Cond.instanceMethod yX9_begins, Cond.selects RX9 yX9_begins yX9_begins, Cond.code yX9_begins cX9_begins 4 none, Cond.methodLink RX9 198 yX9_softOf, Cond.instanceMethod yX9_softOf, Cond.selects RX9 yX9_softOf yX9_softOf, Cond.code yX9_softOf cX9_softOf 2 (some .int), Cond.methodLink RX9 212 yX9_plain, Cond.instanceMethod yX9_plain, Cond.selects RX9 yX9_plain yX9_plain, Cond.code yX9_plain cX9_plain 5 (some .int), Cond.methodLink RX9 106 yX9_allOf, Cond.static yX9_allOf, Cond.code yX9_allOf cX9_allOf 1 (some .int), Cond.methodLink RX9 215 yX9_lesser, Cond.static yX9_lesser, Cond.code yX9_lesser cX9_lesser 3 (some .int), Cond.methodLink RX9 173 yX9_far]
def wsX9_digest_r5 : List Cond := [Cond.static yX9_far, Cond.code yX9_far cX9_far 1 (some .int)]
def wsX9_digest : List Cond := .code yX9_digest cX9_digest 4 (some .long) :: ((wsX9_digest_r1 ++ (wsX9_digest_r2 ++ (wsX9_digest_r3 ++ (wsX9_digest_r4 ++ wsX9_digest_r5)))) ++ wsX90)
def wsJ9_abs_0f7a4 : List Cond := .code yJ9_abs_0f7a4 cJ9_abs_0f7a4 1 (some .int) :: ([])
def wsJ9_max_7cf53 : List Cond := .code yJ9_max_7cf53 cJ9_max_7cf53 2 (some .int) :: ([])
def wsJ9_min_7cf53 : List Cond := .code yJ9_min_7cf53 cJ9_min_7cf53 2 (some .int) :: ([])
def wsL_law_r1 : List Cond := [Cond.classLink RL 7 RX8, Cond.instantiable RX8 11, Cond.initialized RX8, Cond.classLink RL 10 RX9, Cond.instantiable RX9 27, Cond.initialized RX9, Cond.methodLink RL 9 yX8_init, Cond.instanceMethod yX8_init, Cond.code yX8_init cX8_init 1 none, Cond.methodLink RX8 1 objectInit, Cond.instanceMethod objectInit, Cond.code objectInit ⟨#[0xb1]⟩ 1 none, Cond.classLink RX8 7 RX5, Cond.instantiable RX5 3, Cond.initialized RX5, Cond.fieldLink RX8 10 "PlusCodes" "live" "LPlusCodes$State;", Cond.fieldLink RX8 16 "PlusCodes" "before" "LPlusCodes$State;", Cond.classLink RX8 19 RX4, Cond.instantiable RX4 3, Cond.initialized RX4, Cond.fieldLink RX8 22 "PlusCodes" "past" "LPlusCodes$Past;", Cond.classLink RX8 26 RX6, Cond.instantiable RX6 4, Cond.initialized RX6]
def wsL_law_r2 : List Cond := [Cond.fieldLink RX8 29 "PlusCodes" "text" "LPlusCodes$Text;", Cond.classLink RX8 33 RX0, Cond.instantiable RX0 5, Cond.initialized RX0, Cond.fieldLink RX8 36 "PlusCodes" "ballot" "LPlusCodes$Ballot;", Cond.classLink RX8 40 RX2, Cond.instantiable RX2 1, Cond.initialized RX2, Cond.fieldLink RX8 43 "PlusCodes" "halver" "LPlusCodes$Halver;", Cond.classLink RX8 47 RX3, Cond.instantiable RX3 1, Cond.initialized RX3, Cond.fieldLink RX8 50 "PlusCodes" "merits" "LPlusCodes$Merits;", Cond.classLink RX8 54 RX7, Cond.instantiable RX7 6, Cond.initialized RX7, Cond.fieldLink RX8 57 "PlusCodes" "walk" "LPlusCodes$Walk;", Cond.instanceMethod yX5_init, Cond.code yX5_init cX5_init 1 none, Cond.methodLink RX5 3 objectInit, Cond.classLink RX5 9 RX1, Cond.instantiable RX1 5, Cond.initialized RX1, Cond.fieldLink RX5 12 "PlusCodes$State" "code" "LPlusCodes$Code;"]
def wsL_law_r3 : List Cond := [Cond.arrayClass .int, Cond.fieldLink RX5 18 "PlusCodes$State" "soft" "[I", Cond.instanceMethod yX1_init, Cond.code yX1_init cX1_init 1 none, Cond.methodLink RX1 3 objectInit, Cond.fieldLink RX1 9 "PlusCodes$Code" "terms" "[I", Cond.methodLink RX8 21 yX4_init, Cond.instanceMethod yX4_init, Cond.code yX4_init cX4_init 2 none, Cond.methodLink RX4 3 objectInit, Cond.classLink RX4 9 RX5, Cond.fieldLink RX4 11 "PlusCodes$Past" "ring" "[LPlusCodes$State;", Cond.instanceMethod yX6_init, Cond.code yX6_init cX6_init 1 none, Cond.methodLink RX6 3 objectInit, Cond.arrayClass .byte, Cond.fieldLink RX6 9 "PlusCodes$Text" "bytes" "[B", Cond.fieldLink RX6 15 "PlusCodes$Text" "fault" "I", Cond.instanceMethod yX0_init, Cond.code yX0_init cX0_init 1 none, Cond.methodLink RX0 3 objectInit, Cond.instanceMethod yX2_init, Cond.code yX2_init cX2_init 1 none, Cond.methodLink RX2 3 objectInit]
def wsL_law_r4 : List Cond := [Cond.classLink RX2 9 "[[I", Cond.fieldLink RX2 11 "PlusCodes$Halver" "rows" "[[I", Cond.instanceMethod yX3_init, Cond.code yX3_init cX3_init 1 none, Cond.methodLink RX3 1 objectInit, Cond.fieldLink RX3 9 "PlusCodes$Merits" "sums" "[I", Cond.instanceMethod yX7_init, Cond.code yX7_init cX7_init 1 none, Cond.methodLink RX7 3 objectInit, Cond.fieldLink RX7 9 "PlusCodes$Walk" "steps" "[I", Cond.methodLink RX8 61 yX5_start, Cond.instanceMethod yX5_start, Cond.selects RX5 yX5_start yX5_start, Cond.code yX5_start cX5_start 3 none, Cond.fieldLink RX5 26 "PlusCodes$State" "word" "I", Cond.methodLink RX5 22 yX1_become, Cond.instanceMethod yX1_become, Cond.selects RX1 yX1_become yX1_become, Cond.code yX1_become cX1_become 7 none, Cond.fieldLink RX1 15 "PlusCodes$Code" "order" "I", Cond.fieldLink RX1 19 "PlusCodes$Code" "length" "I", Cond.fieldLink RX1 22 "PlusCodes$Code" "places" "I", Cond.fieldLink RX1 25 "PlusCodes$Code" "count" "I", Cond.methodLink RX1 31 yJ6_bitCount_0f7a4]
def wsL_law_r5 : List Cond := [Cond.static yJ6_bitCount_0f7a4, Cond.initialized RJ6, Cond.code yJ6_bitCount_0f7a4 cJ6_bitCount_0f7a4 1 (some .int), Cond.constant RJ6 265 (1431655765), Cond.constant RJ6 266 (858993459), Cond.constant RJ6 267 (252645135), Cond.methodLink RX5 30 yJ7_fill_53178, Cond.static yJ7_fill_53178, Cond.initialized RJ7, Cond.code yJ7_fill_53178 cJ7_fill_53178 4 none, Cond.methodLink RL 12 yX9_init, Cond.instanceMethod yX9_init, Cond.code yX9_init cX9_init 1 none, Cond.methodLink RX9 1 objectInit, Cond.fieldLink RX9 7 "PlusCodesModel" "all" "[I", Cond.fieldLink RX9 13 "PlusCodesModel" "past" "[I", Cond.fieldLink RX9 16 "PlusCodesModel" "refused" "[I", Cond.fieldLink RX9 19 "PlusCodesModel" "terms" "[I", Cond.fieldLink RX9 22 "PlusCodesModel" "basis" "[I", Cond.fieldLink RX9 25 "PlusCodesModel" "numbers" "[I", Cond.fieldLink RX9 28 "PlusCodesModel" "orderAt" "[I", Cond.fieldLink RX9 31 "PlusCodesModel" "lengthAt" "[I", Cond.fieldLink RX9 34 "PlusCodesModel" "phase" "[I", Cond.fieldLink RX9 37 "PlusCodesModel" "upon" "[I"]
def wsL_law_r6 : List Cond := [Cond.fieldLink RX9 40 "PlusCodesModel" "text" "[I", Cond.fieldLink RX9 43 "PlusCodesModel" "aside" "[I", Cond.fieldLink RX9 46 "PlusCodesModel" "behind" "[I", Cond.methodLink RL 13 yX8_code, Cond.instanceMethod yX8_code, Cond.selects RX8 yX8_code yX8_code, Cond.code yX8_code cX8_code 3 (some .int), Cond.fieldLink RX8 73 "PlusCodes$State" "code" "LPlusCodes$Code;", Cond.fieldLink RX8 77 "PlusCodes$Code" "count" "I", Cond.methodLink RX8 65 yX8_refuseBad, Cond.instanceMethod yX8_refuseBad, Cond.selects RX8 yX8_refuseBad yX8_refuseBad, Cond.code yX8_refuseBad cX8_refuseBad 2 (some .int), Cond.fieldLink RX8 244 "PlusCodes" "badTimes" "I", Cond.methodLink RX8 69 yX4_keep, Cond.instanceMethod yX4_keep, Cond.selects RX4 yX4_keep yX4_keep, Cond.code yX4_keep cX4_keep 2 none, Cond.fieldLink RX4 18 "PlusCodes$Past" "next" "I", Cond.fieldLink RX4 26 "PlusCodes$Past" "count" "I", Cond.methodLink RX4 29 Lib.Math.min.name, Cond.static Lib.Math.min.name, Cond.initialized "java/lang/Math", Cond.code Lib.Math.min.name Lib.Math.min.code 2 (some .int)]
def wsL_law_r7 : List Cond := [Cond.methodLink RX4 22 yX5_copy, Cond.instanceMethod yX5_copy, Cond.selects RX5 yX5_copy yX5_copy, Cond.code yX5_copy cX5_copy 2 none, Cond.fieldLink RX5 36 "PlusCodes$Code" "order" "I", Cond.fieldLink RX5 39 "PlusCodes$Code" "length" "I", Cond.methodLink RX5 42 arraycopyName, Cond.native arraycopyName, Cond.static arraycopyName, Cond.initialized "java/lang/System", Cond.methodLink RL 17 yX9_code, Cond.instanceMethod yX9_code, Cond.selects RX9 yX9_code yX9_code, Cond.code yX9_code cX9_code 3 (some .int), Cond.methodLink RX9 87 yX9_isCode, Cond.instanceMethod yX9_isCode, Cond.selects RX9 yX9_isCode yX9_isCode, Cond.code yX9_isCode cX9_isCode 3 (some .boolean), Cond.constantLong RX9 81 (5), Cond.methodLink RX9 83 yX9_in, Cond.static yX9_in, Cond.code yX9_in cX9_in 6 (some .boolean), Cond.methodLink RX9 90 yX9_bad, Cond.instanceMethod yX9_bad]
def wsL_law_r8 : List Cond := [Cond.selects RX9 yX9_bad yX9_bad, Cond.code yX9_bad cX9_bad 2 (some .int), Cond.methodLink RX9 93 yX9_keep, Cond.instanceMethod yX9_keep, Cond.selects RX9 yX9_keep yX9_keep, Cond.code yX9_keep cX9_keep 2 none, Cond.fieldLink RX9 53 "PlusCodesModel" "states" "I", Cond.methodLink RX9 96 yX9_becomesCode, Cond.instanceMethod yX9_becomesCode, Cond.selects RX9 yX9_becomesCode yX9_becomesCode, Cond.code yX9_becomesCode cX9_becomesCode 4 none, Cond.methodLink RX9 100 yX9_many, Cond.instanceMethod yX9_many, Cond.selects RX9 yX9_many yX9_many, Cond.code yX9_many cX9_many 1 (some .int), Cond.fieldLink RX9 57 "PlusCodesModel" "termsMany" "I", Cond.methodLink RX9 67 yX9_order, Cond.instanceMethod yX9_order, Cond.selects RX9 yX9_order yX9_order, Cond.code yX9_order cX9_order 1 (some .int), Cond.methodLink RX9 70 yX9_lays, Cond.instanceMethod yX9_lays, Cond.selects RX9 yX9_lays yX9_lays, Cond.code yX9_lays cX9_lays 4 none]
def wsL_law_r9 : List Cond := [Cond.methodLink RX9 60 yX9_places, Cond.instanceMethod yX9_places, Cond.selects RX9 yX9_places yX9_places, Cond.code yX9_places cX9_places 1 (some .int), Cond.methodLink RX9 49 yX9_length, Cond.instanceMethod yX9_length, Cond.selects RX9 yX9_length yX9_length, Cond.code yX9_length cX9_length 1 (some .int), Cond.methodLink RX9 63 yX9_bits, Cond.static yX9_bits, Cond.code yX9_bits cX9_bits 3 (some .int), Cond.methodLink RL 18 yX8_of, Cond.instanceMethod yX8_of, Cond.selects RX8 yX8_of yX8_of, Cond.code yX8_of cX8_of 3 (some .int), Cond.fieldLink RX8 83 "PlusCodes$Code" "order" "I", Cond.fieldLink RX8 86 "PlusCodes$Code" "length" "I", Cond.fieldLink RX8 93 "PlusCodes$Code" "places" "I", Cond.methodLink RX8 89 yX1_distance, Cond.instanceMethod yX1_distance, Cond.selects RX1 yX1_distance yX1_distance, Cond.code yX1_distance cX1_distance 1 (some .int), Cond.methodLink RL 22 yX9_of, Cond.instanceMethod yX9_of]
def wsL_law_r10 : List Cond := [Cond.selects RX9 yX9_of yX9_of, Cond.code yX9_of cX9_of 2 (some .int), Cond.methodLink RX9 103 yX9_distance, Cond.instanceMethod yX9_distance, Cond.selects RX9 yX9_distance yX9_distance, Cond.code yX9_distance cX9_distance 1 (some .int), Cond.methodLink RL 23 yX8_term, Cond.instanceMethod yX8_term, Cond.selects RX8 yX8_term yX8_term, Cond.code yX8_term cX8_term 2 (some .int), Cond.fieldLink RX8 96 "PlusCodes$Code" "terms" "[I", Cond.methodLink RL 26 yX9_term, Cond.instanceMethod yX9_term, Cond.selects RX9 yX9_term yX9_term, Cond.code yX9_term cX9_term 2 (some .int), Cond.methodLink RL 27 yX8_word, Cond.instanceMethod yX8_word, Cond.selects RX8 yX8_word yX8_word, Cond.code yX8_word cX8_word 2 (some .int), Cond.fieldLink RX8 103 "PlusCodes$State" "word" "I", Cond.methodLink RX8 100 yX1_allPlaces, Cond.instanceMethod yX1_allPlaces, Cond.selects RX1 yX1_allPlaces yX1_allPlaces, Cond.code yX1_allPlaces cX1_allPlaces 1 (some .int)]
def wsL_law_r11 : List Cond := [Cond.static yX8_lowest, Cond.code yX8_lowest cX8_lowest 1 (some .int), Cond.methodLink RL 30 yX9_word, Cond.instanceMethod yX9_word, Cond.selects RX9 yX9_word yX9_word, Cond.code yX9_word cX9_word 2 (some .int), Cond.methodLink RX9 109 yX9_isWithin, Cond.instanceMethod yX9_isWithin, Cond.selects RX9 yX9_isWithin yX9_isWithin, Cond.code yX9_isWithin cX9_isWithin 3 (some .boolean), Cond.methodLink RX9 106 yX9_allOf, Cond.static yX9_allOf, Cond.code yX9_allOf cX9_allOf 1 (some .int), Cond.methodLink RL 31 yX8_encode, Cond.instanceMethod yX8_encode, Cond.selects RX8 yX8_encode yX8_encode, Cond.code yX8_encode cX8_encode 2 (some .int), Cond.methodLink RX8 106 yX1_allTerms, Cond.instanceMethod yX1_allTerms, Cond.selects RX1 yX1_allTerms yX1_allTerms, Cond.code yX1_allTerms cX1_allTerms 1 (some .int), Cond.methodLink RX8 109 yX1_wordOf, Cond.instanceMethod yX1_wordOf, Cond.selects RX1 yX1_wordOf yX1_wordOf]
def wsL_law_r12 : List Cond := [Cond.code yX1_wordOf cX1_wordOf 4 (some .int), Cond.methodLink RX1 43 yX1_summed, Cond.instanceMethod yX1_summed, Cond.selects RX1 yX1_summed yX1_summed, Cond.code yX1_summed cX1_summed 4 (some .int), Cond.methodLink RX8 112 yX8_weight, Cond.instanceMethod yX8_weight, Cond.selects RX8 yX8_weight yX8_weight, Cond.code yX8_weight cX8_weight 1 (some .int), Cond.methodLink RX8 127 yJ6_bitCount_0f7a4, Cond.methodLink RL 34 yX9_encode, Cond.instanceMethod yX9_encode, Cond.selects RX9 yX9_encode yX9_encode, Cond.code yX9_encode cX9_encode 2 (some .int), Cond.methodLink RX9 119 yX9_encodes, Cond.instanceMethod yX9_encodes, Cond.selects RX9 yX9_encodes yX9_encodes, Cond.code yX9_encodes cX9_encodes 3 (some .int), Cond.methodLink RX9 112 yX9_sumOf, Cond.instanceMethod yX9_sumOf, Cond.selects RX9 yX9_sumOf yX9_sumOf, Cond.code yX9_sumOf cX9_sumOf 5 (some .int), Cond.methodLink RX9 74 yX9_has, Cond.static yX9_has]
def wsL_law_r13 : List Cond := [Cond.code yX9_has cX9_has 2 (some .boolean), Cond.methodLink RX9 78 yX9_wordOf, Cond.instanceMethod yX9_wordOf, Cond.selects RX9 yX9_wordOf yX9_wordOf, Cond.code yX9_wordOf cX9_wordOf 4 (some .int), Cond.methodLink RX9 116 yX9_theWord, Cond.instanceMethod yX9_theWord, Cond.selects RX9 yX9_theWord yX9_theWord, Cond.code yX9_theWord cX9_theWord 1 (some .int), Cond.methodLink RL 35 yX8_flip, Cond.instanceMethod yX8_flip, Cond.selects RX8 yX8_flip yX8_flip, Cond.code yX8_flip cX8_flip 2 (some .int), Cond.methodLink RX8 115 yX1_hasPlace, Cond.instanceMethod yX1_hasPlace, Cond.selects RX1 yX1_hasPlace yX1_hasPlace, Cond.code yX1_hasPlace cX1_hasPlace 2 (some .boolean), Cond.methodLink RX8 119 yX5_bit, Cond.instanceMethod yX5_bit, Cond.selects RX5 yX5_bit yX5_bit, Cond.code yX5_bit cX5_bit 2 (some .int), Cond.methodLink RL 38 yX9_flip, Cond.instanceMethod yX9_flip, Cond.selects RX9 yX9_flip yX9_flip]
def wsL_law_r14 : List Cond := [Cond.code yX9_flip cX9_flip 2 (some .int), Cond.methodLink RX9 122 yX9_isPlace, Cond.instanceMethod yX9_isPlace, Cond.selects RX9 yX9_isPlace yX9_isPlace, Cond.code yX9_isPlace cX9_isPlace 2 (some .boolean), Cond.methodLink RX9 126 yX9_flips, Cond.instanceMethod yX9_flips, Cond.selects RX9 yX9_flips yX9_flips, Cond.code yX9_flips cX9_flips 2 (some .int), Cond.methodLink RL 39 yX8_hurt, Cond.instanceMethod yX8_hurt, Cond.selects RX8 yX8_hurt yX8_hurt, Cond.code yX8_hurt cX8_hurt 3 (some .int), Cond.constant RX8 122 (999999), Cond.methodLink RX8 123 yX8_drawPlaces, Cond.instanceMethod yX8_drawPlaces, Cond.selects RX8 yX8_drawPlaces yX8_drawPlaces, Cond.code yX8_drawPlaces cX8_drawPlaces 10 (some .int), Cond.constantLong RX8 260 (1103515245), Cond.constantLong RX8 262 (12345), Cond.constantLong RX8 264 (2147483647), Cond.methodLink RL 42 yX9_hurt, Cond.instanceMethod yX9_hurt, Cond.selects RX9 yX9_hurt yX9_hurt]
def wsL_law_r15 : List Cond := [Cond.code yX9_hurt cX9_hurt 8 (some .int), Cond.constantLong RX9 129 (999999), Cond.constantLong RX9 131 (1103515245), Cond.constantLong RX9 133 (12345), Cond.constantLong RX9 135 (2147483648), Cond.constantLong RX9 137 (65536), Cond.methodLink RL 43 yX8_now, Cond.instanceMethod yX8_now, Cond.selects RX8 yX8_now yX8_now, Cond.code yX8_now cX8_now 1 (some .int), Cond.methodLink RL 47 yX9_now, Cond.instanceMethod yX9_now, Cond.selects RX9 yX9_now yX9_now, Cond.code yX9_now cX9_now 1 (some .int), Cond.methodLink RL 48 yX8_at, Cond.instanceMethod yX8_at, Cond.selects RX8 yX8_at yX8_at, Cond.code yX8_at cX8_at 2 (some .int), Cond.methodLink RL 51 yX9_at, Cond.instanceMethod yX9_at, Cond.selects RX9 yX9_at yX9_at, Cond.code yX9_at cX9_at 2 (some .int), Cond.methodLink RL 52 yX8_weight, Cond.methodLink RL 55 yX9_weight]
def wsL_law_r16 : List Cond := [Cond.instanceMethod yX9_weight, Cond.selects RX9 yX9_weight yX9_weight, Cond.code yX9_weight cX9_weight 1 (some .int), Cond.methodLink RL 56 yX8_isWord, Cond.instanceMethod yX8_isWord, Cond.selects RX8 yX8_isWord yX8_isWord, Cond.code yX8_isWord cX8_isWord 2 (some .int), Cond.methodLink RX8 132 yX1_summed, Cond.methodLink RX8 135 yX1_termPlaces, Cond.instanceMethod yX1_termPlaces, Cond.selects RX1 yX1_termPlaces yX1_termPlaces, Cond.code yX1_termPlaces cX1_termPlaces 3 (some .int), Cond.methodLink RL 59 yX9_isWord, Cond.instanceMethod yX9_isWord, Cond.selects RX9 yX9_isWord yX9_isWord, Cond.code yX9_isWord cX9_isWord 3 (some .int), Cond.methodLink RX9 139 yX9_coefficientOf, Cond.instanceMethod yX9_coefficientOf, Cond.selects RX9 yX9_coefficientOf yX9_coefficientOf, Cond.code yX9_coefficientOf cX9_coefficientOf 5 (some .int), Cond.methodLink RL 60 yX8_coefficient, Cond.instanceMethod yX8_coefficient, Cond.selects RX8 yX8_coefficient yX8_coefficient, Cond.code yX8_coefficient cX8_coefficient 2 (some .int)]
def wsL_law_r17 : List Cond := [Cond.methodLink RX8 138 yX1_setAt, Cond.instanceMethod yX1_setAt, Cond.selects RX1 yX1_setAt yX1_setAt, Cond.code yX1_setAt cX1_setAt 7 (some .int), Cond.methodLink RL 63 yX9_coefficient, Cond.instanceMethod yX9_coefficient, Cond.selects RX9 yX9_coefficient yX9_coefficient, Cond.code yX9_coefficient cX9_coefficient 2 (some .int), Cond.methodLink RL 64 yX8_votes, Cond.instanceMethod yX8_votes, Cond.selects RX8 yX8_votes yX8_votes, Cond.code yX8_votes cX8_votes 1 (some .int), Cond.fieldLink RX8 145 "PlusCodes$Ballot" "message" "I", Cond.methodLink RX8 141 yX0_hold, Cond.instanceMethod yX0_hold, Cond.selects RX0 yX0_hold yX0_hold, Cond.code yX0_hold cX0_hold 4 none, Cond.fieldLink RX0 9 "PlusCodes$Ballot" "message" "I", Cond.fieldLink RX0 15 "PlusCodes$Ballot" "mended" "I", Cond.fieldLink RX0 18 "PlusCodes$Ballot" "ties" "I", Cond.fieldLink RX0 21 "PlusCodes$Ballot" "closest" "I", Cond.fieldLink RX0 24 "PlusCodes$Ballot" "margin" "I", Cond.fieldLink RX0 27 "PlusCodes$Code" "order" "I", Cond.methodLink RX0 32 yX0_wordVoted]
def wsL_law_r18 : List Cond := [Cond.instanceMethod yX0_wordVoted, Cond.selects RX0 yX0_wordVoted yX0_wordVoted, Cond.code yX0_wordVoted cX0_wordVoted 7 (some .int), Cond.fieldLink RX0 36 "PlusCodes$Code" "count" "I", Cond.fieldLink RX0 39 "PlusCodes$Code" "terms" "[I", Cond.methodLink RX0 43 yJ6_bitCount_0f7a4, Cond.methodLink RX0 49 yX0_isCarried, Cond.instanceMethod yX0_isCarried, Cond.selects RX0 yX0_isCarried yX0_isCarried, Cond.code yX0_isCarried cX0_isCarried 7 (some .boolean), Cond.fieldLink RX0 59 "PlusCodes$Code" "places" "I", Cond.methodLink RX0 66 Lib.Math.abs.name, Cond.static Lib.Math.abs.name, Cond.code Lib.Math.abs.name Lib.Math.abs.code 1 (some .int), Cond.static yX8_partsOf, Cond.code yX8_partsOf cX8_partsOf 3 (some .int), Cond.static yX8_isOdd, Cond.code yX8_isOdd cX8_isOdd 1 (some .boolean), Cond.methodLink RX0 53 yX1_summed, Cond.methodLink RL 67 yX9_votes, Cond.instanceMethod yX9_votes, Cond.selects RX9 yX9_votes yX9_votes, Cond.code yX9_votes cX9_votes 1 (some .int), Cond.fieldLink RX9 142 "PlusCodesModel" "message" "I"]
def wsL_law_r19 : List Cond := [Cond.methodLink RX9 160 yX9_votesNow, Cond.instanceMethod yX9_votesNow, Cond.selects RX9 yX9_votesNow yX9_votesNow, Cond.code yX9_votesNow cX9_votesNow 8 none, Cond.fieldLink RX9 145 "PlusCodesModel" "ties" "I", Cond.fieldLink RX9 148 "PlusCodesModel" "closest" "I", Cond.fieldLink RX9 151 "PlusCodesModel" "closestBy" "I", Cond.fieldLink RX9 157 "PlusCodesModel" "mended" "I", Cond.methodLink RX9 154 yX9_voted, Cond.instanceMethod yX9_voted, Cond.selects RX9 yX9_voted yX9_voted, Cond.code yX9_voted cX9_voted 7 (some .int), Cond.methodLink RL 68 yX8_vote, Cond.instanceMethod yX8_vote, Cond.selects RX8 yX8_vote yX8_vote, Cond.code yX8_vote cX8_vote 2 (some .int), Cond.fieldLink RX8 148 "PlusCodes$Ballot" "mended" "I", Cond.fieldLink RX8 151 "PlusCodes$Ballot" "ties" "I", Cond.fieldLink RX8 154 "PlusCodes$Ballot" "closest" "I", Cond.fieldLink RX8 157 "PlusCodes$Ballot" "margin" "I", Cond.methodLink RL 71 yX9_vote, Cond.instanceMethod yX9_vote, Cond.selects RX9 yX9_vote yX9_vote, Cond.code yX9_vote cX9_vote 2 (some .int)]
def wsL_law_r20 : List Cond := [Cond.constantLong RX9 163 (3), Cond.methodLink RL 72 yX8_mends, Cond.instanceMethod yX8_mends, Cond.selects RX8 yX8_mends yX8_mends, Cond.code yX8_mends cX8_mends 2 (some .int), Cond.methodLink RL 75 yX9_mends, Cond.instanceMethod yX9_mends, Cond.selects RX9 yX9_mends yX9_mends, Cond.code yX9_mends cX9_mends 1 (some .int), Cond.methodLink RX9 165 yX9_mendsNow, Cond.instanceMethod yX9_mendsNow, Cond.selects RX9 yX9_mendsNow yX9_mendsNow, Cond.code yX9_mendsNow cX9_mendsNow 2 (some .int), Cond.methodLink RL 76 yX8_sign, Cond.instanceMethod yX8_sign, Cond.selects RX8 yX8_sign yX8_sign, Cond.code yX8_sign cX8_sign 2 (some .int), Cond.methodLink RX8 160 yX8_signsFor, Cond.instanceMethod yX8_signsFor, Cond.selects RX8 yX8_signsFor yX8_signsFor, Cond.code yX8_signsFor cX8_signsFor 5 (some .int), Cond.methodLink RX8 215 yX8_isOdd, Cond.methodLink RL 79 yX9_sign, Cond.instanceMethod yX9_sign]
def wsL_law_r21 : List Cond := [Cond.selects RX9 yX9_sign yX9_sign, Cond.code yX9_sign cX9_sign 2 (some .int), Cond.methodLink RX9 168 yX9_signOf, Cond.instanceMethod yX9_signOf, Cond.selects RX9 yX9_signOf yX9_signOf, Cond.code yX9_signOf cX9_signOf 4 (some .int), Cond.methodLink RL 80 yX8_best, Cond.instanceMethod yX8_best, Cond.selects RX8 yX8_best yX8_best, Cond.code yX8_best cX8_best 7 (some .int), Cond.methodLink RX8 163 Lib.Math.abs.name, Cond.methodLink RL 83 yX9_best, Cond.instanceMethod yX9_best, Cond.selects RX9 yX9_best yX9_best, Cond.code yX9_best cX9_best 6 (some .int), Cond.constantLong RX9 171 (2), Cond.methodLink RX9 173 yX9_far, Cond.static yX9_far, Cond.code yX9_far cX9_far 1 (some .int), Cond.methodLink RL 84 yX8_nearest, Cond.instanceMethod yX8_nearest, Cond.selects RX8 yX8_nearest yX8_nearest, Cond.code yX8_nearest cX8_nearest 2 (some .int), Cond.fieldLink RX8 178 "PlusCodes$Walk" "least" "I"]
def wsL_law_r22 : List Cond := [Cond.fieldLink RX8 181 "PlusCodes$Walk" "asNear" "I", Cond.methodLink RX8 168 yX1_canBeWalked, Cond.instanceMethod yX1_canBeWalked, Cond.selects RX1 yX1_canBeWalked yX1_canBeWalked, Cond.code yX1_canBeWalked cX1_canBeWalked 1 (some .boolean), Cond.methodLink RX8 172 yX8_refuseNo, Cond.instanceMethod yX8_refuseNo, Cond.selects RX8 yX8_refuseNo yX8_refuseNo, Cond.code yX8_refuseNo cX8_refuseNo 2 (some .int), Cond.fieldLink RX8 247 "PlusCodes" "noTimes" "I", Cond.methodLink RX8 175 yX7_seek, Cond.instanceMethod yX7_seek, Cond.selects RX7 yX7_seek yX7_seek, Cond.code yX7_seek cX7_seek 5 none, Cond.fieldLink RX7 19 "PlusCodes$Walk" "least" "I", Cond.fieldLink RX7 23 "PlusCodes$Walk" "messages" "I", Cond.fieldLink RX7 30 "PlusCodes$Walk" "word" "I", Cond.fieldLink RX7 39 "PlusCodes$Walk" "asNear" "I", Cond.fieldLink RX7 42 "PlusCodes$Walk" "found" "I", Cond.methodLink RX7 15 yX7_prepare, Cond.instanceMethod yX7_prepare, Cond.selects RX7 yX7_prepare yX7_prepare, Cond.code yX7_prepare cX7_prepare 5 none, Cond.fieldLink RX7 56 "PlusCodes$Code" "count" "I"]
def wsL_law_r23 : List Cond := [Cond.methodLink RX7 61 Lib.Math.min.name, Cond.methodLink RX7 64 yX1_wordOfTerm, Cond.instanceMethod yX1_wordOfTerm, Cond.selects RX1 yX1_wordOfTerm yX1_wordOfTerm, Cond.code yX1_wordOfTerm cX1_wordOfTerm 2 (some .int), Cond.methodLink RX7 26 yX7_stepTo, Cond.instanceMethod yX7_stepTo, Cond.selects RX7 yX7_stepTo yX7_stepTo, Cond.code yX7_stepTo cX7_stepTo 3 none, Cond.methodLink RX7 67 yJ6_numberOfTrailingZeros_0f7a4, Cond.static yJ6_numberOfTrailingZeros_0f7a4, Cond.code yJ6_numberOfTrailingZeros_0f7a4 cJ6_numberOfTrailingZeros_0f7a4 2 (some .int), Cond.constant RJ6 264 (65536), Cond.methodLink RX7 33 yJ6_bitCount_0f7a4, Cond.methodLink RL 87 yX9_nearest, Cond.instanceMethod yX9_nearest, Cond.selects RX9 yX9_nearest yX9_nearest, Cond.code yX9_nearest cX9_nearest 2 (some .int), Cond.fieldLink RX9 182 "PlusCodesModel" "nearBy" "I", Cond.fieldLink RX9 185 "PlusCodesModel" "nearMany" "I", Cond.methodLink RX9 188 yX9_isFew, Cond.instanceMethod yX9_isFew, Cond.selects RX9 yX9_isFew yX9_isFew, Cond.code yX9_isFew cX9_isFew 1 (some .boolean)]
def wsL_law_r24 : List Cond := [Cond.methodLink RX9 192 yX9_no, Cond.instanceMethod yX9_no, Cond.selects RX9 yX9_no yX9_no, Cond.code yX9_no cX9_no 2 (some .int), Cond.methodLink RX9 195 yX9_finds, Cond.instanceMethod yX9_finds, Cond.selects RX9 yX9_finds yX9_finds, Cond.code yX9_finds cX9_finds 6 none, Cond.fieldLink RX9 179 "PlusCodesModel" "nearWord" "I", Cond.methodLink RX9 176 yX9_laysBasis, Cond.instanceMethod yX9_laysBasis, Cond.selects RX9 yX9_laysBasis yX9_laysBasis, Cond.code yX9_laysBasis cX9_laysBasis 3 none, Cond.methodLink RL 88 yX8_near, Cond.instanceMethod yX8_near, Cond.selects RX8 yX8_near yX8_near, Cond.code yX8_near cX8_near 1 (some .int), Cond.fieldLink RX8 184 "PlusCodes$Walk" "found" "I", Cond.methodLink RL 91 yX9_near, Cond.instanceMethod yX9_near, Cond.selects RX9 yX9_near yX9_near, Cond.code yX9_near cX9_near 1 (some .int), Cond.methodLink RL 92 yX8_soft, Cond.instanceMethod yX8_soft]
def wsL_law_r25 : List Cond := [Cond.selects RX8 yX8_soft yX8_soft, Cond.code yX8_soft cX8_soft 4 (some .int), Cond.fieldLink RX8 187 "PlusCodes$State" "soft" "[I", Cond.methodLink RL 95 yX9_soft, Cond.instanceMethod yX9_soft, Cond.selects RX9 yX9_soft yX9_soft, Cond.code yX9_soft cX9_soft 3 (some .int), Cond.constantLong RX9 201 (-99), Cond.constantLong RX9 203 (99), Cond.methodLink RX9 205 yX9_softens, Cond.instanceMethod yX9_softens, Cond.selects RX9 yX9_softens yX9_softens, Cond.code yX9_softens cX9_softens 4 (some .int), Cond.methodLink RX9 198 yX9_softOf, Cond.instanceMethod yX9_softOf, Cond.selects RX9 yX9_softOf yX9_softOf, Cond.code yX9_softOf cX9_softOf 2 (some .int), Cond.methodLink RL 96 yX8_harden, Cond.instanceMethod yX8_harden, Cond.selects RX8 yX8_harden yX8_harden, Cond.code yX8_harden cX8_harden 3 (some .int), Cond.methodLink RL 99 yX9_harden, Cond.instanceMethod yX9_harden, Cond.selects RX9 yX9_harden yX9_harden]
def wsL_law_r26 : List Cond := [Cond.code yX9_harden cX9_harden 3 (some .int), Cond.methodLink RL 100 yX8_halves, Cond.instanceMethod yX8_halves, Cond.selects RX8 yX8_halves yX8_halves, Cond.code yX8_halves cX8_halves 1 (some .int), Cond.methodLink RX8 190 yX2_solve, Cond.instanceMethod yX2_solve, Cond.selects RX2 yX2_solve yX2_solve, Cond.code yX2_solve cX2_solve 3 (some .int), Cond.fieldLink RX2 16 "PlusCodes$Code" "length" "I", Cond.fieldLink RX2 22 "PlusCodes$Code" "places" "I", Cond.methodLink RX2 25 arraycopyName, Cond.fieldLink RX2 31 "PlusCodes$Code" "order" "I", Cond.methodLink RX2 34 yX2_wordFor, Cond.instanceMethod yX2_wordFor, Cond.selects RX2 yX2_wordFor yX2_wordFor, Cond.code yX2_wordFor cX2_wordFor 5 (some .int), Cond.methodLink RX2 38 yX2_allAlike, Cond.instanceMethod yX2_allAlike, Cond.selects RX2 yX2_allAlike yX2_allAlike, Cond.code yX2_allAlike cX2_allAlike 5 (some .int), Cond.methodLink RX2 42 yX2_eachAlone, Cond.instanceMethod yX2_eachAlone, Cond.selects RX2 yX2_eachAlone yX2_eachAlone]
def wsL_law_r27 : List Cond := [Cond.code yX2_eachAlone cX2_eachAlone 4 (some .int), Cond.methodLink RX2 45 yX2_putLesser, Cond.instanceMethod yX2_putLesser, Cond.selects RX2 yX2_putLesser yX2_putLesser, Cond.code yX2_putLesser cX2_putLesser 7 none, Cond.methodLink RX2 56 Lib.Math.abs.name, Cond.methodLink RX2 61 Lib.Math.min.name, Cond.methodLink RX2 49 yX2_putTogether, Cond.instanceMethod yX2_putTogether, Cond.selects RX2 yX2_putTogether yX2_putTogether, Cond.code yX2_putTogether cX2_putTogether 6 none, Cond.methodLink RL 103 yX9_halves, Cond.instanceMethod yX9_halves, Cond.selects RX9 yX9_halves yX9_halves, Cond.code yX9_halves cX9_halves 1 (some .int), Cond.methodLink RX9 218 yX9_halvesOf, Cond.instanceMethod yX9_halvesOf, Cond.selects RX9 yX9_halvesOf yX9_halvesOf, Cond.code yX9_halvesOf cX9_halvesOf 7 (some .int), Cond.methodLink RX9 208 yX9_begins, Cond.instanceMethod yX9_begins, Cond.selects RX9 yX9_begins yX9_begins, Cond.code yX9_begins cX9_begins 4 none, Cond.methodLink RX9 212 yX9_plain]
def wsL_law_r28 : List Cond := [Cond.instanceMethod yX9_plain, Cond.selects RX9 yX9_plain yX9_plain, Cond.code yX9_plain cX9_plain 5 (some .int), Cond.methodLink RX9 215 yX9_lesser, Cond.static yX9_lesser, Cond.code yX9_lesser cX9_lesser 3 (some .int), Cond.methodLink RL 104 yX8_merit, Cond.instanceMethod yX8_merit, Cond.selects RX8 yX8_merit yX8_merit, Cond.code yX8_merit cX8_merit 2 (some .int), Cond.methodLink RX8 194 yX3_weigh, Cond.instanceMethod yX3_weigh, Cond.selects RX3 yX3_weigh yX3_weigh, Cond.code yX3_weigh cX3_weigh 6 none, Cond.methodLink RX3 13 yJ6_numberOfTrailingZeros_0f7a4, Cond.methodLink RX8 198 yX7_greatest, Cond.instanceMethod yX7_greatest, Cond.selects RX7 yX7_greatest yX7_greatest, Cond.code yX7_greatest cX7_greatest 5 (some .int), Cond.methodLink RX7 50 Lib.Math.max.name, Cond.static Lib.Math.max.name, Cond.code Lib.Math.max.name Lib.Math.max.code 2 (some .int), Cond.methodLink RX7 45 yX3_sumFor, Cond.instanceMethod yX3_sumFor]
def wsL_law_r29 : List Cond := [Cond.selects RX3 yX3_sumFor yX3_sumFor, Cond.code yX3_sumFor cX3_sumFor 2 (some .int), Cond.methodLink RX8 202 yX8_halves, Cond.methodLink RX8 205 yX3_sumFor, Cond.methodLink RL 107 yX9_merit, Cond.instanceMethod yX9_merit, Cond.selects RX9 yX9_merit yX9_merit, Cond.code yX9_merit cX9_merit 2 (some .int), Cond.methodLink RX9 221 yX9_meritOf, Cond.instanceMethod yX9_meritOf, Cond.selects RX9 yX9_meritOf yX9_meritOf, Cond.code yX9_meritOf cX9_meritOf 4 (some .int), Cond.methodLink RX9 224 yX9_greatest, Cond.instanceMethod yX9_greatest, Cond.selects RX9 yX9_greatest yX9_greatest, Cond.code yX9_greatest cX9_greatest 7 (some .int), Cond.methodLink RL 108 yX8_weights, Cond.instanceMethod yX8_weights, Cond.selects RX8 yX8_weights yX8_weights, Cond.code yX8_weights cX8_weights 2 (some .int), Cond.methodLink RX8 208 yX7_howManyWeigh, Cond.instanceMethod yX7_howManyWeigh, Cond.selects RX7 yX7_howManyWeigh yX7_howManyWeigh, Cond.code yX7_howManyWeigh cX7_howManyWeigh 5 (some .int)]
def wsL_law_r30 : List Cond := [Cond.methodLink RL 111 yX9_weights, Cond.instanceMethod yX9_weights, Cond.selects RX9 yX9_weights yX9_weights, Cond.code yX9_weights cX9_weights 8 (some .int), Cond.constantLong RX9 227 (32), Cond.methodLink RL 112 yX8_perpendicular, Cond.instanceMethod yX8_perpendicular, Cond.selects RX8 yX8_perpendicular yX8_perpendicular, Cond.code yX8_perpendicular cX8_perpendicular 2 (some .int), Cond.methodLink RX8 212 yX1_wordOfTerm, Cond.methodLink RL 115 yX9_perpendicular, Cond.instanceMethod yX9_perpendicular, Cond.selects RX9 yX9_perpendicular yX9_perpendicular, Cond.code yX9_perpendicular cX9_perpendicular 4 (some .int), Cond.methodLink RL 116 yX8_asked, Cond.instanceMethod yX8_asked, Cond.selects RX8 yX8_asked yX8_asked, Cond.code yX8_asked cX8_asked 5 (some .int), Cond.methodLink RX8 218 yX8_partsOf, Cond.methodLink RL 119 yX9_asked, Cond.instanceMethod yX9_asked, Cond.selects RX9 yX9_asked yX9_asked, Cond.code yX9_asked cX9_asked 4 (some .int), Cond.methodLink RX9 229 yX9_around]
def wsL_law_r31 : List Cond := [Cond.instanceMethod yX9_around, Cond.selects RX9 yX9_around yX9_around, Cond.code yX9_around cX9_around 6 (some .int), Cond.methodLink RL 120 yX8_type, Cond.instanceMethod yX8_type, Cond.selects RX8 yX8_type yX8_type, Cond.code yX8_type cX8_type 2 (some .int), Cond.fieldLink RX8 221 "PlusCodes$Text" "size" "I", Cond.fieldLink RX8 224 "PlusCodes" "fullTimes" "I", Cond.methodLink RX8 227 yX6_append, Cond.instanceMethod yX6_append, Cond.selects RX6 yX6_append yX6_append, Cond.code yX6_append cX6_append 2 none, Cond.fieldLink RX6 19 "PlusCodes$Text" "size" "I", Cond.methodLink RL 123 yX9_type, Cond.instanceMethod yX9_type, Cond.selects RX9 yX9_type yX9_type, Cond.code yX9_type cX9_type 2 (some .int), Cond.constantLong RX9 232 (127), Cond.fieldLink RX9 234 "PlusCodesModel" "textLong" "I", Cond.methodLink RX9 237 yX9_full, Cond.instanceMethod yX9_full, Cond.selects RX9 yX9_full yX9_full, Cond.code yX9_full cX9_full 1 (some .int)]
def wsL_law_r32 : List Cond := [Cond.methodLink RL 124 yX8_clear, Cond.instanceMethod yX8_clear, Cond.selects RX8 yX8_clear yX8_clear, Cond.code yX8_clear cX8_clear 2 (some .int), Cond.methodLink RL 127 yX9_clear, Cond.instanceMethod yX9_clear, Cond.selects RX9 yX9_clear yX9_clear, Cond.code yX9_clear cX9_clear 2 (some .int), Cond.methodLink RL 128 yX8_does, Cond.instanceMethod yX8_does, Cond.selects RX8 yX8_does yX8_does, Cond.code yX8_does cX8_does 2 (some .int), Cond.fieldLink RX8 237 "PlusCodes$Text" "fault" "I", Cond.methodLink RX8 231 yX5_copy, Cond.methodLink RX8 234 yX8_carryOutAll, Cond.instanceMethod yX8_carryOutAll, Cond.selects RX8 yX8_carryOutAll yX8_carryOutAll, Cond.code yX8_carryOutAll cX8_carryOutAll 2 (some .int), Cond.methodLink RX8 266 yX6_rewind, Cond.instanceMethod yX6_rewind, Cond.selects RX6 yX6_rewind yX6_rewind, Cond.code yX6_rewind cX6_rewind 1 none, Cond.fieldLink RX6 22 "PlusCodes$Text" "next" "I", Cond.methodLink RX8 269 yX8_carryOutNext]
def wsL_law_r33 : List Cond := [Cond.instanceMethod yX8_carryOutNext, Cond.selects RX8 yX8_carryOutNext yX8_carryOutNext, Cond.code yX8_carryOutNext cX8_carryOutNext 1 none, Cond.methodLink RX8 277 yX6_readOneOf, Cond.instanceMethod yX6_readOneOf, Cond.selects RX6 yX6_readOneOf yX6_readOneOf, Cond.code yX6_readOneOf cX6_readOneOf 2 (some .int), Cond.methodLink RX6 28 yX6_isAtEnd, Cond.instanceMethod yX6_isAtEnd, Cond.selects RX6 yX6_isAtEnd yX6_isAtEnd, Cond.code yX6_isAtEnd cX6_isAtEnd 1 (some .boolean), Cond.methodLink RX6 25 yX6_skipBlanks, Cond.instanceMethod yX6_skipBlanks, Cond.selects RX6 yX6_skipBlanks yX6_skipBlanks, Cond.code yX6_skipBlanks cX6_skipBlanks 1 none, Cond.methodLink RX6 32 yJ0_indexOf_0f7a4, Cond.instanceMethod yJ0_indexOf_0f7a4, Cond.selects RJ0 yJ0_indexOf_0f7a4 yJ0_indexOf_0f7a4, Cond.initialized RJ0, Cond.code yJ0_indexOf_0f7a4 cJ0_indexOf_0f7a4 2 (some .int), Cond.methodLink RJ0 633 yJ0_indexOf_7cf53, Cond.instanceMethod yJ0_indexOf_7cf53, Cond.selects RJ0 yJ0_indexOf_7cf53 yJ0_indexOf_7cf53, Cond.code yJ0_indexOf_7cf53 cJ0_indexOf_7cf53 3 (some .int)]
def wsL_law_r34 : List Cond := [Cond.fieldLink RJ0 9 "java/lang/String" "value" "[B", Cond.methodLink RJ0 492 yJ0_isLatin1_aae02, Cond.instanceMethod yJ0_isLatin1_aae02, Cond.selects RJ0 yJ0_isLatin1_aae02 yJ0_isLatin1_aae02, Cond.code yJ0_isLatin1_aae02 cJ0_isLatin1_aae02 1 (some .boolean), Cond.fieldLink RJ0 38 "java/lang/String" "COMPACT_STRINGS" "Z", Cond.fieldLink RJ0 15 "java/lang/String" "coder" "B", Cond.methodLink RJ0 505 yJ0_length_8abf5, Cond.instanceMethod yJ0_length_8abf5, Cond.selects RJ0 yJ0_length_8abf5 yJ0_length_8abf5, Cond.code yJ0_length_8abf5 cJ0_length_8abf5 1 (some .int), Cond.methodLink RJ0 335 yJ0_coder_7d493, Cond.instanceMethod yJ0_coder_7d493, Cond.selects RJ0 yJ0_coder_7d493 yJ0_coder_7d493, Cond.code yJ0_coder_7d493 cJ0_coder_7d493 1 (some .byte), Cond.methodLink RJ0 637 yJ1_indexOf_4cfef, Cond.static yJ1_indexOf_4cfef, Cond.initialized RJ1, Cond.code yJ1_indexOf_4cfef cJ1_indexOf_4cfef 4 (some .int), Cond.methodLink RJ1 92 Lib.Math.max.name, Cond.methodLink RJ1 38 Lib.Math.min.name, Cond.methodLink RJ1 88 yJ1_canEncode_9a6ad, Cond.static yJ1_canEncode_9a6ad, Cond.code yJ1_canEncode_9a6ad cJ1_canEncode_9a6ad 1 (some .boolean)]
def wsL_law_r35 : List Cond := [Cond.methodLink RJ1 95 yJ1_indexOfChar_4cfef, Cond.static yJ1_indexOfChar_4cfef, Cond.code yJ1_indexOfChar_4cfef cJ1_indexOfChar_4cfef 6 (some .int), Cond.methodLink RJ0 640 yJ2_indexOf_4cfef, Cond.static yJ2_indexOf_4cfef, Cond.initialized RJ2, Cond.code yJ2_indexOf_4cfef cJ2_indexOf_4cfef 4 (some .int), Cond.methodLink RJ2 224 Lib.Math.max.name, Cond.methodLink RJ2 183 Lib.Math.min.name, Cond.constant RJ2 227 (65536), Cond.methodLink RJ2 228 yJ2_indexOfChar_4cfef, Cond.static yJ2_indexOfChar_4cfef, Cond.code yJ2_indexOfChar_4cfef cJ2_indexOfChar_4cfef 4 (some .int), Cond.methodLink RJ2 96 yJ2_checkBoundsBeginEnd_d044e, Cond.static yJ2_checkBoundsBeginEnd_d044e, Cond.code yJ2_checkBoundsBeginEnd_d044e cJ2_checkBoundsBeginEnd_d044e 3 none, Cond.methodLink RJ2 48 yJ2_length_9d52b, Cond.static yJ2_length_9d52b, Cond.code yJ2_length_9d52b cJ2_length_9d52b 1 (some .int), Cond.methodLink RJ2 241 yJ0_checkBoundsBeginEnd_23922, Cond.static yJ0_checkBoundsBeginEnd_23922, Cond.code yJ0_checkBoundsBeginEnd_23922 cJ0_checkBoundsBeginEnd_23922 3 none, Cond.fieldLink RJ0 1053 "jdk/internal/util/Preconditions" "SIOOBE_FORMATTER" "Ljava/util/function/BiFunction;", Cond.methodLink RJ0 1062 yJ3_checkFromToIndex_8c36e]
def wsL_law_r36 : List Cond := [Cond.static yJ3_checkFromToIndex_8c36e, Cond.initialized RJ3, Cond.code yJ3_checkFromToIndex_8c36e cJ3_checkFromToIndex_8c36e 4 (some .int), Cond.methodLink RJ2 244 yJ2_indexOfCharUnsafe_4cfef, Cond.static yJ2_indexOfCharUnsafe_4cfef, Cond.code yJ2_indexOfCharUnsafe_4cfef cJ2_indexOfCharUnsafe_4cfef 5 (some .int), Cond.methodLink RJ2 71 yJ2_getChar_3b067, Cond.static yJ2_getChar_3b067, Cond.code yJ2_getChar_3b067 cJ2_getChar_3b067 2 (some .char), Cond.fieldLink RJ2 44 "java/lang/StringUTF16" "$assertionsDisabled" "Z", Cond.fieldLink RJ2 59 "java/lang/StringUTF16" "HI_BYTE_SHIFT" "I", Cond.fieldLink RJ2 63 "java/lang/StringUTF16" "LO_BYTE_SHIFT" "I", Cond.methodLink RJ2 232 yJ2_indexOfSupplementary_4cfef, Cond.static yJ2_indexOfSupplementary_4cfef, Cond.code yJ2_indexOfSupplementary_4cfef cJ2_indexOfSupplementary_4cfef 7 (some .int), Cond.methodLink RJ2 164 yJ11_isValidCodePoint_9a6ad, Cond.static yJ11_isValidCodePoint_9a6ad, Cond.initialized RJ11, Cond.code yJ11_isValidCodePoint_9a6ad cJ11_isValidCodePoint_9a6ad 2 (some .boolean), Cond.methodLink RJ2 157 yJ11_highSurrogate_5068e, Cond.static yJ11_highSurrogate_5068e, Cond.code yJ11_highSurrogate_5068e cJ11_highSurrogate_5068e 1 (some .char), Cond.constant RJ11 110 (55232), Cond.methodLink RJ2 161 yJ11_lowSurrogate_5068e]
def wsL_law_r37 : List Cond := [Cond.static yJ11_lowSurrogate_5068e, Cond.code yJ11_lowSurrogate_5068e cJ11_lowSurrogate_5068e 1 (some .char), Cond.constant RJ11 76 (56320), Cond.methodLink RX6 38 yX6_failAt, Cond.instanceMethod yX6_failAt, Cond.selects RX6 yX6_failAt yX6_failAt, Cond.code yX6_failAt cX6_failAt 2 none, Cond.methodLink RX8 281 yX8_orderCode, Cond.instanceMethod yX8_orderCode, Cond.selects RX8 yX8_orderCode yX8_orderCode, Cond.code yX8_orderCode cX8_orderCode 3 none, Cond.methodLink RX8 287 yX6_readNumber, Cond.instanceMethod yX6_readNumber, Cond.selects RX6 yX6_readNumber yX6_readNumber, Cond.code yX6_readNumber cX6_readNumber 9 (some .int), Cond.methodLink RX8 284 yX6_readHex, Cond.instanceMethod yX6_readHex, Cond.selects RX6 yX6_readHex yX6_readHex, Cond.code yX6_readHex cX6_readHex 5 (some .int), Cond.methodLink RX6 42 yX6_hexValue, Cond.static yX6_hexValue, Cond.code yX6_hexValue cX6_hexValue 1 (some .int), Cond.methodLink RX8 290 yX8_orderVotes, Cond.instanceMethod yX8_orderVotes]
def wsL_law_r38 : List Cond := [Cond.selects RX8 yX8_orderVotes yX8_orderVotes, Cond.code yX8_orderVotes cX8_orderVotes 1 none, Cond.methodLink RX8 293 yX8_orderSoft, Cond.instanceMethod yX8_orderSoft, Cond.selects RX8 yX8_orderSoft yX8_orderSoft, Cond.code yX8_orderSoft cX8_orderSoft 2 none, Cond.methodLink RX8 272 yX6_isAtEnd, Cond.methodLink RL 131 yX9_does, Cond.instanceMethod yX9_does, Cond.selects RX9 yX9_does yX9_does, Cond.code yX9_does cX9_does 4 (some .int), Cond.fieldLink RX9 240 "PlusCodesModel" "place" "I", Cond.methodLink RX9 277 yX9_readsOne, Cond.instanceMethod yX9_readsOne, Cond.selects RX9 yX9_readsOne yX9_readsOne, Cond.code yX9_readsOne cX9_readsOne 3 (some .boolean), Cond.fieldLink RX9 253 "PlusCodesModel" "value" "I", Cond.fieldLink RX9 268 "PlusCodesModel" "first" "I", Cond.methodLink RX9 247 yX9_here, Cond.instanceMethod yX9_here, Cond.selects RX9 yX9_here yX9_here, Cond.code yX9_here cX9_here 1 (some .int), Cond.methodLink RX9 265 yX9_takes, Cond.instanceMethod yX9_takes]
def wsL_law_r39 : List Cond := [Cond.selects RX9 yX9_takes yX9_takes, Cond.code yX9_takes cX9_takes 8 (some .boolean), Cond.methodLink RX9 250 yX9_isFigure, Cond.instanceMethod yX9_isFigure, Cond.selects RX9 yX9_isFigure yX9_isFigure, Cond.code yX9_isFigure cX9_isFigure 2 (some .boolean), Cond.constantLong RX9 243 (48), Cond.constantLong RX9 245 (57), Cond.methodLink RX9 271 yX9_takesHex, Cond.instanceMethod yX9_takesHex, Cond.selects RX9 yX9_takesHex yX9_takesHex, Cond.code yX9_takesHex cX9_takesHex 5 (some .boolean), Cond.constantLong RX9 263 (8), Cond.methodLink RX9 260 yX9_hexAt, Cond.instanceMethod yX9_hexAt, Cond.selects RX9 yX9_hexAt yX9_hexAt, Cond.code yX9_hexAt cX9_hexAt 3 (some .int), Cond.constantLong RX9 256 (97), Cond.constantLong RX9 258 (102), Cond.methodLink RX9 274 yX9_doesOne, Cond.instanceMethod yX9_doesOne, Cond.selects RX9 yX9_doesOne yX9_doesOne, Cond.code yX9_doesOne cX9_doesOne 6 none, Cond.methodLink RX9 280 yX9_keepsAside]
def wsL_law_r40 : List Cond := [Cond.instanceMethod yX9_keepsAside, Cond.selects RX9 yX9_keepsAside yX9_keepsAside, Cond.code yX9_keepsAside cX9_keepsAside 2 none, Cond.methodLink RL 132 yX8_back, Cond.instanceMethod yX8_back, Cond.selects RX8 yX8_back yX8_back, Cond.code yX8_back cX8_back 1 (some .int), Cond.fieldLink RX8 240 "PlusCodes$Past" "count" "I", Cond.methodLink RX8 241 yX4_giveBack, Cond.instanceMethod yX4_giveBack, Cond.selects RX4 yX4_giveBack yX4_giveBack, Cond.code yX4_giveBack cX4_giveBack 2 none, Cond.methodLink RL 135 yX9_back, Cond.instanceMethod yX9_back, Cond.selects RX9 yX9_back yX9_back, Cond.code yX9_back cX9_back 2 (some .int), Cond.methodLink RL 136 yX8_told, Cond.instanceMethod yX8_told, Cond.selects RX8 yX8_told yX8_told, Cond.code yX8_told cX8_told 2 (some .int), Cond.methodLink RL 139 yX9_told, Cond.instanceMethod yX9_told, Cond.selects RX9 yX9_told yX9_told, Cond.code yX9_told cX9_told 2 (some .int)]
def wsL_law_r41 : List Cond := [Cond.constantLong RX9 283 (4), Cond.methodLink RX9 285 yX9_toldOf, Cond.instanceMethod yX9_toldOf, Cond.selects RX9 yX9_toldOf yX9_toldOf, Cond.code yX9_toldOf cX9_toldOf 2 (some .int), Cond.methodLink RL 140 yX8_digest, Cond.instanceMethod yX8_digest, Cond.selects RX8 yX8_digest yX8_digest, Cond.code yX8_digest cX8_digest 4 (some .long), Cond.constantLong RX8 250 (2111), Cond.constantLong RX8 252 (31), Cond.methodLink RX8 254 yX8_told, Cond.methodLink RX8 257 yX8_votes, Cond.methodLink RL 144 yX9_digest, Cond.instanceMethod yX9_digest, Cond.selects RX9 yX9_digest yX9_digest, Cond.code yX9_digest cX9_digest 4 (some .long), Cond.constantLong RX9 288 (2111), Cond.constantLong RX9 290 (31), Cond.methodLink RX9 292 yX9_votes]
def wsL_law : List Cond := (wsL_law_r1 ++ (wsL_law_r2 ++ (wsL_law_r3 ++ (wsL_law_r4 ++ (wsL_law_r5 ++ (wsL_law_r6 ++ (wsL_law_r7 ++ (wsL_law_r8 ++ (wsL_law_r9 ++ (wsL_law_r10 ++ (wsL_law_r11 ++ (wsL_law_r12 ++ (wsL_law_r13 ++ (wsL_law_r14 ++ (wsL_law_r15 ++ (wsL_law_r16 ++ (wsL_law_r17 ++ (wsL_law_r18 ++ (wsL_law_r19 ++ (wsL_law_r20 ++ (wsL_law_r21 ++ (wsL_law_r22 ++ (wsL_law_r23 ++ (wsL_law_r24 ++ (wsL_law_r25 ++ (wsL_law_r26 ++ (wsL_law_r27 ++ (wsL_law_r28 ++ (wsL_law_r29 ++ (wsL_law_r30 ++ (wsL_law_r31 ++ (wsL_law_r32 ++ (wsL_law_r33 ++ (wsL_law_r34 ++ (wsL_law_r35 ++ (wsL_law_r36 ++ (wsL_law_r37 ++ (wsL_law_r38 ++ (wsL_law_r39 ++ (wsL_law_r40 ++ wsL_law_r41)))))))))))))))))))))))))))))))))))))))) ++ wsX80 ++ wsX90 ++ wsX50 ++ wsX40 ++ wsX60 ++ wsX00 ++ wsX20 ++ wsX30 ++ wsX70 ++ wsX10 ++ ([] : List Cond)
abbrev vwCl : List vw_C := [(RX0, TX0, 5), (RX1, TX1, 5), (RX2, TX2, 1), (RX3, TX3, 1), (RX4, TX4, 3), (RX5, TX5, 3), (RX6, TX6, 4), (RX7, TX7, 6), (RX8, TX8, 11), (RX9, TX9, 27)]
end
section
theorem dX9_init_0 : decode cX9_init 0 = .ok (.aload_n 0, 1) := by decide +kernel
theorem dX9_init_1 : decode cX9_init 1 = .ok (.invokespecial 1, 3) := by decide +kernel
theorem dX9_init_4 : decode cX9_init 4 = .ok (.aload_n 0, 1) := by decide +kernel
theorem dX9_init_5 : decode cX9_init 5 = .ok (.bipush 35, 2) := by decide +kernel
theorem dX9_init_7 : decode cX9_init 7 = .ok (.newarray .int, 2) := by decide +kernel
theorem dX9_init_9 : decode cX9_init 9 = .ok (.putfield 7, 3) := by decide +kernel
theorem dX9_init_12 : decode cX9_init 12 = .ok (.aload_n 0, 1) := by decide +kernel
theorem dX9_init_13 : decode cX9_init 13 = .ok (.sipush 280, 3) := by decide +kernel
theorem dX9_init_16 : decode cX9_init 16 = .ok (.newarray .int, 2) := by decide +kernel
theorem dX9_init_18 : decode cX9_init 18 = .ok (.putfield 13, 3) := by decide +kernel
theorem dX9_init_21 : decode cX9_init 21 = .ok (.aload_n 0, 1) := by decide +kernel
theorem dX9_init_22 : decode cX9_init 22 = .ok (.iconst 3, 1) := by decide +kernel
theorem dX9_init_23 : decode cX9_init 23 = .ok (.newarray .int, 2) := by decide +kernel
theorem dX9_init_25 : decode cX9_init 25 = .ok (.putfield 16, 3) := by decide +kernel
theorem dX9_init_28 : decode cX9_init 28 = .ok (.aload_n 0, 1) := by decide +kernel
theorem dX9_init_29 : decode cX9_init 29 = .ok (.bipush 32, 2) := by decide +kernel
theorem dX9_init_31 : decode cX9_init 31 = .ok (.newarray .int, 2) := by decide +kernel
theorem dX9_init_33 : decode cX9_init 33 = .ok (.putfield 19, 3) := by decide +kernel
theorem dX9_init_36 : decode cX9_init 36 = .ok (.aload_n 0, 1) := by decide +kernel
theorem dX9_init_37 : decode cX9_init 37 = .ok (.bipush 32, 2) := by decide +kernel
theorem dX9_init_39 : decode cX9_init 39 = .ok (.newarray .int, 2) := by decide +kernel
theorem dX9_init_41 : decode cX9_init 41 = .ok (.putfield 22, 3) := by decide +kernel
theorem dX9_init_44 : decode cX9_init 44 = .ok (.aload_n 0, 1) := by decide +kernel
theorem dX9_init_45 : decode cX9_init 45 = .ok (.sipush 192, 3) := by decide +kernel
theorem dX9_init_48 : decode cX9_init 48 = .ok (.newarray .int, 2) := by decide +kernel
theorem dX9_init_50 : decode cX9_init 50 = .ok (.putfield 25, 3) := by decide +kernel
theorem dX9_init_53 : decode cX9_init 53 = .ok (.aload_n 0, 1) := by decide +kernel
theorem dX9_init_54 : decode cX9_init 54 = .ok (.bipush 6, 2) := by decide +kernel
theorem dX9_init_56 : decode cX9_init 56 = .ok (.newarray .int, 2) := by decide +kernel
theorem dX9_init_58 : decode cX9_init 58 = .ok (.putfield 28, 3) := by decide +kernel
theorem dX9_init_61 : decode cX9_init 61 = .ok (.aload_n 0, 1) := by decide +kernel
theorem dX9_init_62 : decode cX9_init 62 = .ok (.bipush 6, 2) := by decide +kernel
theorem dX9_init_64 : decode cX9_init 64 = .ok (.newarray .int, 2) := by decide +kernel
theorem dX9_init_66 : decode cX9_init 66 = .ok (.putfield 31, 3) := by decide +kernel
theorem dX9_init_69 : decode cX9_init 69 = .ok (.aload_n 0, 1) := by decide +kernel
theorem dX9_init_70 : decode cX9_init 70 = .ok (.bipush 6, 2) := by decide +kernel
theorem dX9_init_72 : decode cX9_init 72 = .ok (.newarray .int, 2) := by decide +kernel
theorem dX9_init_74 : decode cX9_init 74 = .ok (.putfield 34, 3) := by decide +kernel
theorem dX9_init_77 : decode cX9_init 77 = .ok (.aload_n 0, 1) := by decide +kernel
theorem dX9_init_78 : decode cX9_init 78 = .ok (.bipush 6, 2) := by decide +kernel
theorem dX9_init_80 : decode cX9_init 80 = .ok (.newarray .int, 2) := by decide +kernel
theorem dX9_init_82 : decode cX9_init 82 = .ok (.putfield 37, 3) := by decide +kernel
theorem dX9_init_85 : decode cX9_init 85 = .ok (.aload_n 0, 1) := by decide +kernel
theorem dX9_init_86 : decode cX9_init 86 = .ok (.bipush 120, 2) := by decide +kernel
theorem dX9_init_88 : decode cX9_init 88 = .ok (.newarray .int, 2) := by decide +kernel
theorem dX9_init_90 : decode cX9_init 90 = .ok (.putfield 40, 3) := by decide +kernel
theorem dX9_init_93 : decode cX9_init 93 = .ok (.aload_n 0, 1) := by decide +kernel
theorem dX9_init_94 : decode cX9_init 94 = .ok (.bipush 35, 2) := by decide +kernel
theorem dX9_init_96 : decode cX9_init 96 = .ok (.newarray .int, 2) := by decide +kernel
theorem dX9_init_98 : decode cX9_init 98 = .ok (.putfield 43, 3) := by decide +kernel
theorem dX9_init_101 : decode cX9_init 101 = .ok (.aload_n 0, 1) := by decide +kernel
theorem dX9_init_102 : decode cX9_init 102 = .ok (.bipush 35, 2) := by decide +kernel
theorem dX9_init_104 : decode cX9_init 104 = .ok (.newarray .int, 2) := by decide +kernel
theorem dX9_init_106 : decode cX9_init 106 = .ok (.putfield 46, 3) := by decide +kernel
theorem dX9_init_109 : decode cX9_init 109 = .ok (.aload_n 0, 1) := by decide +kernel
theorem dX9_init_110 : decode cX9_init 110 = .ok (.getfield 7, 3) := by decide +kernel
theorem dX9_init_113 : decode cX9_init 113 = .ok (.iconst 0, 1) := by decide +kernel
theorem dX9_init_114 : decode cX9_init 114 = .ok (.iconst 1, 1) := by decide +kernel
theorem dX9_init_115 : decode cX9_init 115 = .ok (.iastore, 1) := by decide +kernel
theorem dX9_init_116 : decode cX9_init 116 = .ok (.aload_n 0, 1) := by decide +kernel
theorem dX9_init_117 : decode cX9_init 117 = .ok (.getfield 7, 3) := by decide +kernel
theorem dX9_init_120 : decode cX9_init 120 = .ok (.iconst 1, 1) := by decide +kernel
theorem dX9_init_121 : decode cX9_init 121 = .ok (.iconst 3, 1) := by decide +kernel
theorem dX9_init_122 : decode cX9_init 122 = .ok (.iastore, 1) := by decide +kernel
theorem dX9_init_123 : decode cX9_init 123 = .ok (.return_, 1) := by decide +kernel
theorem dX9_in_0 : decode cX9_in 0 = .ok (.lload_n 0, 1) := by decide +kernel
theorem dX9_in_1 : decode cX9_in 1 = .ok (.lload_n 2, 1) := by decide +kernel
theorem dX9_in_2 : decode cX9_in 2 = .ok (.lcmp, 1) := by decide +kernel
theorem dX9_in_3 : decode cX9_in 3 = .ok (.ifCond .lt 14, 3) := by decide +kernel
theorem dX9_in_6 : decode cX9_in 6 = .ok (.lload_n 0, 1) := by decide +kernel
theorem dX9_in_7 : decode cX9_in 7 = .ok (.lload 4, 2) := by decide +kernel
theorem dX9_in_9 : decode cX9_in 9 = .ok (.lcmp, 1) := by decide +kernel
theorem dX9_in_10 : decode cX9_in 10 = .ok (.ifCond .gt 7, 3) := by decide +kernel
theorem dX9_in_13 : decode cX9_in 13 = .ok (.iconst 1, 1) := by decide +kernel
theorem dX9_in_14 : decode cX9_in 14 = .ok (.goto 4, 3) := by decide +kernel
theorem dX9_in_17 : decode cX9_in 17 = .ok (.iconst 0, 1) := by decide +kernel
theorem dX9_in_18 : decode cX9_in 18 = .ok (.ireturn, 1) := by decide +kernel
theorem dX9_bad_0 : decode cX9_bad 0 = .ok (.aload_n 0, 1) := by decide +kernel
theorem dX9_bad_1 : decode cX9_bad 1 = .ok (.getfield 16, 3) := by decide +kernel
theorem dX9_bad_4 : decode cX9_bad 4 = .ok (.iconst 0, 1) := by decide +kernel
theorem dX9_bad_5 : decode cX9_bad 5 = .ok (.dup2, 1) := by decide +kernel
theorem dX9_bad_6 : decode cX9_bad 6 = .ok (.iaload, 1) := by decide +kernel
theorem dX9_bad_7 : decode cX9_bad 7 = .ok (.iconst 1, 1) := by decide +kernel
theorem dX9_bad_8 : decode cX9_bad 8 = .ok (.iadd, 1) := by decide +kernel
theorem dX9_bad_9 : decode cX9_bad 9 = .ok (.iastore, 1) := by decide +kernel
theorem dX9_bad_10 : decode cX9_bad 10 = .ok (.iload_n 1, 1) := by decide +kernel
theorem dX9_bad_11 : decode cX9_bad 11 = .ok (.ireturn, 1) := by decide +kernel
theorem dX9_no_0 : decode cX9_no 0 = .ok (.aload_n 0, 1) := by decide +kernel
theorem dX9_no_1 : decode cX9_no 1 = .ok (.getfield 16, 3) := by decide +kernel
theorem dX9_no_4 : decode cX9_no 4 = .ok (.iconst 1, 1) := by decide +kernel
theorem dX9_no_5 : decode cX9_no 5 = .ok (.dup2, 1) := by decide +kernel
theorem dX9_no_6 : decode cX9_no 6 = .ok (.iaload, 1) := by decide +kernel
theorem dX9_no_7 : decode cX9_no 7 = .ok (.iconst 1, 1) := by decide +kernel
theorem dX9_no_8 : decode cX9_no 8 = .ok (.iadd, 1) := by decide +kernel
theorem dX9_no_9 : decode cX9_no 9 = .ok (.iastore, 1) := by decide +kernel
theorem dX9_no_10 : decode cX9_no 10 = .ok (.iload_n 1, 1) := by decide +kernel
theorem dX9_no_11 : decode cX9_no 11 = .ok (.ireturn, 1) := by decide +kernel
theorem dX9_full_0 : decode cX9_full 0 = .ok (.aload_n 0, 1) := by decide +kernel
theorem dX9_full_1 : decode cX9_full 1 = .ok (.getfield 16, 3) := by decide +kernel
theorem dX9_full_4 : decode cX9_full 4 = .ok (.iconst 2, 1) := by decide +kernel
theorem dX9_full_5 : decode cX9_full 5 = .ok (.dup2, 1) := by decide +kernel
theorem dX9_full_6 : decode cX9_full 6 = .ok (.iaload, 1) := by decide +kernel
theorem dX9_full_7 : decode cX9_full 7 = .ok (.iconst 1, 1) := by decide +kernel
theorem dX9_full_8 : decode cX9_full 8 = .ok (.iadd, 1) := by decide +kernel
theorem dX9_full_9 : decode cX9_full 9 = .ok (.iastore, 1) := by decide +kernel
theorem dX9_full_10 : decode cX9_full 10 = .ok (.bipush (-4), 2) := by decide +kernel
theorem dX9_full_12 : decode cX9_full 12 = .ok (.ireturn, 1) := by decide +kernel
theorem dX9_has_0 : decode cX9_has 0 = .ok (.iload_n 0, 1) := by decide +kernel
theorem dX9_has_1 : decode cX9_has 1 = .ok (.iload_n 1, 1) := by decide +kernel
theorem dX9_has_2 : decode cX9_has 2 = .ok (.ishr, 1) := by decide +kernel
theorem dX9_has_3 : decode cX9_has 3 = .ok (.iconst 1, 1) := by decide +kernel
theorem dX9_has_4 : decode cX9_has 4 = .ok (.iand, 1) := by decide +kernel
theorem dX9_has_5 : decode cX9_has 5 = .ok (.iconst 1, 1) := by decide +kernel
theorem dX9_has_6 : decode cX9_has 6 = .ok (.if_icmp .ne 7, 3) := by decide +kernel
theorem dX9_has_9 : decode cX9_has 9 = .ok (.iconst 1, 1) := by decide +kernel
theorem dX9_has_10 : decode cX9_has 10 = .ok (.goto 4, 3) := by decide +kernel
theorem dX9_has_13 : decode cX9_has 13 = .ok (.iconst 0, 1) := by decide +kernel
theorem dX9_has_14 : decode cX9_has 14 = .ok (.ireturn, 1) := by decide +kernel
theorem dX9_bits_0 : decode cX9_bits 0 = .ok (.iconst 0, 1) := by decide +kernel
theorem dX9_bits_1 : decode cX9_bits 1 = .ok (.istore_n 1, 1) := by decide +kernel
theorem dX9_bits_2 : decode cX9_bits 2 = .ok (.iload_n 0, 1) := by decide +kernel
theorem dX9_bits_3 : decode cX9_bits 3 = .ok (.istore_n 2, 1) := by decide +kernel
theorem dX9_bits_4 : decode cX9_bits 4 = .ok (.iload_n 2, 1) := by decide +kernel
theorem dX9_bits_5 : decode cX9_bits 5 = .ok (.ifCond .eq 15, 3) := by decide +kernel
theorem dX9_bits_8 : decode cX9_bits 8 = .ok (.iinc 1 1, 3) := by decide +kernel
theorem dX9_bits_11 : decode cX9_bits 11 = .ok (.iload_n 2, 1) := by decide +kernel
theorem dX9_bits_12 : decode cX9_bits 12 = .ok (.iload_n 2, 1) := by decide +kernel
theorem dX9_bits_13 : decode cX9_bits 13 = .ok (.iconst 1, 1) := by decide +kernel
theorem dX9_bits_14 : decode cX9_bits 14 = .ok (.isub, 1) := by decide +kernel
theorem dX9_bits_15 : decode cX9_bits 15 = .ok (.iand, 1) := by decide +kernel
theorem dX9_bits_16 : decode cX9_bits 16 = .ok (.istore_n 2, 1) := by decide +kernel
theorem dX9_bits_17 : decode cX9_bits 17 = .ok (.goto (-13), 3) := by decide +kernel
theorem dX9_bits_20 : decode cX9_bits 20 = .ok (.iload_n 1, 1) := by decide +kernel
theorem dX9_bits_21 : decode cX9_bits 21 = .ok (.ireturn, 1) := by decide +kernel
theorem dX9_order_0 : decode cX9_order 0 = .ok (.aload_n 0, 1) := by decide +kernel
theorem dX9_order_1 : decode cX9_order 1 = .ok (.getfield 7, 3) := by decide +kernel
theorem dX9_order_4 : decode cX9_order 4 = .ok (.iconst 0, 1) := by decide +kernel
theorem dX9_order_5 : decode cX9_order 5 = .ok (.iaload, 1) := by decide +kernel
theorem dX9_order_6 : decode cX9_order 6 = .ok (.ireturn, 1) := by decide +kernel
theorem dX9_length_0 : decode cX9_length 0 = .ok (.aload_n 0, 1) := by decide +kernel
theorem dX9_length_1 : decode cX9_length 1 = .ok (.getfield 7, 3) := by decide +kernel
theorem dX9_length_4 : decode cX9_length 4 = .ok (.iconst 1, 1) := by decide +kernel
theorem dX9_length_5 : decode cX9_length 5 = .ok (.iaload, 1) := by decide +kernel
theorem dX9_length_6 : decode cX9_length 6 = .ok (.ireturn, 1) := by decide +kernel
set_option maxRecDepth 20000 in
theorem ggX9_places_X9_length : GoodIn wsX9_places wsX9_length := goodIn_r _ [5, 6, 7, 8, 9, 10, 11, 12, 13, 14, 15, 16, 17, 18, 19, 20, 21, 22, 23, 24, 25, 26, 27, 28, 29, 30, 31, 32, 33] (by decide +kernel) (by decide +kernel)
set_option maxRecDepth 20000 in
theorem gX9_places_X9_length : GoodIn wsX9_places (wsV RX9 49 RX9 yX9_length wsX9_length) := goodIn_app (goodIn_of _ (by decide +kernel)) ggX9_places_X9_length
theorem dX9_places_0 : decode cX9_places 0 = .ok (.iconst 1, 1) := by decide +kernel
theorem dX9_places_1 : decode cX9_places 1 = .ok (.aload_n 0, 1) := by decide +kernel
theorem dX9_places_2 : decode cX9_places 2 = .ok (.invokevirtual 49, 3) := by decide +kernel
theorem dX9_places_5 : decode cX9_places 5 = .ok (.ishl, 1) := by decide +kernel
theorem dX9_places_6 : decode cX9_places 6 = .ok (.ireturn, 1) := by decide +kernel
theorem dX9_theWord_0 : decode cX9_theWord 0 = .ok (.aload_n 0, 1) := by decide +kernel
theorem dX9_theWord_1 : decode cX9_theWord 1 = .ok (.getfield 7, 3) := by decide +kernel
theorem dX9_theWord_4 : decode cX9_theWord 4 = .ok (.iconst 2, 1) := by decide +kernel
theorem dX9_theWord_5 : decode cX9_theWord 5 = .ok (.iaload, 1) := by decide +kernel
theorem dX9_theWord_6 : decode cX9_theWord 6 = .ok (.ireturn, 1) := by decide +kernel
theorem dX9_allOf_0 : decode cX9_allOf 0 = .ok (.iload_n 0, 1) := by decide +kernel
theorem dX9_allOf_1 : decode cX9_allOf 1 = .ok (.bipush 32, 2) := by decide +kernel
theorem dX9_allOf_3 : decode cX9_allOf 3 = .ok (.if_icmp .lt 7, 3) := by decide +kernel
theorem dX9_allOf_6 : decode cX9_allOf 6 = .ok (.iconst (-1), 1) := by decide +kernel
theorem dX9_allOf_7 : decode cX9_allOf 7 = .ok (.goto 8, 3) := by decide +kernel
theorem dX9_allOf_10 : decode cX9_allOf 10 = .ok (.iconst 1, 1) := by decide +kernel
theorem dX9_allOf_11 : decode cX9_allOf 11 = .ok (.iload_n 0, 1) := by decide +kernel
theorem dX9_allOf_12 : decode cX9_allOf 12 = .ok (.ishl, 1) := by decide +kernel
theorem dX9_allOf_13 : decode cX9_allOf 13 = .ok (.iconst 1, 1) := by decide +kernel
theorem dX9_allOf_14 : decode cX9_allOf 14 = .ok (.isub, 1) := by decide +kernel
theorem dX9_allOf_15 : decode cX9_allOf 15 = .ok (.ireturn, 1) := by decide +kernel
theorem dX9_keep_0 : decode cX9_keep 0 = .ok (.aload_n 0, 1) := by decide +kernel
theorem dX9_keep_1 : decode cX9_keep 1 = .ok (.getfield 53, 3) := by decide +kernel
theorem dX9_keep_4 : decode cX9_keep 4 = .ok (.bipush 8, 2) := by decide +kernel
theorem dX9_keep_6 : decode cX9_keep 6 = .ok (.if_icmp .ne 43, 3) := by decide +kernel
theorem dX9_keep_9 : decode cX9_keep 9 = .ok (.iconst 0, 1) := by decide +kernel
theorem dX9_keep_10 : decode cX9_keep 10 = .ok (.istore_n 1, 1) := by decide +kernel
theorem dX9_keep_11 : decode cX9_keep 11 = .ok (.iload_n 1, 1) := by decide +kernel
theorem dX9_keep_12 : decode cX9_keep 12 = .ok (.sipush 245, 3) := by decide +kernel
theorem dX9_keep_15 : decode cX9_keep 15 = .ok (.if_icmp .ge 24, 3) := by decide +kernel
theorem dX9_keep_18 : decode cX9_keep 18 = .ok (.aload_n 0, 1) := by decide +kernel
theorem dX9_keep_19 : decode cX9_keep 19 = .ok (.getfield 13, 3) := by decide +kernel
theorem dX9_keep_22 : decode cX9_keep 22 = .ok (.iload_n 1, 1) := by decide +kernel
theorem dX9_keep_23 : decode cX9_keep 23 = .ok (.aload_n 0, 1) := by decide +kernel
theorem dX9_keep_24 : decode cX9_keep 24 = .ok (.getfield 13, 3) := by decide +kernel
theorem dX9_keep_27 : decode cX9_keep 27 = .ok (.iload_n 1, 1) := by decide +kernel
theorem dX9_keep_28 : decode cX9_keep 28 = .ok (.bipush 35, 2) := by decide +kernel
theorem dX9_keep_30 : decode cX9_keep 30 = .ok (.iadd, 1) := by decide +kernel
theorem dX9_keep_31 : decode cX9_keep 31 = .ok (.iaload, 1) := by decide +kernel
theorem dX9_keep_32 : decode cX9_keep 32 = .ok (.iastore, 1) := by decide +kernel
theorem dX9_keep_33 : decode cX9_keep 33 = .ok (.iinc 1 1, 3) := by decide +kernel
theorem dX9_keep_36 : decode cX9_keep 36 = .ok (.goto (-25), 3) := by decide +kernel
theorem dX9_keep_39 : decode cX9_keep 39 = .ok (.aload_n 0, 1) := by decide +kernel
theorem dX9_keep_40 : decode cX9_keep 40 = .ok (.dup, 1) := by decide +kernel
theorem dX9_keep_41 : decode cX9_keep 41 = .ok (.getfield 53, 3) := by decide +kernel
theorem dX9_keep_44 : decode cX9_keep 44 = .ok (.iconst 1, 1) := by decide +kernel
theorem dX9_keep_45 : decode cX9_keep 45 = .ok (.isub, 1) := by decide +kernel
theorem dX9_keep_46 : decode cX9_keep 46 = .ok (.putfield 53, 3) := by decide +kernel
theorem dX9_keep_49 : decode cX9_keep 49 = .ok (.iconst 0, 1) := by decide +kernel
theorem dX9_keep_50 : decode cX9_keep 50 = .ok (.istore_n 1, 1) := by decide +kernel
theorem dX9_keep_51 : decode cX9_keep 51 = .ok (.iload_n 1, 1) := by decide +kernel
theorem dX9_keep_52 : decode cX9_keep 52 = .ok (.bipush 35, 2) := by decide +kernel
theorem dX9_keep_54 : decode cX9_keep 54 = .ok (.if_icmp .ge 29, 3) := by decide +kernel
theorem dX9_keep_57 : decode cX9_keep 57 = .ok (.aload_n 0, 1) := by decide +kernel
theorem dX9_keep_58 : decode cX9_keep 58 = .ok (.getfield 13, 3) := by decide +kernel
theorem dX9_keep_61 : decode cX9_keep 61 = .ok (.bipush 35, 2) := by decide +kernel
theorem dX9_keep_63 : decode cX9_keep 63 = .ok (.aload_n 0, 1) := by decide +kernel
theorem dX9_keep_64 : decode cX9_keep 64 = .ok (.getfield 53, 3) := by decide +kernel
theorem dX9_keep_67 : decode cX9_keep 67 = .ok (.imul, 1) := by decide +kernel
theorem dX9_keep_68 : decode cX9_keep 68 = .ok (.iload_n 1, 1) := by decide +kernel
theorem dX9_keep_69 : decode cX9_keep 69 = .ok (.iadd, 1) := by decide +kernel
theorem dX9_keep_70 : decode cX9_keep 70 = .ok (.aload_n 0, 1) := by decide +kernel
theorem dX9_keep_71 : decode cX9_keep 71 = .ok (.getfield 7, 3) := by decide +kernel
theorem dX9_keep_74 : decode cX9_keep 74 = .ok (.iload_n 1, 1) := by decide +kernel
theorem dX9_keep_75 : decode cX9_keep 75 = .ok (.iaload, 1) := by decide +kernel
theorem dX9_keep_76 : decode cX9_keep 76 = .ok (.iastore, 1) := by decide +kernel
theorem dX9_keep_77 : decode cX9_keep 77 = .ok (.iinc 1 1, 3) := by decide +kernel
theorem dX9_keep_80 : decode cX9_keep 80 = .ok (.goto (-29), 3) := by decide +kernel
theorem dX9_keep_83 : decode cX9_keep 83 = .ok (.aload_n 0, 1) := by decide +kernel
theorem dX9_keep_84 : decode cX9_keep 84 = .ok (.dup, 1) := by decide +kernel
theorem dX9_keep_85 : decode cX9_keep 85 = .ok (.getfield 53, 3) := by decide +kernel
theorem dX9_keep_88 : decode cX9_keep 88 = .ok (.iconst 1, 1) := by decide +kernel
theorem dX9_keep_89 : decode cX9_keep 89 = .ok (.iadd, 1) := by decide +kernel
theorem dX9_keep_90 : decode cX9_keep 90 = .ok (.putfield 53, 3) := by decide +kernel
theorem dX9_keep_93 : decode cX9_keep 93 = .ok (.return_, 1) := by decide +kernel
set_option maxRecDepth 20000 in
theorem ggX9_lays_X9_places : GoodIn wsX9_lays wsX9_places := goodIn_r _ [7, 8, 9, 10, 6, 11, 12, 16, 17, 18, 19, 20, 21, 22, 23, 24, 25, 26, 27, 28, 29, 30, 31, 32, 33, 34, 35, 36, 37, 38, 39, 40, 41, 42] (by decide +kernel) (by decide +kernel)
set_option maxRecDepth 20000 in
theorem gX9_lays_X9_places : GoodIn wsX9_lays (wsV RX9 60 RX9 yX9_places wsX9_places) := goodIn_app (goodIn_of _ (by decide +kernel)) ggX9_lays_X9_places
set_option maxRecDepth 20000 in
theorem ggX9_lays_X9_bits : GoodIn wsX9_lays wsX9_bits := goodIn_r _ [15] (by decide +kernel) (by decide +kernel)
set_option maxRecDepth 20000 in
theorem gX9_lays_X9_bits : GoodIn wsX9_lays (va_wsS RX9 63 yX9_bits wsX9_bits) := goodIn_app (goodIn_of _ (by decide +kernel)) ggX9_lays_X9_bits
theorem dX9_lays_0 : decode cX9_lays 0 = .ok (.aload_n 0, 1) := by decide +kernel
theorem dX9_lays_1 : decode cX9_lays 1 = .ok (.iconst 0, 1) := by decide +kernel
theorem dX9_lays_2 : decode cX9_lays 2 = .ok (.putfield 57, 3) := by decide +kernel
theorem dX9_lays_5 : decode cX9_lays 5 = .ok (.iconst 0, 1) := by decide +kernel
theorem dX9_lays_6 : decode cX9_lays 6 = .ok (.istore_n 2, 1) := by decide +kernel
theorem dX9_lays_7 : decode cX9_lays 7 = .ok (.iload_n 2, 1) := by decide +kernel
theorem dX9_lays_8 : decode cX9_lays 8 = .ok (.iload_n 1, 1) := by decide +kernel
theorem dX9_lays_9 : decode cX9_lays 9 = .ok (.if_icmp .gt 53, 3) := by decide +kernel
theorem dX9_lays_12 : decode cX9_lays 12 = .ok (.iconst 0, 1) := by decide +kernel
theorem dX9_lays_13 : decode cX9_lays 13 = .ok (.istore_n 3, 1) := by decide +kernel
theorem dX9_lays_14 : decode cX9_lays 14 = .ok (.iload_n 3, 1) := by decide +kernel
theorem dX9_lays_15 : decode cX9_lays 15 = .ok (.aload_n 0, 1) := by decide +kernel
theorem dX9_lays_16 : decode cX9_lays 16 = .ok (.invokevirtual 60, 3) := by decide +kernel
theorem dX9_lays_19 : decode cX9_lays 19 = .ok (.if_icmp .ge 37, 3) := by decide +kernel
theorem dX9_lays_22 : decode cX9_lays 22 = .ok (.iload_n 3, 1) := by decide +kernel
theorem dX9_lays_23 : decode cX9_lays 23 = .ok (.invokestatic 63, 3) := by decide +kernel
theorem dX9_lays_26 : decode cX9_lays 26 = .ok (.iload_n 2, 1) := by decide +kernel
theorem dX9_lays_27 : decode cX9_lays 27 = .ok (.if_icmp .ne 23, 3) := by decide +kernel
theorem dX9_lays_30 : decode cX9_lays 30 = .ok (.aload_n 0, 1) := by decide +kernel
theorem dX9_lays_31 : decode cX9_lays 31 = .ok (.getfield 19, 3) := by decide +kernel
theorem dX9_lays_34 : decode cX9_lays 34 = .ok (.aload_n 0, 1) := by decide +kernel
theorem dX9_lays_35 : decode cX9_lays 35 = .ok (.getfield 57, 3) := by decide +kernel
theorem dX9_lays_38 : decode cX9_lays 38 = .ok (.iload_n 3, 1) := by decide +kernel
theorem dX9_lays_39 : decode cX9_lays 39 = .ok (.iastore, 1) := by decide +kernel
theorem dX9_lays_40 : decode cX9_lays 40 = .ok (.aload_n 0, 1) := by decide +kernel
theorem dX9_lays_41 : decode cX9_lays 41 = .ok (.dup, 1) := by decide +kernel
theorem dX9_lays_42 : decode cX9_lays 42 = .ok (.getfield 57, 3) := by decide +kernel
theorem dX9_lays_45 : decode cX9_lays 45 = .ok (.iconst 1, 1) := by decide +kernel
theorem dX9_lays_46 : decode cX9_lays 46 = .ok (.iadd, 1) := by decide +kernel
theorem dX9_lays_47 : decode cX9_lays 47 = .ok (.putfield 57, 3) := by decide +kernel
theorem dX9_lays_50 : decode cX9_lays 50 = .ok (.iinc 3 1, 3) := by decide +kernel
theorem dX9_lays_53 : decode cX9_lays 53 = .ok (.goto (-39), 3) := by decide +kernel
theorem dX9_lays_56 : decode cX9_lays 56 = .ok (.iinc 2 1, 3) := by decide +kernel
theorem dX9_lays_59 : decode cX9_lays 59 = .ok (.goto (-52), 3) := by decide +kernel
theorem dX9_lays_62 : decode cX9_lays 62 = .ok (.return_, 1) := by decide +kernel
set_option maxRecDepth 20000 in
theorem ggX9_many_X9_order : GoodIn wsX9_many wsX9_order := goodIn_r _ [6, 7, 24, 25, 26, 27, 28, 29, 30, 31, 32, 33, 34, 35, 36, 37, 38, 39, 40, 41, 42, 43, 44, 45, 46, 47, 48, 49, 50] (by decide +kernel) (by decide +kernel)
set_option maxRecDepth 20000 in
theorem gX9_many_X9_order : GoodIn wsX9_many (wsV RX9 67 RX9 yX9_order wsX9_order) := goodIn_app (goodIn_of _ (by decide +kernel)) ggX9_many_X9_order
set_option maxRecDepth 20000 in
theorem ggX9_many_X9_lays : GoodIn wsX9_many wsX9_lays := goodIn_r _ [11, 1, 12, 13, 14, 15, 5, 16, 17, 18, 19, 20, 7, 21, 22, 23, 24, 25, 26, 27, 28, 29, 30, 31, 32, 33, 34, 35, 36, 37, 38, 39, 40, 41, 42, 43, 44, 45, 46, 47, 48, 49, 50] (by decide +kernel) (by decide +kernel)
set_option maxRecDepth 20000 in
theorem gX9_many_X9_lays : GoodIn wsX9_many (wsV RX9 70 RX9 yX9_lays wsX9_lays) := goodIn_app (goodIn_of _ (by decide +kernel)) ggX9_many_X9_lays
theorem dX9_many_0 : decode cX9_many 0 = .ok (.aload_n 0, 1) := by decide +kernel
theorem dX9_many_1 : decode cX9_many 1 = .ok (.aload_n 0, 1) := by decide +kernel
theorem dX9_many_2 : decode cX9_many 2 = .ok (.invokevirtual 67, 3) := by decide +kernel
theorem dX9_many_5 : decode cX9_many 5 = .ok (.invokevirtual 70, 3) := by decide +kernel
theorem dX9_many_8 : decode cX9_many 8 = .ok (.aload_n 0, 1) := by decide +kernel
theorem dX9_many_9 : decode cX9_many 9 = .ok (.getfield 57, 3) := by decide +kernel
theorem dX9_many_12 : decode cX9_many 12 = .ok (.ireturn, 1) := by decide +kernel
set_option maxRecDepth 20000 in
theorem ggX9_wordOf_X9_places : GoodIn wsX9_wordOf wsX9_places := goodIn_r _ [5, 6, 7, 8, 4, 9, 10, 11, 12, 13, 14, 15, 16, 17, 18, 19, 20, 21, 22, 23, 24, 25, 26, 27, 28, 29, 30, 31, 32, 33, 34, 35, 36, 37] (by decide +kernel) (by decide +kernel)
set_option maxRecDepth 20000 in
theorem gX9_wordOf_X9_places : GoodIn wsX9_wordOf (wsV RX9 60 RX9 yX9_places wsX9_places) := goodIn_app (goodIn_of _ (by decide +kernel)) ggX9_wordOf_X9_places
theorem dX9_wordOf_0 : decode cX9_wordOf 0 = .ok (.iconst 0, 1) := by decide +kernel
theorem dX9_wordOf_1 : decode cX9_wordOf 1 = .ok (.istore_n 2, 1) := by decide +kernel
theorem dX9_wordOf_2 : decode cX9_wordOf 2 = .ok (.iconst 0, 1) := by decide +kernel
theorem dX9_wordOf_3 : decode cX9_wordOf 3 = .ok (.istore_n 3, 1) := by decide +kernel
theorem dX9_wordOf_4 : decode cX9_wordOf 4 = .ok (.iload_n 3, 1) := by decide +kernel
theorem dX9_wordOf_5 : decode cX9_wordOf 5 = .ok (.aload_n 0, 1) := by decide +kernel
theorem dX9_wordOf_6 : decode cX9_wordOf 6 = .ok (.invokevirtual 60, 3) := by decide +kernel
theorem dX9_wordOf_9 : decode cX9_wordOf 9 = .ok (.if_icmp .ge 26, 3) := by decide +kernel
theorem dX9_wordOf_12 : decode cX9_wordOf 12 = .ok (.iload_n 2, 1) := by decide +kernel
theorem dX9_wordOf_13 : decode cX9_wordOf 13 = .ok (.iload_n 3, 1) := by decide +kernel
theorem dX9_wordOf_14 : decode cX9_wordOf 14 = .ok (.iload_n 1, 1) := by decide +kernel
theorem dX9_wordOf_15 : decode cX9_wordOf 15 = .ok (.iand, 1) := by decide +kernel
theorem dX9_wordOf_16 : decode cX9_wordOf 16 = .ok (.iload_n 1, 1) := by decide +kernel
theorem dX9_wordOf_17 : decode cX9_wordOf 17 = .ok (.if_icmp .ne 9, 3) := by decide +kernel
theorem dX9_wordOf_20 : decode cX9_wordOf 20 = .ok (.iconst 1, 1) := by decide +kernel
theorem dX9_wordOf_21 : decode cX9_wordOf 21 = .ok (.iload_n 3, 1) := by decide +kernel
theorem dX9_wordOf_22 : decode cX9_wordOf 22 = .ok (.ishl, 1) := by decide +kernel
theorem dX9_wordOf_23 : decode cX9_wordOf 23 = .ok (.goto 4, 3) := by decide +kernel
theorem dX9_wordOf_26 : decode cX9_wordOf 26 = .ok (.iconst 0, 1) := by decide +kernel
theorem dX9_wordOf_27 : decode cX9_wordOf 27 = .ok (.ior, 1) := by decide +kernel
theorem dX9_wordOf_28 : decode cX9_wordOf 28 = .ok (.istore_n 2, 1) := by decide +kernel
theorem dX9_wordOf_29 : decode cX9_wordOf 29 = .ok (.iinc 3 1, 3) := by decide +kernel
theorem dX9_wordOf_32 : decode cX9_wordOf 32 = .ok (.goto (-28), 3) := by decide +kernel
theorem dX9_wordOf_35 : decode cX9_wordOf 35 = .ok (.iload_n 2, 1) := by decide +kernel
theorem dX9_wordOf_36 : decode cX9_wordOf 36 = .ok (.ireturn, 1) := by decide +kernel
set_option maxRecDepth 20000 in
theorem ggX9_sumOf_X9_has : GoodIn wsX9_sumOf wsX9_has := goodIn_r _ [5] (by decide +kernel) (by decide +kernel)
set_option maxRecDepth 20000 in
theorem gX9_sumOf_X9_has : GoodIn wsX9_sumOf (va_wsS RX9 74 yX9_has wsX9_has) := goodIn_app (goodIn_of _ (by decide +kernel)) ggX9_sumOf_X9_has
set_option maxRecDepth 20000 in
theorem ggX9_sumOf_X9_wordOf : GoodIn wsX9_sumOf wsX9_wordOf := goodIn_r _ [9, 10, 11, 12, 4, 13, 14, 15, 16, 17, 18, 19, 20, 21, 22, 23, 24, 25, 26, 27, 28, 29, 30, 31, 32, 33, 34, 35, 36, 37, 38, 39, 40, 41, 42, 43, 44, 45] (by decide +kernel) (by decide +kernel)
set_option maxRecDepth 20000 in
theorem gX9_sumOf_X9_wordOf : GoodIn wsX9_sumOf (wsV RX9 78 RX9 yX9_wordOf wsX9_wordOf) := goodIn_app (goodIn_of _ (by decide +kernel)) ggX9_sumOf_X9_wordOf
theorem dX9_sumOf_0 : decode cX9_sumOf 0 = .ok (.iconst 0, 1) := by decide +kernel
theorem dX9_sumOf_1 : decode cX9_sumOf 1 = .ok (.istore_n 3, 1) := by decide +kernel
theorem dX9_sumOf_2 : decode cX9_sumOf 2 = .ok (.iconst 0, 1) := by decide +kernel
theorem dX9_sumOf_3 : decode cX9_sumOf 3 = .ok (.istore 4, 2) := by decide +kernel
theorem dX9_sumOf_5 : decode cX9_sumOf 5 = .ok (.iload 4, 2) := by decide +kernel
theorem dX9_sumOf_7 : decode cX9_sumOf 7 = .ok (.iload_n 2, 1) := by decide +kernel
theorem dX9_sumOf_8 : decode cX9_sumOf 8 = .ok (.if_icmp .ge 36, 3) := by decide +kernel
theorem dX9_sumOf_11 : decode cX9_sumOf 11 = .ok (.iload_n 3, 1) := by decide +kernel
theorem dX9_sumOf_12 : decode cX9_sumOf 12 = .ok (.iload_n 1, 1) := by decide +kernel
theorem dX9_sumOf_13 : decode cX9_sumOf 13 = .ok (.iload 4, 2) := by decide +kernel
theorem dX9_sumOf_15 : decode cX9_sumOf 15 = .ok (.invokestatic 74, 3) := by decide +kernel
theorem dX9_sumOf_18 : decode cX9_sumOf 18 = .ok (.ifCond .eq 17, 3) := by decide +kernel
theorem dX9_sumOf_21 : decode cX9_sumOf 21 = .ok (.aload_n 0, 1) := by decide +kernel
theorem dX9_sumOf_22 : decode cX9_sumOf 22 = .ok (.aload_n 0, 1) := by decide +kernel
theorem dX9_sumOf_23 : decode cX9_sumOf 23 = .ok (.getfield 19, 3) := by decide +kernel
theorem dX9_sumOf_26 : decode cX9_sumOf 26 = .ok (.iload 4, 2) := by decide +kernel
theorem dX9_sumOf_28 : decode cX9_sumOf 28 = .ok (.iaload, 1) := by decide +kernel
theorem dX9_sumOf_29 : decode cX9_sumOf 29 = .ok (.invokevirtual 78, 3) := by decide +kernel
theorem dX9_sumOf_32 : decode cX9_sumOf 32 = .ok (.goto 4, 3) := by decide +kernel
theorem dX9_sumOf_35 : decode cX9_sumOf 35 = .ok (.iconst 0, 1) := by decide +kernel
theorem dX9_sumOf_36 : decode cX9_sumOf 36 = .ok (.ixor, 1) := by decide +kernel
theorem dX9_sumOf_37 : decode cX9_sumOf 37 = .ok (.istore_n 3, 1) := by decide +kernel
theorem dX9_sumOf_38 : decode cX9_sumOf 38 = .ok (.iinc 4 1, 3) := by decide +kernel
theorem dX9_sumOf_41 : decode cX9_sumOf 41 = .ok (.goto (-36), 3) := by decide +kernel
theorem dX9_sumOf_44 : decode cX9_sumOf 44 = .ok (.iload_n 3, 1) := by decide +kernel
theorem dX9_sumOf_45 : decode cX9_sumOf 45 = .ok (.ireturn, 1) := by decide +kernel
set_option maxRecDepth 20000 in
theorem ggX9_isCode_X9_in : GoodIn wsX9_isCode wsX9_in := goodIn_r _ [5] (by decide +kernel) (by decide +kernel)
set_option maxRecDepth 20000 in
theorem gX9_isCode_X9_in : GoodIn wsX9_isCode (va_wsS RX9 83 yX9_in wsX9_in) := goodIn_app (goodIn_of _ (by decide +kernel)) ggX9_isCode_X9_in
theorem dX9_isCode_0 : decode cX9_isCode 0 = .ok (.iload_n 2, 1) := by decide +kernel
theorem dX9_isCode_1 : decode cX9_isCode 1 = .ok (.i2l, 1) := by decide +kernel
theorem dX9_isCode_2 : decode cX9_isCode 2 = .ok (.lconst 0, 1) := by decide +kernel
theorem dX9_isCode_3 : decode cX9_isCode 3 = .ok (.ldc2_w 81, 3) := by decide +kernel
theorem dX9_isCode_6 : decode cX9_isCode 6 = .ok (.invokestatic 83, 3) := by decide +kernel
theorem dX9_isCode_9 : decode cX9_isCode 9 = .ok (.ifCond .eq 18, 3) := by decide +kernel
theorem dX9_isCode_12 : decode cX9_isCode 12 = .ok (.iload_n 1, 1) := by decide +kernel
theorem dX9_isCode_13 : decode cX9_isCode 13 = .ok (.i2l, 1) := by decide +kernel
theorem dX9_isCode_14 : decode cX9_isCode 14 = .ok (.lconst 0, 1) := by decide +kernel
theorem dX9_isCode_15 : decode cX9_isCode 15 = .ok (.iload_n 2, 1) := by decide +kernel
theorem dX9_isCode_16 : decode cX9_isCode 16 = .ok (.i2l, 1) := by decide +kernel
theorem dX9_isCode_17 : decode cX9_isCode 17 = .ok (.invokestatic 83, 3) := by decide +kernel
theorem dX9_isCode_20 : decode cX9_isCode 20 = .ok (.ifCond .eq 7, 3) := by decide +kernel
theorem dX9_isCode_23 : decode cX9_isCode 23 = .ok (.iconst 1, 1) := by decide +kernel
theorem dX9_isCode_24 : decode cX9_isCode 24 = .ok (.goto 4, 3) := by decide +kernel
theorem dX9_isCode_27 : decode cX9_isCode 27 = .ok (.iconst 0, 1) := by decide +kernel
theorem dX9_isCode_28 : decode cX9_isCode 28 = .ok (.ireturn, 1) := by decide +kernel
theorem dX9_becomesCode_0 : decode cX9_becomesCode 0 = .ok (.iconst 0, 1) := by decide +kernel
theorem dX9_becomesCode_1 : decode cX9_becomesCode 1 = .ok (.istore_n 3, 1) := by decide +kernel
theorem dX9_becomesCode_2 : decode cX9_becomesCode 2 = .ok (.iload_n 3, 1) := by decide +kernel
theorem dX9_becomesCode_3 : decode cX9_becomesCode 3 = .ok (.bipush 35, 2) := by decide +kernel
theorem dX9_becomesCode_5 : decode cX9_becomesCode 5 = .ok (.if_icmp .ge 16, 3) := by decide +kernel
theorem dX9_becomesCode_8 : decode cX9_becomesCode 8 = .ok (.aload_n 0, 1) := by decide +kernel
theorem dX9_becomesCode_9 : decode cX9_becomesCode 9 = .ok (.getfield 7, 3) := by decide +kernel
theorem dX9_becomesCode_12 : decode cX9_becomesCode 12 = .ok (.iload_n 3, 1) := by decide +kernel
theorem dX9_becomesCode_13 : decode cX9_becomesCode 13 = .ok (.iconst 0, 1) := by decide +kernel
theorem dX9_becomesCode_14 : decode cX9_becomesCode 14 = .ok (.iastore, 1) := by decide +kernel
theorem dX9_becomesCode_15 : decode cX9_becomesCode 15 = .ok (.iinc 3 1, 3) := by decide +kernel
theorem dX9_becomesCode_18 : decode cX9_becomesCode 18 = .ok (.goto (-16), 3) := by decide +kernel
theorem dX9_becomesCode_21 : decode cX9_becomesCode 21 = .ok (.aload_n 0, 1) := by decide +kernel
theorem dX9_becomesCode_22 : decode cX9_becomesCode 22 = .ok (.getfield 7, 3) := by decide +kernel
theorem dX9_becomesCode_25 : decode cX9_becomesCode 25 = .ok (.iconst 0, 1) := by decide +kernel
theorem dX9_becomesCode_26 : decode cX9_becomesCode 26 = .ok (.iload_n 1, 1) := by decide +kernel
theorem dX9_becomesCode_27 : decode cX9_becomesCode 27 = .ok (.iastore, 1) := by decide +kernel
theorem dX9_becomesCode_28 : decode cX9_becomesCode 28 = .ok (.aload_n 0, 1) := by decide +kernel
theorem dX9_becomesCode_29 : decode cX9_becomesCode 29 = .ok (.getfield 7, 3) := by decide +kernel
theorem dX9_becomesCode_32 : decode cX9_becomesCode 32 = .ok (.iconst 1, 1) := by decide +kernel
theorem dX9_becomesCode_33 : decode cX9_becomesCode 33 = .ok (.iload_n 2, 1) := by decide +kernel
theorem dX9_becomesCode_34 : decode cX9_becomesCode 34 = .ok (.iastore, 1) := by decide +kernel
theorem dX9_becomesCode_35 : decode cX9_becomesCode 35 = .ok (.return_, 1) := by decide +kernel
set_option maxRecDepth 20000 in
theorem ggX9_code_X9_isCode : GoodIn wsX9_code wsX9_isCode := goodIn_r _ [5, 6, 7, 8, 4, 9] (by decide +kernel) (by decide +kernel)
set_option maxRecDepth 20000 in
theorem gX9_code_X9_isCode : GoodIn wsX9_code (wsV RX9 87 RX9 yX9_isCode wsX9_isCode) := goodIn_app (goodIn_of _ (by decide +kernel)) ggX9_code_X9_isCode
set_option maxRecDepth 20000 in
theorem ggX9_code_X9_bad : GoodIn wsX9_code wsX9_bad := goodIn_r _ [13, 14, 51, 52, 53, 54, 55, 56, 57, 58, 59, 60, 61, 62, 63, 64, 65, 66, 67, 68, 69, 70, 71, 72, 73, 74, 75, 76, 77] (by decide +kernel) (by decide +kernel)
set_option maxRecDepth 20000 in
theorem gX9_code_X9_bad : GoodIn wsX9_code (wsV RX9 90 RX9 yX9_bad wsX9_bad) := goodIn_app (goodIn_of _ (by decide +kernel)) ggX9_code_X9_bad
set_option maxRecDepth 20000 in
theorem ggX9_code_X9_keep : GoodIn wsX9_code wsX9_keep := goodIn_r _ [18, 19, 20, 21, 51, 52, 53, 54, 55, 56, 57, 58, 59, 60, 61, 62, 63, 64, 65, 66, 67, 68, 69, 70, 71, 72, 73, 74, 75, 76, 77] (by decide +kernel) (by decide +kernel)
set_option maxRecDepth 20000 in
theorem gX9_code_X9_keep : GoodIn wsX9_code (wsV RX9 93 RX9 yX9_keep wsX9_keep) := goodIn_app (goodIn_of _ (by decide +kernel)) ggX9_code_X9_keep
set_option maxRecDepth 20000 in
theorem ggX9_code_X9_becomesCode : GoodIn wsX9_code wsX9_becomesCode := goodIn_r _ [25, 21, 51, 52, 53, 54, 55, 56, 57, 58, 59, 60, 61, 62, 63, 64, 65, 66, 67, 68, 69, 70, 71, 72, 73, 74, 75, 76, 77] (by decide +kernel) (by decide +kernel)
set_option maxRecDepth 20000 in
theorem gX9_code_X9_becomesCode : GoodIn wsX9_code (wsV RX9 96 RX9 yX9_becomesCode wsX9_becomesCode) := goodIn_app (goodIn_of _ (by decide +kernel)) ggX9_code_X9_becomesCode
set_option maxRecDepth 20000 in
theorem ggX9_code_X9_many : GoodIn wsX9_code wsX9_many := goodIn_r _ [29, 30, 31, 32, 33, 4, 34, 21, 35, 36, 37, 38, 39, 40, 41, 42, 43, 44, 45, 46, 47, 48, 49, 50, 51, 52, 53, 54, 55, 56, 57, 58, 59, 60, 61, 62, 63, 64, 65, 66, 67, 68, 69, 70, 71, 72, 73, 74, 75, 76, 77] (by decide +kernel) (by decide +kernel)
set_option maxRecDepth 20000 in
theorem gX9_code_X9_many : GoodIn wsX9_code (wsV RX9 100 RX9 yX9_many wsX9_many) := goodIn_app (goodIn_of _ (by decide +kernel)) ggX9_code_X9_many
theorem dX9_code_0 : decode cX9_code 0 = .ok (.aload_n 0, 1) := by decide +kernel
theorem dX9_code_1 : decode cX9_code 1 = .ok (.iload_n 1, 1) := by decide +kernel
theorem dX9_code_2 : decode cX9_code 2 = .ok (.iload_n 2, 1) := by decide +kernel
theorem dX9_code_3 : decode cX9_code 3 = .ok (.invokevirtual 87, 3) := by decide +kernel
theorem dX9_code_6 : decode cX9_code 6 = .ok (.ifCond .ne 10, 3) := by decide +kernel
theorem dX9_code_9 : decode cX9_code 9 = .ok (.aload_n 0, 1) := by decide +kernel
theorem dX9_code_10 : decode cX9_code 10 = .ok (.bipush (-2), 2) := by decide +kernel
theorem dX9_code_12 : decode cX9_code 12 = .ok (.invokevirtual 90, 3) := by decide +kernel
theorem dX9_code_15 : decode cX9_code 15 = .ok (.ireturn, 1) := by decide +kernel
theorem dX9_code_16 : decode cX9_code 16 = .ok (.aload_n 0, 1) := by decide +kernel
theorem dX9_code_17 : decode cX9_code 17 = .ok (.invokevirtual 93, 3) := by decide +kernel
theorem dX9_code_20 : decode cX9_code 20 = .ok (.aload_n 0, 1) := by decide +kernel
theorem dX9_code_21 : decode cX9_code 21 = .ok (.iload_n 1, 1) := by decide +kernel
theorem dX9_code_22 : decode cX9_code 22 = .ok (.iload_n 2, 1) := by decide +kernel
theorem dX9_code_23 : decode cX9_code 23 = .ok (.invokevirtual 96, 3) := by decide +kernel
theorem dX9_code_26 : decode cX9_code 26 = .ok (.aload_n 0, 1) := by decide +kernel
theorem dX9_code_27 : decode cX9_code 27 = .ok (.invokevirtual 100, 3) := by decide +kernel
theorem dX9_code_30 : decode cX9_code 30 = .ok (.ireturn, 1) := by decide +kernel
set_option maxRecDepth 20000 in
theorem ggX9_distance_X9_length : GoodIn wsX9_distance wsX9_length := goodIn_r _ [5, 6, 11, 12, 13, 14, 15, 16, 17, 18, 19, 20, 21, 22, 23, 24, 25, 26, 27, 28, 29, 30, 31, 32, 33, 34, 35, 36, 37] (by decide +kernel) (by decide +kernel)
set_option maxRecDepth 20000 in
theorem gX9_distance_X9_length : GoodIn wsX9_distance (wsV RX9 49 RX9 yX9_length wsX9_length) := goodIn_app (goodIn_of _ (by decide +kernel)) ggX9_distance_X9_length
set_option maxRecDepth 20000 in
theorem ggX9_distance_X9_order : GoodIn wsX9_distance wsX9_order := goodIn_r _ [10, 6, 11, 12, 13, 14, 15, 16, 17, 18, 19, 20, 21, 22, 23, 24, 25, 26, 27, 28, 29, 30, 31, 32, 33, 34, 35, 36, 37] (by decide +kernel) (by decide +kernel)
set_option maxRecDepth 20000 in
theorem gX9_distance_X9_order : GoodIn wsX9_distance (wsV RX9 67 RX9 yX9_order wsX9_order) := goodIn_app (goodIn_of _ (by decide +kernel)) ggX9_distance_X9_order
theorem dX9_distance_0 : decode cX9_distance 0 = .ok (.iconst 1, 1) := by decide +kernel
theorem dX9_distance_1 : decode cX9_distance 1 = .ok (.aload_n 0, 1) := by decide +kernel
theorem dX9_distance_2 : decode cX9_distance 2 = .ok (.invokevirtual 49, 3) := by decide +kernel
theorem dX9_distance_5 : decode cX9_distance 5 = .ok (.aload_n 0, 1) := by decide +kernel
theorem dX9_distance_6 : decode cX9_distance 6 = .ok (.invokevirtual 67, 3) := by decide +kernel
theorem dX9_distance_9 : decode cX9_distance 9 = .ok (.isub, 1) := by decide +kernel
theorem dX9_distance_10 : decode cX9_distance 10 = .ok (.ishl, 1) := by decide +kernel
theorem dX9_distance_11 : decode cX9_distance 11 = .ok (.ireturn, 1) := by decide +kernel
set_option maxRecDepth 20000 in
theorem ggX9_of_X9_in : GoodIn wsX9_of wsX9_in := goodIn_r _ [5] (by decide +kernel) (by decide +kernel)
set_option maxRecDepth 20000 in
theorem gX9_of_X9_in : GoodIn wsX9_of (va_wsS RX9 83 yX9_in wsX9_in) := goodIn_app (goodIn_of _ (by decide +kernel)) ggX9_of_X9_in
set_option maxRecDepth 20000 in
theorem ggX9_of_X9_bad : GoodIn wsX9_of wsX9_bad := goodIn_r _ [9, 10, 41, 42, 43, 44, 45, 46, 47, 48, 49, 50, 51, 52, 53, 54, 55, 56, 57, 58, 59, 60, 61, 62, 63, 64, 65, 66, 67] (by decide +kernel) (by decide +kernel)
set_option maxRecDepth 20000 in
theorem gX9_of_X9_bad : GoodIn wsX9_of (wsV RX9 90 RX9 yX9_bad wsX9_bad) := goodIn_app (goodIn_of _ (by decide +kernel)) ggX9_of_X9_bad
set_option maxRecDepth 20000 in
theorem ggX9_of_X9_order : GoodIn wsX9_of wsX9_order := goodIn_r _ [14, 15, 41, 42, 43, 44, 45, 46, 47, 48, 49, 50, 51, 52, 53, 54, 55, 56, 57, 58, 59, 60, 61, 62, 63, 64, 65, 66, 67] (by decide +kernel) (by decide +kernel)
set_option maxRecDepth 20000 in
theorem gX9_of_X9_order : GoodIn wsX9_of (wsV RX9 67 RX9 yX9_order wsX9_order) := goodIn_app (goodIn_of _ (by decide +kernel)) ggX9_of_X9_order
set_option maxRecDepth 20000 in
theorem ggX9_of_X9_length : GoodIn wsX9_of wsX9_length := goodIn_r _ [19, 15, 41, 42, 43, 44, 45, 46, 47, 48, 49, 50, 51, 52, 53, 54, 55, 56, 57, 58, 59, 60, 61, 62, 63, 64, 65, 66, 67] (by decide +kernel) (by decide +kernel)
set_option maxRecDepth 20000 in
theorem gX9_of_X9_length : GoodIn wsX9_of (wsV RX9 49 RX9 yX9_length wsX9_length) := goodIn_app (goodIn_of _ (by decide +kernel)) ggX9_of_X9_length
set_option maxRecDepth 20000 in
theorem ggX9_of_X9_many : GoodIn wsX9_of wsX9_many := goodIn_r _ [23, 24, 11, 12, 13, 4, 14, 15, 25, 26, 27, 28, 29, 30, 31, 32, 33, 16, 17, 18, 19, 34, 35, 36, 41, 42, 43, 44, 45, 46, 47, 48, 49, 50, 51, 52, 53, 54, 55, 56, 57, 58, 59, 60, 61, 62, 63, 64, 65, 66, 67] (by decide +kernel) (by decide +kernel)
set_option maxRecDepth 20000 in
theorem gX9_of_X9_many : GoodIn wsX9_of (wsV RX9 100 RX9 yX9_many wsX9_many) := goodIn_app (goodIn_of _ (by decide +kernel)) ggX9_of_X9_many
set_option maxRecDepth 20000 in
theorem ggX9_of_X9_distance : GoodIn wsX9_of wsX9_distance := goodIn_r _ [40, 16, 17, 18, 4, 19, 15, 11, 12, 13, 14, 41, 42, 43, 44, 45, 46, 47, 48, 49, 50, 51, 52, 53, 54, 55, 56, 57, 58, 59, 60, 61, 62, 63, 64, 65, 66, 67] (by decide +kernel) (by decide +kernel)
set_option maxRecDepth 20000 in
theorem gX9_of_X9_distance : GoodIn wsX9_of (wsV RX9 103 RX9 yX9_distance wsX9_distance) := goodIn_app (goodIn_of _ (by decide +kernel)) ggX9_of_X9_distance
set_option maxRecDepth 20000 in
theorem ggX9_of_X9_places : GoodIn wsX9_of wsX9_places := goodIn_r _ [33, 16, 17, 18, 4, 19, 15, 41, 42, 43, 44, 45, 46, 47, 48, 49, 50, 51, 52, 53, 54, 55, 56, 57, 58, 59, 60, 61, 62, 63, 64, 65, 66, 67] (by decide +kernel) (by decide +kernel)
set_option maxRecDepth 20000 in
theorem gX9_of_X9_places : GoodIn wsX9_of (wsV RX9 60 RX9 yX9_places wsX9_places) := goodIn_app (goodIn_of _ (by decide +kernel)) ggX9_of_X9_places
theorem dX9_of_0 : decode cX9_of 0 = .ok (.iload_n 1, 1) := by decide +kernel
theorem dX9_of_1 : decode cX9_of 1 = .ok (.i2l, 1) := by decide +kernel
theorem dX9_of_2 : decode cX9_of 2 = .ok (.lconst 0, 1) := by decide +kernel
theorem dX9_of_3 : decode cX9_of 3 = .ok (.ldc2_w 81, 3) := by decide +kernel
theorem dX9_of_6 : decode cX9_of 6 = .ok (.invokestatic 83, 3) := by decide +kernel
theorem dX9_of_9 : decode cX9_of 9 = .ok (.ifCond .ne 10, 3) := by decide +kernel
theorem dX9_of_12 : decode cX9_of 12 = .ok (.aload_n 0, 1) := by decide +kernel
theorem dX9_of_13 : decode cX9_of 13 = .ok (.bipush (-2), 2) := by decide +kernel
theorem dX9_of_15 : decode cX9_of 15 = .ok (.invokevirtual 90, 3) := by decide +kernel
theorem dX9_of_18 : decode cX9_of 18 = .ok (.ireturn, 1) := by decide +kernel
theorem dX9_of_19 : decode cX9_of 19 = .ok (.iload_n 1, 1) := by decide +kernel
theorem dX9_of_20 : decode cX9_of 20 = .ok (.ifCond .ne 10, 3) := by decide +kernel
theorem dX9_of_23 : decode cX9_of 23 = .ok (.aload_n 0, 1) := by decide +kernel
theorem dX9_of_24 : decode cX9_of 24 = .ok (.invokevirtual 67, 3) := by decide +kernel
theorem dX9_of_27 : decode cX9_of 27 = .ok (.goto 59, 3) := by decide +kernel
theorem dX9_of_30 : decode cX9_of 30 = .ok (.iload_n 1, 1) := by decide +kernel
theorem dX9_of_31 : decode cX9_of 31 = .ok (.iconst 1, 1) := by decide +kernel
theorem dX9_of_32 : decode cX9_of 32 = .ok (.if_icmp .ne 10, 3) := by decide +kernel
theorem dX9_of_35 : decode cX9_of 35 = .ok (.aload_n 0, 1) := by decide +kernel
theorem dX9_of_36 : decode cX9_of 36 = .ok (.invokevirtual 49, 3) := by decide +kernel
theorem dX9_of_39 : decode cX9_of 39 = .ok (.goto 47, 3) := by decide +kernel
theorem dX9_of_42 : decode cX9_of 42 = .ok (.iload_n 1, 1) := by decide +kernel
theorem dX9_of_43 : decode cX9_of 43 = .ok (.iconst 2, 1) := by decide +kernel
theorem dX9_of_44 : decode cX9_of 44 = .ok (.if_icmp .ne 10, 3) := by decide +kernel
theorem dX9_of_47 : decode cX9_of 47 = .ok (.aload_n 0, 1) := by decide +kernel
theorem dX9_of_48 : decode cX9_of 48 = .ok (.invokevirtual 100, 3) := by decide +kernel
theorem dX9_of_51 : decode cX9_of 51 = .ok (.goto 35, 3) := by decide +kernel
theorem dX9_of_54 : decode cX9_of 54 = .ok (.iload_n 1, 1) := by decide +kernel
theorem dX9_of_55 : decode cX9_of 55 = .ok (.iconst 3, 1) := by decide +kernel
theorem dX9_of_56 : decode cX9_of 56 = .ok (.if_icmp .ne 10, 3) := by decide +kernel
theorem dX9_of_59 : decode cX9_of 59 = .ok (.aload_n 0, 1) := by decide +kernel
theorem dX9_of_60 : decode cX9_of 60 = .ok (.invokevirtual 103, 3) := by decide +kernel
theorem dX9_of_63 : decode cX9_of 63 = .ok (.goto 23, 3) := by decide +kernel
theorem dX9_of_66 : decode cX9_of 66 = .ok (.iload_n 1, 1) := by decide +kernel
theorem dX9_of_67 : decode cX9_of 67 = .ok (.iconst 4, 1) := by decide +kernel
theorem dX9_of_68 : decode cX9_of 68 = .ok (.if_icmp .ne 10, 3) := by decide +kernel
theorem dX9_of_71 : decode cX9_of 71 = .ok (.aload_n 0, 1) := by decide +kernel
theorem dX9_of_72 : decode cX9_of 72 = .ok (.invokevirtual 60, 3) := by decide +kernel
theorem dX9_of_75 : decode cX9_of 75 = .ok (.goto 11, 3) := by decide +kernel
theorem dX9_of_78 : decode cX9_of 78 = .ok (.aload_n 0, 1) := by decide +kernel
theorem dX9_of_79 : decode cX9_of 79 = .ok (.invokevirtual 103, 3) := by decide +kernel
theorem dX9_of_82 : decode cX9_of 82 = .ok (.iconst 1, 1) := by decide +kernel
theorem dX9_of_83 : decode cX9_of 83 = .ok (.isub, 1) := by decide +kernel
theorem dX9_of_84 : decode cX9_of 84 = .ok (.iconst 2, 1) := by decide +kernel
theorem dX9_of_85 : decode cX9_of 85 = .ok (.idiv, 1) := by decide +kernel
theorem dX9_of_86 : decode cX9_of 86 = .ok (.ireturn, 1) := by decide +kernel
set_option maxRecDepth 20000 in
theorem ggX9_term_X9_bad : GoodIn wsX9_term wsX9_bad := goodIn_r _ [6, 7, 33, 34, 35, 36, 37, 38, 39, 40, 41, 42, 43, 44, 45, 46, 47, 48, 49, 50, 51, 52, 53, 54, 55, 56, 57, 58, 59] (by decide +kernel) (by decide +kernel)
set_option maxRecDepth 20000 in
theorem gX9_term_X9_bad : GoodIn wsX9_term (wsV RX9 90 RX9 yX9_bad wsX9_bad) := goodIn_app (goodIn_of _ (by decide +kernel)) ggX9_term_X9_bad
set_option maxRecDepth 20000 in
theorem ggX9_term_X9_many : GoodIn wsX9_term wsX9_many := goodIn_r _ [11, 12, 13, 14, 15, 5, 16, 17, 18, 19, 20, 21, 1, 22, 23, 24, 25, 26, 27, 28, 29, 30, 31, 32, 33, 34, 35, 36, 37, 38, 39, 40, 41, 42, 43, 44, 45, 46, 47, 48, 49, 50, 51, 52, 53, 54, 55, 56, 57, 58, 59] (by decide +kernel) (by decide +kernel)
set_option maxRecDepth 20000 in
theorem gX9_term_X9_many : GoodIn wsX9_term (wsV RX9 100 RX9 yX9_many wsX9_many) := goodIn_app (goodIn_of _ (by decide +kernel)) ggX9_term_X9_many
theorem dX9_term_0 : decode cX9_term 0 = .ok (.iload_n 1, 1) := by decide +kernel
theorem dX9_term_1 : decode cX9_term 1 = .ok (.ifCond .ge 10, 3) := by decide +kernel
theorem dX9_term_4 : decode cX9_term 4 = .ok (.aload_n 0, 1) := by decide +kernel
theorem dX9_term_5 : decode cX9_term 5 = .ok (.bipush (-2), 2) := by decide +kernel
theorem dX9_term_7 : decode cX9_term 7 = .ok (.invokevirtual 90, 3) := by decide +kernel
theorem dX9_term_10 : decode cX9_term 10 = .ok (.ireturn, 1) := by decide +kernel
theorem dX9_term_11 : decode cX9_term 11 = .ok (.iload_n 1, 1) := by decide +kernel
theorem dX9_term_12 : decode cX9_term 12 = .ok (.aload_n 0, 1) := by decide +kernel
theorem dX9_term_13 : decode cX9_term 13 = .ok (.invokevirtual 100, 3) := by decide +kernel
theorem dX9_term_16 : decode cX9_term 16 = .ok (.if_icmp .ge 12, 3) := by decide +kernel
theorem dX9_term_19 : decode cX9_term 19 = .ok (.aload_n 0, 1) := by decide +kernel
theorem dX9_term_20 : decode cX9_term 20 = .ok (.getfield 19, 3) := by decide +kernel
theorem dX9_term_23 : decode cX9_term 23 = .ok (.iload_n 1, 1) := by decide +kernel
theorem dX9_term_24 : decode cX9_term 24 = .ok (.iaload, 1) := by decide +kernel
theorem dX9_term_25 : decode cX9_term 25 = .ok (.goto 4, 3) := by decide +kernel
theorem dX9_term_28 : decode cX9_term 28 = .ok (.iconst (-1), 1) := by decide +kernel
theorem dX9_term_29 : decode cX9_term 29 = .ok (.ireturn, 1) := by decide +kernel
set_option maxRecDepth 20000 in
theorem ggX9_isWithin_X9_allOf : GoodIn wsX9_isWithin wsX9_allOf := goodIn_r _ [4] (by decide +kernel) (by decide +kernel)
set_option maxRecDepth 20000 in
theorem gX9_isWithin_X9_allOf : GoodIn wsX9_isWithin (va_wsS RX9 106 yX9_allOf wsX9_allOf) := goodIn_app (goodIn_of _ (by decide +kernel)) ggX9_isWithin_X9_allOf
theorem dX9_isWithin_0 : decode cX9_isWithin 0 = .ok (.iload_n 1, 1) := by decide +kernel
theorem dX9_isWithin_1 : decode cX9_isWithin 1 = .ok (.iload_n 2, 1) := by decide +kernel
theorem dX9_isWithin_2 : decode cX9_isWithin 2 = .ok (.invokestatic 106, 3) := by decide +kernel
theorem dX9_isWithin_5 : decode cX9_isWithin 5 = .ok (.iconst (-1), 1) := by decide +kernel
theorem dX9_isWithin_6 : decode cX9_isWithin 6 = .ok (.ixor, 1) := by decide +kernel
theorem dX9_isWithin_7 : decode cX9_isWithin 7 = .ok (.iand, 1) := by decide +kernel
theorem dX9_isWithin_8 : decode cX9_isWithin 8 = .ok (.ifCond .ne 7, 3) := by decide +kernel
theorem dX9_isWithin_11 : decode cX9_isWithin 11 = .ok (.iconst 1, 1) := by decide +kernel
theorem dX9_isWithin_12 : decode cX9_isWithin 12 = .ok (.goto 4, 3) := by decide +kernel
theorem dX9_isWithin_15 : decode cX9_isWithin 15 = .ok (.iconst 0, 1) := by decide +kernel
theorem dX9_isWithin_16 : decode cX9_isWithin 16 = .ok (.ireturn, 1) := by decide +kernel
set_option maxRecDepth 20000 in
theorem ggX9_word_X9_places : GoodIn wsX9_word wsX9_places := goodIn_r _ [6, 7, 8, 9, 5, 10, 1, 29, 30, 31, 32, 33, 34, 35, 36, 37, 38, 39, 40, 41, 42, 43, 44, 45, 46, 47, 48, 49, 50, 51, 52, 53, 54, 55] (by decide +kernel) (by decide +kernel)
set_option maxRecDepth 20000 in
theorem gX9_word_X9_places : GoodIn wsX9_word (wsV RX9 60 RX9 yX9_places wsX9_places) := goodIn_app (goodIn_of _ (by decide +kernel)) ggX9_word_X9_places
set_option maxRecDepth 20000 in
theorem ggX9_word_X9_isWithin : GoodIn wsX9_word wsX9_isWithin := goodIn_r _ [14, 15, 16, 5, 17] (by decide +kernel) (by decide +kernel)
set_option maxRecDepth 20000 in
theorem gX9_word_X9_isWithin : GoodIn wsX9_word (wsV RX9 109 RX9 yX9_isWithin wsX9_isWithin) := goodIn_app (goodIn_of _ (by decide +kernel)) ggX9_word_X9_isWithin
set_option maxRecDepth 20000 in
theorem ggX9_word_X9_bad : GoodIn wsX9_word wsX9_bad := goodIn_r _ [21, 22, 29, 30, 31, 32, 33, 34, 35, 36, 37, 38, 39, 40, 41, 42, 43, 44, 45, 46, 47, 48, 49, 50, 51, 52, 53, 54, 55] (by decide +kernel) (by decide +kernel)
set_option maxRecDepth 20000 in
theorem gX9_word_X9_bad : GoodIn wsX9_word (wsV RX9 90 RX9 yX9_bad wsX9_bad) := goodIn_app (goodIn_of _ (by decide +kernel)) ggX9_word_X9_bad
set_option maxRecDepth 20000 in
theorem ggX9_word_X9_keep : GoodIn wsX9_word wsX9_keep := goodIn_r _ [26, 27, 28, 1, 29, 30, 31, 32, 33, 34, 35, 36, 37, 38, 39, 40, 41, 42, 43, 44, 45, 46, 47, 48, 49, 50, 51, 52, 53, 54, 55] (by decide +kernel) (by decide +kernel)
set_option maxRecDepth 20000 in
theorem gX9_word_X9_keep : GoodIn wsX9_word (wsV RX9 93 RX9 yX9_keep wsX9_keep) := goodIn_app (goodIn_of _ (by decide +kernel)) ggX9_word_X9_keep
theorem dX9_word_0 : decode cX9_word 0 = .ok (.aload_n 0, 1) := by decide +kernel
theorem dX9_word_1 : decode cX9_word 1 = .ok (.iload_n 1, 1) := by decide +kernel
theorem dX9_word_2 : decode cX9_word 2 = .ok (.aload_n 0, 1) := by decide +kernel
theorem dX9_word_3 : decode cX9_word 3 = .ok (.invokevirtual 60, 3) := by decide +kernel
theorem dX9_word_6 : decode cX9_word 6 = .ok (.invokevirtual 109, 3) := by decide +kernel
theorem dX9_word_9 : decode cX9_word 9 = .ok (.ifCond .ne 10, 3) := by decide +kernel
theorem dX9_word_12 : decode cX9_word 12 = .ok (.aload_n 0, 1) := by decide +kernel
theorem dX9_word_13 : decode cX9_word 13 = .ok (.bipush (-2), 2) := by decide +kernel
theorem dX9_word_15 : decode cX9_word 15 = .ok (.invokevirtual 90, 3) := by decide +kernel
theorem dX9_word_18 : decode cX9_word 18 = .ok (.ireturn, 1) := by decide +kernel
theorem dX9_word_19 : decode cX9_word 19 = .ok (.aload_n 0, 1) := by decide +kernel
theorem dX9_word_20 : decode cX9_word 20 = .ok (.invokevirtual 93, 3) := by decide +kernel
theorem dX9_word_23 : decode cX9_word 23 = .ok (.aload_n 0, 1) := by decide +kernel
theorem dX9_word_24 : decode cX9_word 24 = .ok (.getfield 7, 3) := by decide +kernel
theorem dX9_word_27 : decode cX9_word 27 = .ok (.iconst 2, 1) := by decide +kernel
theorem dX9_word_28 : decode cX9_word 28 = .ok (.iload_n 1, 1) := by decide +kernel
theorem dX9_word_29 : decode cX9_word 29 = .ok (.iastore, 1) := by decide +kernel
theorem dX9_word_30 : decode cX9_word 30 = .ok (.iconst 1, 1) := by decide +kernel
theorem dX9_word_31 : decode cX9_word 31 = .ok (.ireturn, 1) := by decide +kernel
set_option maxRecDepth 20000 in
theorem ggX9_encodes_X9_many : GoodIn wsX9_encodes wsX9_many := goodIn_r _ [6, 7, 8, 9, 10, 5, 11, 1, 12, 13, 14, 15, 16, 17, 18, 19, 20, 21, 22, 23, 24, 25, 26, 27, 43, 44, 45, 46, 47, 48, 49, 50, 51, 52, 53, 54, 55, 56, 57, 58, 59, 60, 61, 62, 63, 64, 65, 66, 67, 68, 69] (by decide +kernel) (by decide +kernel)
set_option maxRecDepth 20000 in
theorem gX9_encodes_X9_many : GoodIn wsX9_encodes (wsV RX9 100 RX9 yX9_many wsX9_many) := goodIn_app (goodIn_of _ (by decide +kernel)) ggX9_encodes_X9_many
set_option maxRecDepth 20000 in
theorem ggX9_encodes_X9_sumOf : GoodIn wsX9_encodes wsX9_sumOf := goodIn_r _ [31, 16, 32, 33, 5, 34, 35, 36, 37, 38, 17, 18, 19, 20, 21, 22, 23, 24, 1, 43, 44, 45, 46, 47, 48, 49, 50, 51, 52, 53, 54, 55, 56, 57, 58, 59, 60, 61, 62, 63, 64, 65, 66, 67, 68, 69] (by decide +kernel) (by decide +kernel)
set_option maxRecDepth 20000 in
theorem gX9_encodes_X9_sumOf : GoodIn wsX9_encodes (wsV RX9 112 RX9 yX9_sumOf wsX9_sumOf) := goodIn_app (goodIn_of _ (by decide +kernel)) ggX9_encodes_X9_sumOf
set_option maxRecDepth 20000 in
theorem ggX9_encodes_X9_theWord : GoodIn wsX9_encodes wsX9_theWord := goodIn_r _ [42, 1, 43, 44, 45, 46, 47, 48, 49, 50, 51, 52, 53, 54, 55, 56, 57, 58, 59, 60, 61, 62, 63, 64, 65, 66, 67, 68, 69] (by decide +kernel) (by decide +kernel)
set_option maxRecDepth 20000 in
theorem gX9_encodes_X9_theWord : GoodIn wsX9_encodes (wsV RX9 116 RX9 yX9_theWord wsX9_theWord) := goodIn_app (goodIn_of _ (by decide +kernel)) ggX9_encodes_X9_theWord
set_option maxRecDepth 20000 in
theorem ggX9_encodes_X9_bits : GoodIn wsX9_encodes wsX9_bits := goodIn_r _ [27] (by decide +kernel) (by decide +kernel)
set_option maxRecDepth 20000 in
theorem gX9_encodes_X9_bits : GoodIn wsX9_encodes (va_wsS RX9 63 yX9_bits wsX9_bits) := goodIn_app (goodIn_of _ (by decide +kernel)) ggX9_encodes_X9_bits
theorem dX9_encodes_0 : decode cX9_encodes 0 = .ok (.aload_n 0, 1) := by decide +kernel
theorem dX9_encodes_1 : decode cX9_encodes 1 = .ok (.invokevirtual 100, 3) := by decide +kernel
theorem dX9_encodes_4 : decode cX9_encodes 4 = .ok (.istore_n 2, 1) := by decide +kernel
theorem dX9_encodes_5 : decode cX9_encodes 5 = .ok (.aload_n 0, 1) := by decide +kernel
theorem dX9_encodes_6 : decode cX9_encodes 6 = .ok (.getfield 7, 3) := by decide +kernel
theorem dX9_encodes_9 : decode cX9_encodes 9 = .ok (.iconst 2, 1) := by decide +kernel
theorem dX9_encodes_10 : decode cX9_encodes 10 = .ok (.aload_n 0, 1) := by decide +kernel
theorem dX9_encodes_11 : decode cX9_encodes 11 = .ok (.iload_n 1, 1) := by decide +kernel
theorem dX9_encodes_12 : decode cX9_encodes 12 = .ok (.iload_n 2, 1) := by decide +kernel
theorem dX9_encodes_13 : decode cX9_encodes 13 = .ok (.invokevirtual 112, 3) := by decide +kernel
theorem dX9_encodes_16 : decode cX9_encodes 16 = .ok (.iastore, 1) := by decide +kernel
theorem dX9_encodes_17 : decode cX9_encodes 17 = .ok (.aload_n 0, 1) := by decide +kernel
theorem dX9_encodes_18 : decode cX9_encodes 18 = .ok (.invokevirtual 116, 3) := by decide +kernel
theorem dX9_encodes_21 : decode cX9_encodes 21 = .ok (.invokestatic 63, 3) := by decide +kernel
theorem dX9_encodes_24 : decode cX9_encodes 24 = .ok (.ireturn, 1) := by decide +kernel
set_option maxRecDepth 20000 in
theorem ggX9_encode_X9_many : GoodIn wsX9_encode wsX9_many := goodIn_r _ [5, 6, 7, 8, 9, 4, 10, 11, 12, 13, 14, 15, 16, 17, 18, 19, 20, 21, 22, 23, 24, 25, 26, 27, 65, 66, 67, 68, 69, 70, 71, 72, 73, 74, 75, 76, 77, 78, 79, 80, 81, 82, 83, 84, 85, 86, 87, 88, 89, 90, 91] (by decide +kernel) (by decide +kernel)
set_option maxRecDepth 20000 in
theorem gX9_encode_X9_many : GoodIn wsX9_encode (wsV RX9 100 RX9 yX9_many wsX9_many) := goodIn_app (goodIn_of _ (by decide +kernel)) ggX9_encode_X9_many
set_option maxRecDepth 20000 in
theorem ggX9_encode_X9_isWithin : GoodIn wsX9_encode wsX9_isWithin := goodIn_r _ [31, 32, 33, 4, 34] (by decide +kernel) (by decide +kernel)
set_option maxRecDepth 20000 in
theorem gX9_encode_X9_isWithin : GoodIn wsX9_encode (wsV RX9 109 RX9 yX9_isWithin wsX9_isWithin) := goodIn_app (goodIn_of _ (by decide +kernel)) ggX9_encode_X9_isWithin
set_option maxRecDepth 20000 in
theorem ggX9_encode_X9_bad : GoodIn wsX9_encode wsX9_bad := goodIn_r _ [38, 39, 65, 66, 67, 68, 69, 70, 71, 72, 73, 74, 75, 76, 77, 78, 79, 80, 81, 82, 83, 84, 85, 86, 87, 88, 89, 90, 91] (by decide +kernel) (by decide +kernel)
set_option maxRecDepth 20000 in
theorem gX9_encode_X9_bad : GoodIn wsX9_encode (wsV RX9 90 RX9 yX9_bad wsX9_bad) := goodIn_app (goodIn_of _ (by decide +kernel)) ggX9_encode_X9_bad
set_option maxRecDepth 20000 in
theorem ggX9_encode_X9_keep : GoodIn wsX9_encode wsX9_keep := goodIn_r _ [43, 44, 45, 11, 65, 66, 67, 68, 69, 70, 71, 72, 73, 74, 75, 76, 77, 78, 79, 80, 81, 82, 83, 84, 85, 86, 87, 88, 89, 90, 91] (by decide +kernel) (by decide +kernel)
set_option maxRecDepth 20000 in
theorem gX9_encode_X9_keep : GoodIn wsX9_encode (wsV RX9 93 RX9 yX9_keep wsX9_keep) := goodIn_app (goodIn_of _ (by decide +kernel)) ggX9_encode_X9_keep
set_option maxRecDepth 20000 in
theorem ggX9_encode_X9_encodes : GoodIn wsX9_encode wsX9_encodes := goodIn_r _ [49, 11, 1, 2, 3, 4, 5, 6, 7, 8, 9, 10, 12, 13, 14, 15, 16, 17, 18, 19, 20, 21, 22, 23, 24, 25, 26, 27, 50, 51, 52, 53, 54, 55, 56, 57, 58, 59, 60, 61, 62, 63, 64, 65, 66, 67, 68, 69, 70, 71, 72, 73, 74, 75, 76, 77, 78, 79, 80, 81, 82, 83, 84, 85, 86, 87, 88, 89, 90, 91] (by decide +kernel) (by decide +kernel)
set_option maxRecDepth 20000 in
theorem gX9_encode_X9_encodes : GoodIn wsX9_encode (wsV RX9 119 RX9 yX9_encodes wsX9_encodes) := goodIn_app (goodIn_of _ (by decide +kernel)) ggX9_encode_X9_encodes
theorem dX9_encode_0 : decode cX9_encode 0 = .ok (.aload_n 0, 1) := by decide +kernel
theorem dX9_encode_1 : decode cX9_encode 1 = .ok (.iload_n 1, 1) := by decide +kernel
theorem dX9_encode_2 : decode cX9_encode 2 = .ok (.aload_n 0, 1) := by decide +kernel
theorem dX9_encode_3 : decode cX9_encode 3 = .ok (.invokevirtual 100, 3) := by decide +kernel
theorem dX9_encode_6 : decode cX9_encode 6 = .ok (.invokevirtual 109, 3) := by decide +kernel
theorem dX9_encode_9 : decode cX9_encode 9 = .ok (.ifCond .ne 10, 3) := by decide +kernel
theorem dX9_encode_12 : decode cX9_encode 12 = .ok (.aload_n 0, 1) := by decide +kernel
theorem dX9_encode_13 : decode cX9_encode 13 = .ok (.bipush (-2), 2) := by decide +kernel
theorem dX9_encode_15 : decode cX9_encode 15 = .ok (.invokevirtual 90, 3) := by decide +kernel
theorem dX9_encode_18 : decode cX9_encode 18 = .ok (.ireturn, 1) := by decide +kernel
theorem dX9_encode_19 : decode cX9_encode 19 = .ok (.aload_n 0, 1) := by decide +kernel
theorem dX9_encode_20 : decode cX9_encode 20 = .ok (.invokevirtual 93, 3) := by decide +kernel
theorem dX9_encode_23 : decode cX9_encode 23 = .ok (.aload_n 0, 1) := by decide +kernel
theorem dX9_encode_24 : decode cX9_encode 24 = .ok (.iload_n 1, 1) := by decide +kernel
theorem dX9_encode_25 : decode cX9_encode 25 = .ok (.invokevirtual 119, 3) := by decide +kernel
theorem dX9_encode_28 : decode cX9_encode 28 = .ok (.ireturn, 1) := by decide +kernel
set_option maxRecDepth 20000 in
theorem ggX9_isPlace_X9_places : GoodIn wsX9_isPlace wsX9_places := goodIn_r _ [5, 6, 7, 8, 4, 9, 10, 14, 15, 16, 17, 18, 19, 20, 21, 22, 23, 24, 25, 26, 27, 28, 29, 30, 31, 32, 33, 34, 35, 36, 37, 38, 39, 40] (by decide +kernel) (by decide +kernel)
set_option maxRecDepth 20000 in
theorem gX9_isPlace_X9_places : GoodIn wsX9_isPlace (wsV RX9 60 RX9 yX9_places wsX9_places) := goodIn_app (goodIn_of _ (by decide +kernel)) ggX9_isPlace_X9_places
set_option maxRecDepth 20000 in
theorem ggX9_isPlace_X9_in : GoodIn wsX9_isPlace wsX9_in := goodIn_r _ [13] (by decide +kernel) (by decide +kernel)
set_option maxRecDepth 20000 in
theorem gX9_isPlace_X9_in : GoodIn wsX9_isPlace (va_wsS RX9 83 yX9_in wsX9_in) := goodIn_app (goodIn_of _ (by decide +kernel)) ggX9_isPlace_X9_in
theorem dX9_isPlace_0 : decode cX9_isPlace 0 = .ok (.iload_n 1, 1) := by decide +kernel
theorem dX9_isPlace_1 : decode cX9_isPlace 1 = .ok (.i2l, 1) := by decide +kernel
theorem dX9_isPlace_2 : decode cX9_isPlace 2 = .ok (.lconst 0, 1) := by decide +kernel
theorem dX9_isPlace_3 : decode cX9_isPlace 3 = .ok (.aload_n 0, 1) := by decide +kernel
theorem dX9_isPlace_4 : decode cX9_isPlace 4 = .ok (.invokevirtual 60, 3) := by decide +kernel
theorem dX9_isPlace_7 : decode cX9_isPlace 7 = .ok (.iconst 1, 1) := by decide +kernel
theorem dX9_isPlace_8 : decode cX9_isPlace 8 = .ok (.isub, 1) := by decide +kernel
theorem dX9_isPlace_9 : decode cX9_isPlace 9 = .ok (.i2l, 1) := by decide +kernel
theorem dX9_isPlace_10 : decode cX9_isPlace 10 = .ok (.invokestatic 83, 3) := by decide +kernel
theorem dX9_isPlace_13 : decode cX9_isPlace 13 = .ok (.ireturn, 1) := by decide +kernel
set_option maxRecDepth 20000 in
theorem ggX9_flips_X9_theWord : GoodIn wsX9_flips wsX9_theWord := goodIn_r _ [6, 1, 10, 11, 12, 13, 14, 15, 16, 17, 18, 19, 20, 21, 22, 23, 24, 25, 26, 27, 28, 29, 30, 31, 32, 33, 34, 35, 36] (by decide +kernel) (by decide +kernel)
set_option maxRecDepth 20000 in
theorem gX9_flips_X9_theWord : GoodIn wsX9_flips (wsV RX9 116 RX9 yX9_theWord wsX9_theWord) := goodIn_app (goodIn_of _ (by decide +kernel)) ggX9_flips_X9_theWord
set_option maxRecDepth 20000 in
theorem ggX9_flips_X9_has : GoodIn wsX9_flips wsX9_has := goodIn_r _ [9] (by decide +kernel) (by decide +kernel)
set_option maxRecDepth 20000 in
theorem gX9_flips_X9_has : GoodIn wsX9_flips (va_wsS RX9 74 yX9_has wsX9_has) := goodIn_app (goodIn_of _ (by decide +kernel)) ggX9_flips_X9_has
theorem dX9_flips_0 : decode cX9_flips 0 = .ok (.aload_n 0, 1) := by decide +kernel
theorem dX9_flips_1 : decode cX9_flips 1 = .ok (.getfield 7, 3) := by decide +kernel
theorem dX9_flips_4 : decode cX9_flips 4 = .ok (.iconst 2, 1) := by decide +kernel
theorem dX9_flips_5 : decode cX9_flips 5 = .ok (.dup2, 1) := by decide +kernel
theorem dX9_flips_6 : decode cX9_flips 6 = .ok (.iaload, 1) := by decide +kernel
theorem dX9_flips_7 : decode cX9_flips 7 = .ok (.iconst 1, 1) := by decide +kernel
theorem dX9_flips_8 : decode cX9_flips 8 = .ok (.iload_n 1, 1) := by decide +kernel
theorem dX9_flips_9 : decode cX9_flips 9 = .ok (.ishl, 1) := by decide +kernel
theorem dX9_flips_10 : decode cX9_flips 10 = .ok (.ixor, 1) := by decide +kernel
theorem dX9_flips_11 : decode cX9_flips 11 = .ok (.iastore, 1) := by decide +kernel
theorem dX9_flips_12 : decode cX9_flips 12 = .ok (.aload_n 0, 1) := by decide +kernel
theorem dX9_flips_13 : decode cX9_flips 13 = .ok (.invokevirtual 116, 3) := by decide +kernel
theorem dX9_flips_16 : decode cX9_flips 16 = .ok (.iload_n 1, 1) := by decide +kernel
theorem dX9_flips_17 : decode cX9_flips 17 = .ok (.invokestatic 74, 3) := by decide +kernel
theorem dX9_flips_20 : decode cX9_flips 20 = .ok (.ifCond .eq 7, 3) := by decide +kernel
theorem dX9_flips_23 : decode cX9_flips 23 = .ok (.iconst 1, 1) := by decide +kernel
theorem dX9_flips_24 : decode cX9_flips 24 = .ok (.goto 4, 3) := by decide +kernel
theorem dX9_flips_27 : decode cX9_flips 27 = .ok (.iconst 0, 1) := by decide +kernel
theorem dX9_flips_28 : decode cX9_flips 28 = .ok (.ireturn, 1) := by decide +kernel
set_option maxRecDepth 20000 in
theorem ggX9_flip_X9_isPlace : GoodIn wsX9_flip wsX9_isPlace := goodIn_r _ [5, 6, 7, 8, 4, 9, 10, 11, 12, 13, 14, 15, 16, 17, 40, 41, 42, 43, 44, 45, 46, 47, 48, 49, 50, 51, 52, 53, 54, 55, 56, 57, 58, 59, 60, 61, 62, 63, 64, 65, 66] (by decide +kernel) (by decide +kernel)
set_option maxRecDepth 20000 in
theorem gX9_flip_X9_isPlace : GoodIn wsX9_flip (wsV RX9 122 RX9 yX9_isPlace wsX9_isPlace) := goodIn_app (goodIn_of _ (by decide +kernel)) ggX9_flip_X9_isPlace
set_option maxRecDepth 20000 in
theorem ggX9_flip_X9_bad : GoodIn wsX9_flip wsX9_bad := goodIn_r _ [21, 22, 40, 41, 42, 43, 44, 45, 46, 47, 48, 49, 50, 51, 52, 53, 54, 55, 56, 57, 58, 59, 60, 61, 62, 63, 64, 65, 66] (by decide +kernel) (by decide +kernel)
set_option maxRecDepth 20000 in
theorem gX9_flip_X9_bad : GoodIn wsX9_flip (wsV RX9 90 RX9 yX9_bad wsX9_bad) := goodIn_app (goodIn_of _ (by decide +kernel)) ggX9_flip_X9_bad
set_option maxRecDepth 20000 in
theorem ggX9_flip_X9_keep : GoodIn wsX9_flip wsX9_keep := goodIn_r _ [26, 27, 28, 14, 40, 41, 42, 43, 44, 45, 46, 47, 48, 49, 50, 51, 52, 53, 54, 55, 56, 57, 58, 59, 60, 61, 62, 63, 64, 65, 66] (by decide +kernel) (by decide +kernel)
set_option maxRecDepth 20000 in
theorem gX9_flip_X9_keep : GoodIn wsX9_flip (wsV RX9 93 RX9 yX9_keep wsX9_keep) := goodIn_app (goodIn_of _ (by decide +kernel)) ggX9_flip_X9_keep
set_option maxRecDepth 20000 in
theorem ggX9_flip_X9_flips : GoodIn wsX9_flip wsX9_flips := goodIn_r _ [32, 14, 33, 34, 35, 4, 36, 37, 38, 39, 40, 41, 42, 43, 44, 45, 46, 47, 48, 49, 50, 51, 52, 53, 54, 55, 56, 57, 58, 59, 60, 61, 62, 63, 64, 65, 66] (by decide +kernel) (by decide +kernel)
set_option maxRecDepth 20000 in
theorem gX9_flip_X9_flips : GoodIn wsX9_flip (wsV RX9 126 RX9 yX9_flips wsX9_flips) := goodIn_app (goodIn_of _ (by decide +kernel)) ggX9_flip_X9_flips
theorem dX9_flip_0 : decode cX9_flip 0 = .ok (.aload_n 0, 1) := by decide +kernel
theorem dX9_flip_1 : decode cX9_flip 1 = .ok (.iload_n 1, 1) := by decide +kernel
theorem dX9_flip_2 : decode cX9_flip 2 = .ok (.invokevirtual 122, 3) := by decide +kernel
theorem dX9_flip_5 : decode cX9_flip 5 = .ok (.ifCond .ne 10, 3) := by decide +kernel
theorem dX9_flip_8 : decode cX9_flip 8 = .ok (.aload_n 0, 1) := by decide +kernel
theorem dX9_flip_9 : decode cX9_flip 9 = .ok (.bipush (-2), 2) := by decide +kernel
theorem dX9_flip_11 : decode cX9_flip 11 = .ok (.invokevirtual 90, 3) := by decide +kernel
theorem dX9_flip_14 : decode cX9_flip 14 = .ok (.ireturn, 1) := by decide +kernel
theorem dX9_flip_15 : decode cX9_flip 15 = .ok (.aload_n 0, 1) := by decide +kernel
theorem dX9_flip_16 : decode cX9_flip 16 = .ok (.invokevirtual 93, 3) := by decide +kernel
theorem dX9_flip_19 : decode cX9_flip 19 = .ok (.aload_n 0, 1) := by decide +kernel
theorem dX9_flip_20 : decode cX9_flip 20 = .ok (.iload_n 1, 1) := by decide +kernel
theorem dX9_flip_21 : decode cX9_flip 21 = .ok (.invokevirtual 126, 3) := by decide +kernel
theorem dX9_flip_24 : decode cX9_flip 24 = .ok (.ireturn, 1) := by decide +kernel
set_option maxRecDepth 20000 in
theorem ggX9_hurt_X9_in : GoodIn wsX9_hurt wsX9_in := goodIn_r _ [10] (by decide +kernel) (by decide +kernel)
set_option maxRecDepth 20000 in
theorem gX9_hurt_X9_in : GoodIn wsX9_hurt (va_wsS RX9 83 yX9_in wsX9_in) := goodIn_app (goodIn_of _ (by decide +kernel)) ggX9_hurt_X9_in
set_option maxRecDepth 20000 in
theorem ggX9_hurt_X9_places : GoodIn wsX9_hurt wsX9_places := goodIn_r _ [14, 15, 16, 17, 9, 18, 6, 40, 41, 42, 43, 44, 45, 46, 47, 48, 49, 50, 51, 52, 53, 54, 55, 56, 57, 58, 59, 60, 61, 62, 63, 64, 65, 66] (by decide +kernel) (by decide +kernel)
set_option maxRecDepth 20000 in
theorem gX9_hurt_X9_places : GoodIn wsX9_hurt (wsV RX9 60 RX9 yX9_places wsX9_places) := goodIn_app (goodIn_of _ (by decide +kernel)) ggX9_hurt_X9_places
set_option maxRecDepth 20000 in
theorem ggX9_hurt_X9_bad : GoodIn wsX9_hurt wsX9_bad := goodIn_r _ [22, 23, 40, 41, 42, 43, 44, 45, 46, 47, 48, 49, 50, 51, 52, 53, 54, 55, 56, 57, 58, 59, 60, 61, 62, 63, 64, 65, 66] (by decide +kernel) (by decide +kernel)
set_option maxRecDepth 20000 in
theorem gX9_hurt_X9_bad : GoodIn wsX9_hurt (wsV RX9 90 RX9 yX9_bad wsX9_bad) := goodIn_app (goodIn_of _ (by decide +kernel)) ggX9_hurt_X9_bad
set_option maxRecDepth 20000 in
theorem ggX9_hurt_X9_keep : GoodIn wsX9_hurt wsX9_keep := goodIn_r _ [27, 28, 29, 6, 40, 41, 42, 43, 44, 45, 46, 47, 48, 49, 50, 51, 52, 53, 54, 55, 56, 57, 58, 59, 60, 61, 62, 63, 64, 65, 66] (by decide +kernel) (by decide +kernel)
set_option maxRecDepth 20000 in
theorem gX9_hurt_X9_keep : GoodIn wsX9_hurt (wsV RX9 93 RX9 yX9_keep wsX9_keep) := goodIn_app (goodIn_of _ (by decide +kernel)) ggX9_hurt_X9_keep
set_option maxRecDepth 20000 in
theorem ggX9_hurt_X9_has : GoodIn wsX9_hurt wsX9_has := goodIn_r _ [32] (by decide +kernel) (by decide +kernel)
set_option maxRecDepth 20000 in
theorem gX9_hurt_X9_has : GoodIn wsX9_hurt (va_wsS RX9 74 yX9_has wsX9_has) := goodIn_app (goodIn_of _ (by decide +kernel)) ggX9_hurt_X9_has
set_option maxRecDepth 20000 in
theorem ggX9_hurt_X9_theWord : GoodIn wsX9_hurt wsX9_theWord := goodIn_r _ [36, 6, 40, 41, 42, 43, 44, 45, 46, 47, 48, 49, 50, 51, 52, 53, 54, 55, 56, 57, 58, 59, 60, 61, 62, 63, 64, 65, 66] (by decide +kernel) (by decide +kernel)
set_option maxRecDepth 20000 in
theorem gX9_hurt_X9_theWord : GoodIn wsX9_hurt (wsV RX9 116 RX9 yX9_theWord wsX9_theWord) := goodIn_app (goodIn_of _ (by decide +kernel)) ggX9_hurt_X9_theWord
set_option maxRecDepth 20000 in
theorem ggX9_hurt_X9_bits : GoodIn wsX9_hurt wsX9_bits := goodIn_r _ [39] (by decide +kernel) (by decide +kernel)
set_option maxRecDepth 20000 in
theorem gX9_hurt_X9_bits : GoodIn wsX9_hurt (va_wsS RX9 63 yX9_bits wsX9_bits) := goodIn_app (goodIn_of _ (by decide +kernel)) ggX9_hurt_X9_bits
theorem dX9_hurt_0 : decode cX9_hurt 0 = .ok (.iload_n 1, 1) := by decide +kernel
theorem dX9_hurt_1 : decode cX9_hurt 1 = .ok (.i2l, 1) := by decide +kernel
theorem dX9_hurt_2 : decode cX9_hurt 2 = .ok (.lconst 0, 1) := by decide +kernel
theorem dX9_hurt_3 : decode cX9_hurt 3 = .ok (.ldc2_w 129, 3) := by decide +kernel
theorem dX9_hurt_6 : decode cX9_hurt 6 = .ok (.invokestatic 83, 3) := by decide +kernel
theorem dX9_hurt_9 : decode cX9_hurt 9 = .ok (.ifCond .eq 17, 3) := by decide +kernel
theorem dX9_hurt_12 : decode cX9_hurt 12 = .ok (.iload_n 2, 1) := by decide +kernel
theorem dX9_hurt_13 : decode cX9_hurt 13 = .ok (.i2l, 1) := by decide +kernel
theorem dX9_hurt_14 : decode cX9_hurt 14 = .ok (.lconst 0, 1) := by decide +kernel
theorem dX9_hurt_15 : decode cX9_hurt 15 = .ok (.aload_n 0, 1) := by decide +kernel
theorem dX9_hurt_16 : decode cX9_hurt 16 = .ok (.invokevirtual 60, 3) := by decide +kernel
theorem dX9_hurt_19 : decode cX9_hurt 19 = .ok (.i2l, 1) := by decide +kernel
theorem dX9_hurt_20 : decode cX9_hurt 20 = .ok (.invokestatic 83, 3) := by decide +kernel
theorem dX9_hurt_23 : decode cX9_hurt 23 = .ok (.ifCond .ne 10, 3) := by decide +kernel
theorem dX9_hurt_26 : decode cX9_hurt 26 = .ok (.aload_n 0, 1) := by decide +kernel
theorem dX9_hurt_27 : decode cX9_hurt 27 = .ok (.bipush (-2), 2) := by decide +kernel
theorem dX9_hurt_29 : decode cX9_hurt 29 = .ok (.invokevirtual 90, 3) := by decide +kernel
theorem dX9_hurt_32 : decode cX9_hurt 32 = .ok (.ireturn, 1) := by decide +kernel
theorem dX9_hurt_33 : decode cX9_hurt 33 = .ok (.iload_n 1, 1) := by decide +kernel
theorem dX9_hurt_34 : decode cX9_hurt 34 = .ok (.i2l, 1) := by decide +kernel
theorem dX9_hurt_35 : decode cX9_hurt 35 = .ok (.lstore_n 3, 1) := by decide +kernel
theorem dX9_hurt_36 : decode cX9_hurt 36 = .ok (.iconst 0, 1) := by decide +kernel
theorem dX9_hurt_37 : decode cX9_hurt 37 = .ok (.istore 5, 2) := by decide +kernel
theorem dX9_hurt_39 : decode cX9_hurt 39 = .ok (.aload_n 0, 1) := by decide +kernel
theorem dX9_hurt_40 : decode cX9_hurt 40 = .ok (.invokevirtual 93, 3) := by decide +kernel
theorem dX9_hurt_43 : decode cX9_hurt 43 = .ok (.iconst 0, 1) := by decide +kernel
theorem dX9_hurt_44 : decode cX9_hurt 44 = .ok (.istore 6, 2) := by decide +kernel
theorem dX9_hurt_46 : decode cX9_hurt 46 = .ok (.iload 6, 2) := by decide +kernel
theorem dX9_hurt_48 : decode cX9_hurt 48 = .ok (.iload_n 2, 1) := by decide +kernel
theorem dX9_hurt_49 : decode cX9_hurt 49 = .ok (.if_icmp .ge 70, 3) := by decide +kernel
theorem dX9_hurt_52 : decode cX9_hurt 52 = .ok (.lload_n 3, 1) := by decide +kernel
theorem dX9_hurt_53 : decode cX9_hurt 53 = .ok (.ldc2_w 131, 3) := by decide +kernel
theorem dX9_hurt_56 : decode cX9_hurt 56 = .ok (.lmul, 1) := by decide +kernel
theorem dX9_hurt_57 : decode cX9_hurt 57 = .ok (.ldc2_w 133, 3) := by decide +kernel
theorem dX9_hurt_60 : decode cX9_hurt 60 = .ok (.ladd, 1) := by decide +kernel
theorem dX9_hurt_61 : decode cX9_hurt 61 = .ok (.ldc2_w 135, 3) := by decide +kernel
theorem dX9_hurt_64 : decode cX9_hurt 64 = .ok (.lrem, 1) := by decide +kernel
theorem dX9_hurt_65 : decode cX9_hurt 65 = .ok (.lstore_n 3, 1) := by decide +kernel
theorem dX9_hurt_66 : decode cX9_hurt 66 = .ok (.lload_n 3, 1) := by decide +kernel
theorem dX9_hurt_67 : decode cX9_hurt 67 = .ok (.ldc2_w 137, 3) := by decide +kernel
theorem dX9_hurt_70 : decode cX9_hurt 70 = .ok (.ldiv, 1) := by decide +kernel
theorem dX9_hurt_71 : decode cX9_hurt 71 = .ok (.aload_n 0, 1) := by decide +kernel
theorem dX9_hurt_72 : decode cX9_hurt 72 = .ok (.invokevirtual 60, 3) := by decide +kernel
theorem dX9_hurt_75 : decode cX9_hurt 75 = .ok (.i2l, 1) := by decide +kernel
theorem dX9_hurt_76 : decode cX9_hurt 76 = .ok (.lrem, 1) := by decide +kernel
theorem dX9_hurt_77 : decode cX9_hurt 77 = .ok (.l2i, 1) := by decide +kernel
theorem dX9_hurt_78 : decode cX9_hurt 78 = .ok (.istore 7, 2) := by decide +kernel
theorem dX9_hurt_80 : decode cX9_hurt 80 = .ok (.iload 5, 2) := by decide +kernel
theorem dX9_hurt_82 : decode cX9_hurt 82 = .ok (.iload 7, 2) := by decide +kernel
theorem dX9_hurt_84 : decode cX9_hurt 84 = .ok (.invokestatic 74, 3) := by decide +kernel
theorem dX9_hurt_87 : decode cX9_hurt 87 = .ok (.ifCond .eq 17, 3) := by decide +kernel
theorem dX9_hurt_90 : decode cX9_hurt 90 = .ok (.iload 7, 2) := by decide +kernel
theorem dX9_hurt_92 : decode cX9_hurt 92 = .ok (.iconst 1, 1) := by decide +kernel
theorem dX9_hurt_93 : decode cX9_hurt 93 = .ok (.iadd, 1) := by decide +kernel
theorem dX9_hurt_94 : decode cX9_hurt 94 = .ok (.aload_n 0, 1) := by decide +kernel
theorem dX9_hurt_95 : decode cX9_hurt 95 = .ok (.invokevirtual 60, 3) := by decide +kernel
theorem dX9_hurt_98 : decode cX9_hurt 98 = .ok (.irem, 1) := by decide +kernel
theorem dX9_hurt_99 : decode cX9_hurt 99 = .ok (.istore 7, 2) := by decide +kernel
theorem dX9_hurt_101 : decode cX9_hurt 101 = .ok (.goto (-21), 3) := by decide +kernel
theorem dX9_hurt_104 : decode cX9_hurt 104 = .ok (.iload 5, 2) := by decide +kernel
theorem dX9_hurt_106 : decode cX9_hurt 106 = .ok (.iconst 1, 1) := by decide +kernel
theorem dX9_hurt_107 : decode cX9_hurt 107 = .ok (.iload 7, 2) := by decide +kernel
theorem dX9_hurt_109 : decode cX9_hurt 109 = .ok (.ishl, 1) := by decide +kernel
theorem dX9_hurt_110 : decode cX9_hurt 110 = .ok (.ior, 1) := by decide +kernel
theorem dX9_hurt_111 : decode cX9_hurt 111 = .ok (.istore 5, 2) := by decide +kernel
theorem dX9_hurt_113 : decode cX9_hurt 113 = .ok (.iinc 6 1, 3) := by decide +kernel
theorem dX9_hurt_116 : decode cX9_hurt 116 = .ok (.goto (-70), 3) := by decide +kernel
theorem dX9_hurt_119 : decode cX9_hurt 119 = .ok (.aload_n 0, 1) := by decide +kernel
theorem dX9_hurt_120 : decode cX9_hurt 120 = .ok (.getfield 7, 3) := by decide +kernel
theorem dX9_hurt_123 : decode cX9_hurt 123 = .ok (.iconst 2, 1) := by decide +kernel
theorem dX9_hurt_124 : decode cX9_hurt 124 = .ok (.dup2, 1) := by decide +kernel
theorem dX9_hurt_125 : decode cX9_hurt 125 = .ok (.iaload, 1) := by decide +kernel
theorem dX9_hurt_126 : decode cX9_hurt 126 = .ok (.iload 5, 2) := by decide +kernel
theorem dX9_hurt_128 : decode cX9_hurt 128 = .ok (.ixor, 1) := by decide +kernel
theorem dX9_hurt_129 : decode cX9_hurt 129 = .ok (.iastore, 1) := by decide +kernel
theorem dX9_hurt_130 : decode cX9_hurt 130 = .ok (.aload_n 0, 1) := by decide +kernel
theorem dX9_hurt_131 : decode cX9_hurt 131 = .ok (.invokevirtual 116, 3) := by decide +kernel
theorem dX9_hurt_134 : decode cX9_hurt 134 = .ok (.invokestatic 63, 3) := by decide +kernel
theorem dX9_hurt_137 : decode cX9_hurt 137 = .ok (.ireturn, 1) := by decide +kernel
set_option maxRecDepth 20000 in
theorem ggX9_now_X9_theWord : GoodIn wsX9_now wsX9_theWord := goodIn_r _ [5, 6, 7, 8, 9, 10, 11, 12, 13, 14, 15, 16, 17, 18, 19, 20, 21, 22, 23, 24, 25, 26, 27, 28, 29, 30, 31, 32, 33] (by decide +kernel) (by decide +kernel)
set_option maxRecDepth 20000 in
theorem gX9_now_X9_theWord : GoodIn wsX9_now (wsV RX9 116 RX9 yX9_theWord wsX9_theWord) := goodIn_app (goodIn_of _ (by decide +kernel)) ggX9_now_X9_theWord
theorem dX9_now_0 : decode cX9_now 0 = .ok (.aload_n 0, 1) := by decide +kernel
theorem dX9_now_1 : decode cX9_now 1 = .ok (.invokevirtual 116, 3) := by decide +kernel
theorem dX9_now_4 : decode cX9_now 4 = .ok (.ireturn, 1) := by decide +kernel
set_option maxRecDepth 20000 in
theorem ggX9_at_X9_isPlace : GoodIn wsX9_at wsX9_isPlace := goodIn_r _ [5, 6, 7, 8, 4, 9, 10, 11, 12, 13, 14, 15, 16, 17, 27, 28, 29, 30, 31, 32, 33, 34, 35, 36, 37, 38, 39, 40, 41, 42, 43, 44, 45, 46, 47, 48, 49, 50, 51, 52, 53] (by decide +kernel) (by decide +kernel)
set_option maxRecDepth 20000 in
theorem gX9_at_X9_isPlace : GoodIn wsX9_at (wsV RX9 122 RX9 yX9_isPlace wsX9_isPlace) := goodIn_app (goodIn_of _ (by decide +kernel)) ggX9_at_X9_isPlace
set_option maxRecDepth 20000 in
theorem ggX9_at_X9_theWord : GoodIn wsX9_at wsX9_theWord := goodIn_r _ [21, 14, 27, 28, 29, 30, 31, 32, 33, 34, 35, 36, 37, 38, 39, 40, 41, 42, 43, 44, 45, 46, 47, 48, 49, 50, 51, 52, 53] (by decide +kernel) (by decide +kernel)
set_option maxRecDepth 20000 in
theorem gX9_at_X9_theWord : GoodIn wsX9_at (wsV RX9 116 RX9 yX9_theWord wsX9_theWord) := goodIn_app (goodIn_of _ (by decide +kernel)) ggX9_at_X9_theWord
set_option maxRecDepth 20000 in
theorem ggX9_at_X9_bad : GoodIn wsX9_at wsX9_bad := goodIn_r _ [25, 26, 27, 28, 29, 30, 31, 32, 33, 34, 35, 36, 37, 38, 39, 40, 41, 42, 43, 44, 45, 46, 47, 48, 49, 50, 51, 52, 53] (by decide +kernel) (by decide +kernel)
set_option maxRecDepth 20000 in
theorem gX9_at_X9_bad : GoodIn wsX9_at (wsV RX9 90 RX9 yX9_bad wsX9_bad) := goodIn_app (goodIn_of _ (by decide +kernel)) ggX9_at_X9_bad
theorem dX9_at_0 : decode cX9_at 0 = .ok (.aload_n 0, 1) := by decide +kernel
theorem dX9_at_1 : decode cX9_at 1 = .ok (.iload_n 1, 1) := by decide +kernel
theorem dX9_at_2 : decode cX9_at 2 = .ok (.invokevirtual 122, 3) := by decide +kernel
theorem dX9_at_5 : decode cX9_at 5 = .ok (.ifCond .eq 14, 3) := by decide +kernel
theorem dX9_at_8 : decode cX9_at 8 = .ok (.aload_n 0, 1) := by decide +kernel
theorem dX9_at_9 : decode cX9_at 9 = .ok (.invokevirtual 116, 3) := by decide +kernel
theorem dX9_at_12 : decode cX9_at 12 = .ok (.iload_n 1, 1) := by decide +kernel
theorem dX9_at_13 : decode cX9_at 13 = .ok (.ishr, 1) := by decide +kernel
theorem dX9_at_14 : decode cX9_at 14 = .ok (.iconst 1, 1) := by decide +kernel
theorem dX9_at_15 : decode cX9_at 15 = .ok (.iand, 1) := by decide +kernel
theorem dX9_at_16 : decode cX9_at 16 = .ok (.goto 9, 3) := by decide +kernel
theorem dX9_at_19 : decode cX9_at 19 = .ok (.aload_n 0, 1) := by decide +kernel
theorem dX9_at_20 : decode cX9_at 20 = .ok (.bipush (-2), 2) := by decide +kernel
theorem dX9_at_22 : decode cX9_at 22 = .ok (.invokevirtual 90, 3) := by decide +kernel
theorem dX9_at_25 : decode cX9_at 25 = .ok (.ireturn, 1) := by decide +kernel
set_option maxRecDepth 20000 in
theorem ggX9_weight_X9_theWord : GoodIn wsX9_weight wsX9_theWord := goodIn_r _ [5, 6, 10, 11, 12, 13, 14, 15, 16, 17, 18, 19, 20, 21, 22, 23, 24, 25, 26, 27, 28, 29, 30, 31, 32, 33, 34, 35, 36] (by decide +kernel) (by decide +kernel)
set_option maxRecDepth 20000 in
theorem gX9_weight_X9_theWord : GoodIn wsX9_weight (wsV RX9 116 RX9 yX9_theWord wsX9_theWord) := goodIn_app (goodIn_of _ (by decide +kernel)) ggX9_weight_X9_theWord
set_option maxRecDepth 20000 in
theorem ggX9_weight_X9_bits : GoodIn wsX9_weight wsX9_bits := goodIn_r _ [9] (by decide +kernel) (by decide +kernel)
set_option maxRecDepth 20000 in
theorem gX9_weight_X9_bits : GoodIn wsX9_weight (va_wsS RX9 63 yX9_bits wsX9_bits) := goodIn_app (goodIn_of _ (by decide +kernel)) ggX9_weight_X9_bits
theorem dX9_weight_0 : decode cX9_weight 0 = .ok (.aload_n 0, 1) := by decide +kernel
theorem dX9_weight_1 : decode cX9_weight 1 = .ok (.invokevirtual 116, 3) := by decide +kernel
theorem dX9_weight_4 : decode cX9_weight 4 = .ok (.invokestatic 63, 3) := by decide +kernel
theorem dX9_weight_7 : decode cX9_weight 7 = .ok (.ireturn, 1) := by decide +kernel
set_option maxRecDepth 20000 in
theorem ggX9_coefficientOf_X9_places : GoodIn wsX9_coefficientOf wsX9_places := goodIn_r _ [5, 6, 7, 8, 4, 9, 10, 11, 12, 13, 14, 15, 16, 17, 18, 19, 20, 21, 22, 23, 24, 25, 26, 27, 28, 29, 30, 31, 32, 33, 34, 35, 36, 37] (by decide +kernel) (by decide +kernel)
set_option maxRecDepth 20000 in
theorem gX9_coefficientOf_X9_places : GoodIn wsX9_coefficientOf (wsV RX9 60 RX9 yX9_places wsX9_places) := goodIn_app (goodIn_of _ (by decide +kernel)) ggX9_coefficientOf_X9_places
theorem dX9_coefficientOf_0 : decode cX9_coefficientOf 0 = .ok (.iconst 0, 1) := by decide +kernel
theorem dX9_coefficientOf_1 : decode cX9_coefficientOf 1 = .ok (.istore_n 3, 1) := by decide +kernel
theorem dX9_coefficientOf_2 : decode cX9_coefficientOf 2 = .ok (.iconst 0, 1) := by decide +kernel
theorem dX9_coefficientOf_3 : decode cX9_coefficientOf 3 = .ok (.istore 4, 2) := by decide +kernel
theorem dX9_coefficientOf_5 : decode cX9_coefficientOf 5 = .ok (.iload 4, 2) := by decide +kernel
theorem dX9_coefficientOf_7 : decode cX9_coefficientOf 7 = .ok (.aload_n 0, 1) := by decide +kernel
theorem dX9_coefficientOf_8 : decode cX9_coefficientOf 8 = .ok (.invokevirtual 60, 3) := by decide +kernel
theorem dX9_coefficientOf_11 : decode cX9_coefficientOf 11 = .ok (.if_icmp .ge 31, 3) := by decide +kernel
theorem dX9_coefficientOf_14 : decode cX9_coefficientOf 14 = .ok (.iload_n 3, 1) := by decide +kernel
theorem dX9_coefficientOf_15 : decode cX9_coefficientOf 15 = .ok (.iload 4, 2) := by decide +kernel
theorem dX9_coefficientOf_17 : decode cX9_coefficientOf 17 = .ok (.iload_n 2, 1) := by decide +kernel
theorem dX9_coefficientOf_18 : decode cX9_coefficientOf 18 = .ok (.iand, 1) := by decide +kernel
theorem dX9_coefficientOf_19 : decode cX9_coefficientOf 19 = .ok (.iload 4, 2) := by decide +kernel
theorem dX9_coefficientOf_21 : decode cX9_coefficientOf 21 = .ok (.if_icmp .ne 12, 3) := by decide +kernel
theorem dX9_coefficientOf_24 : decode cX9_coefficientOf 24 = .ok (.iload_n 1, 1) := by decide +kernel
theorem dX9_coefficientOf_25 : decode cX9_coefficientOf 25 = .ok (.iload 4, 2) := by decide +kernel
theorem dX9_coefficientOf_27 : decode cX9_coefficientOf 27 = .ok (.ishr, 1) := by decide +kernel
theorem dX9_coefficientOf_28 : decode cX9_coefficientOf 28 = .ok (.iconst 1, 1) := by decide +kernel
theorem dX9_coefficientOf_29 : decode cX9_coefficientOf 29 = .ok (.iand, 1) := by decide +kernel
theorem dX9_coefficientOf_30 : decode cX9_coefficientOf 30 = .ok (.goto 4, 3) := by decide +kernel
theorem dX9_coefficientOf_33 : decode cX9_coefficientOf 33 = .ok (.iconst 0, 1) := by decide +kernel
theorem dX9_coefficientOf_34 : decode cX9_coefficientOf 34 = .ok (.ixor, 1) := by decide +kernel
theorem dX9_coefficientOf_35 : decode cX9_coefficientOf 35 = .ok (.istore_n 3, 1) := by decide +kernel
theorem dX9_coefficientOf_36 : decode cX9_coefficientOf 36 = .ok (.iinc 4 1, 3) := by decide +kernel
theorem dX9_coefficientOf_39 : decode cX9_coefficientOf 39 = .ok (.goto (-34), 3) := by decide +kernel
theorem dX9_coefficientOf_42 : decode cX9_coefficientOf 42 = .ok (.iload_n 3, 1) := by decide +kernel
theorem dX9_coefficientOf_43 : decode cX9_coefficientOf 43 = .ok (.ireturn, 1) := by decide +kernel
set_option maxRecDepth 20000 in
theorem ggX9_isWord_X9_places : GoodIn wsX9_isWord wsX9_places := goodIn_r _ [5, 6, 7, 8, 4, 9, 10, 26, 27, 28, 29, 30, 31, 32, 33, 34, 35, 36, 37, 38, 39, 40, 41, 42, 43, 44, 45, 46, 47, 48, 49, 50, 51, 52] (by decide +kernel) (by decide +kernel)
set_option maxRecDepth 20000 in
theorem gX9_isWord_X9_places : GoodIn wsX9_isWord (wsV RX9 60 RX9 yX9_places wsX9_places) := goodIn_app (goodIn_of _ (by decide +kernel)) ggX9_isWord_X9_places
set_option maxRecDepth 20000 in
theorem ggX9_isWord_X9_bits : GoodIn wsX9_isWord wsX9_bits := goodIn_r _ [13] (by decide +kernel) (by decide +kernel)
set_option maxRecDepth 20000 in
theorem gX9_isWord_X9_bits : GoodIn wsX9_isWord (va_wsS RX9 63 yX9_bits wsX9_bits) := goodIn_app (goodIn_of _ (by decide +kernel)) ggX9_isWord_X9_bits
set_option maxRecDepth 20000 in
theorem ggX9_isWord_X9_order : GoodIn wsX9_isWord wsX9_order := goodIn_r _ [17, 10, 26, 27, 28, 29, 30, 31, 32, 33, 34, 35, 36, 37, 38, 39, 40, 41, 42, 43, 44, 45, 46, 47, 48, 49, 50, 51, 52] (by decide +kernel) (by decide +kernel)
set_option maxRecDepth 20000 in
theorem gX9_isWord_X9_order : GoodIn wsX9_isWord (wsV RX9 67 RX9 yX9_order wsX9_order) := goodIn_app (goodIn_of _ (by decide +kernel)) ggX9_isWord_X9_order
set_option maxRecDepth 20000 in
theorem ggX9_isWord_X9_theWord : GoodIn wsX9_isWord wsX9_theWord := goodIn_r _ [21, 10, 26, 27, 28, 29, 30, 31, 32, 33, 34, 35, 36, 37, 38, 39, 40, 41, 42, 43, 44, 45, 46, 47, 48, 49, 50, 51, 52] (by decide +kernel) (by decide +kernel)
set_option maxRecDepth 20000 in
theorem gX9_isWord_X9_theWord : GoodIn wsX9_isWord (wsV RX9 116 RX9 yX9_theWord wsX9_theWord) := goodIn_app (goodIn_of _ (by decide +kernel)) ggX9_isWord_X9_theWord
set_option maxRecDepth 20000 in
theorem ggX9_isWord_X9_coefficientOf : GoodIn wsX9_isWord wsX9_coefficientOf := goodIn_r _ [25, 1, 2, 3, 4, 5, 6, 7, 8, 9, 10, 26, 27, 28, 29, 30, 31, 32, 33, 34, 35, 36, 37, 38, 39, 40, 41, 42, 43, 44, 45, 46, 47, 48, 49, 50, 51, 52] (by decide +kernel) (by decide +kernel)
set_option maxRecDepth 20000 in
theorem gX9_isWord_X9_coefficientOf : GoodIn wsX9_isWord (wsV RX9 139 RX9 yX9_coefficientOf wsX9_coefficientOf) := goodIn_app (goodIn_of _ (by decide +kernel)) ggX9_isWord_X9_coefficientOf
theorem dX9_isWord_0 : decode cX9_isWord 0 = .ok (.iconst 1, 1) := by decide +kernel
theorem dX9_isWord_1 : decode cX9_isWord 1 = .ok (.istore_n 1, 1) := by decide +kernel
theorem dX9_isWord_2 : decode cX9_isWord 2 = .ok (.iconst 0, 1) := by decide +kernel
theorem dX9_isWord_3 : decode cX9_isWord 3 = .ok (.istore_n 2, 1) := by decide +kernel
theorem dX9_isWord_4 : decode cX9_isWord 4 = .ok (.iload_n 2, 1) := by decide +kernel
theorem dX9_isWord_5 : decode cX9_isWord 5 = .ok (.aload_n 0, 1) := by decide +kernel
theorem dX9_isWord_6 : decode cX9_isWord 6 = .ok (.invokevirtual 60, 3) := by decide +kernel
theorem dX9_isWord_9 : decode cX9_isWord 9 = .ok (.if_icmp .ge 39, 3) := by decide +kernel
theorem dX9_isWord_12 : decode cX9_isWord 12 = .ok (.iload_n 2, 1) := by decide +kernel
theorem dX9_isWord_13 : decode cX9_isWord 13 = .ok (.invokestatic 63, 3) := by decide +kernel
theorem dX9_isWord_16 : decode cX9_isWord 16 = .ok (.aload_n 0, 1) := by decide +kernel
theorem dX9_isWord_17 : decode cX9_isWord 17 = .ok (.invokevirtual 67, 3) := by decide +kernel
theorem dX9_isWord_20 : decode cX9_isWord 20 = .ok (.if_icmp .le 20, 3) := by decide +kernel
theorem dX9_isWord_23 : decode cX9_isWord 23 = .ok (.aload_n 0, 1) := by decide +kernel
theorem dX9_isWord_24 : decode cX9_isWord 24 = .ok (.aload_n 0, 1) := by decide +kernel
theorem dX9_isWord_25 : decode cX9_isWord 25 = .ok (.invokevirtual 116, 3) := by decide +kernel
theorem dX9_isWord_28 : decode cX9_isWord 28 = .ok (.iload_n 2, 1) := by decide +kernel
theorem dX9_isWord_29 : decode cX9_isWord 29 = .ok (.invokevirtual 139, 3) := by decide +kernel
theorem dX9_isWord_32 : decode cX9_isWord 32 = .ok (.iconst 1, 1) := by decide +kernel
theorem dX9_isWord_33 : decode cX9_isWord 33 = .ok (.if_icmp .ne 7, 3) := by decide +kernel
theorem dX9_isWord_36 : decode cX9_isWord 36 = .ok (.iconst 0, 1) := by decide +kernel
theorem dX9_isWord_37 : decode cX9_isWord 37 = .ok (.goto 4, 3) := by decide +kernel
theorem dX9_isWord_40 : decode cX9_isWord 40 = .ok (.iload_n 1, 1) := by decide +kernel
theorem dX9_isWord_41 : decode cX9_isWord 41 = .ok (.istore_n 1, 1) := by decide +kernel
theorem dX9_isWord_42 : decode cX9_isWord 42 = .ok (.iinc 2 1, 3) := by decide +kernel
theorem dX9_isWord_45 : decode cX9_isWord 45 = .ok (.goto (-41), 3) := by decide +kernel
theorem dX9_isWord_48 : decode cX9_isWord 48 = .ok (.iload_n 1, 1) := by decide +kernel
theorem dX9_isWord_49 : decode cX9_isWord 49 = .ok (.ireturn, 1) := by decide +kernel
set_option maxRecDepth 20000 in
theorem ggX9_coefficient_X9_isPlace : GoodIn wsX9_coefficient wsX9_isPlace := goodIn_r _ [6, 7, 8, 9, 5, 10, 11, 12, 13, 14, 15, 16, 17, 18, 40, 41, 42, 43, 44, 45, 46, 47, 48, 49, 50, 51, 52, 53, 54, 55, 56, 57, 58, 59, 60, 61, 62, 63, 64, 65, 66] (by decide +kernel) (by decide +kernel)
set_option maxRecDepth 20000 in
theorem gX9_coefficient_X9_isPlace : GoodIn wsX9_coefficient (wsV RX9 122 RX9 yX9_isPlace wsX9_isPlace) := goodIn_app (goodIn_of _ (by decide +kernel)) ggX9_coefficient_X9_isPlace
set_option maxRecDepth 20000 in
theorem ggX9_coefficient_X9_bad : GoodIn wsX9_coefficient wsX9_bad := goodIn_r _ [22, 23, 40, 41, 42, 43, 44, 45, 46, 47, 48, 49, 50, 51, 52, 53, 54, 55, 56, 57, 58, 59, 60, 61, 62, 63, 64, 65, 66] (by decide +kernel) (by decide +kernel)
set_option maxRecDepth 20000 in
theorem gX9_coefficient_X9_bad : GoodIn wsX9_coefficient (wsV RX9 90 RX9 yX9_bad wsX9_bad) := goodIn_app (goodIn_of _ (by decide +kernel)) ggX9_coefficient_X9_bad
set_option maxRecDepth 20000 in
theorem ggX9_coefficient_X9_length : GoodIn wsX9_coefficient wsX9_length := goodIn_r _ [14, 15, 40, 41, 42, 43, 44, 45, 46, 47, 48, 49, 50, 51, 52, 53, 54, 55, 56, 57, 58, 59, 60, 61, 62, 63, 64, 65, 66] (by decide +kernel) (by decide +kernel)
set_option maxRecDepth 20000 in
theorem gX9_coefficient_X9_length : GoodIn wsX9_coefficient (wsV RX9 49 RX9 yX9_length wsX9_length) := goodIn_app (goodIn_of _ (by decide +kernel)) ggX9_coefficient_X9_length
set_option maxRecDepth 20000 in
theorem ggX9_coefficient_X9_lays : GoodIn wsX9_coefficient wsX9_lays := goodIn_r _ [27, 28, 1, 7, 8, 9, 5, 10, 11, 12, 13, 14, 15, 29, 30, 31, 40, 41, 42, 43, 44, 45, 46, 47, 48, 49, 50, 51, 52, 53, 54, 55, 56, 57, 58, 59, 60, 61, 62, 63, 64, 65, 66] (by decide +kernel) (by decide +kernel)
set_option maxRecDepth 20000 in
theorem gX9_coefficient_X9_lays : GoodIn wsX9_coefficient (wsV RX9 70 RX9 yX9_lays wsX9_lays) := goodIn_app (goodIn_of _ (by decide +kernel)) ggX9_coefficient_X9_lays
set_option maxRecDepth 20000 in
theorem ggX9_coefficient_X9_theWord : GoodIn wsX9_coefficient wsX9_theWord := goodIn_r _ [35, 15, 40, 41, 42, 43, 44, 45, 46, 47, 48, 49, 50, 51, 52, 53, 54, 55, 56, 57, 58, 59, 60, 61, 62, 63, 64, 65, 66] (by decide +kernel) (by decide +kernel)
set_option maxRecDepth 20000 in
theorem gX9_coefficient_X9_theWord : GoodIn wsX9_coefficient (wsV RX9 116 RX9 yX9_theWord wsX9_theWord) := goodIn_app (goodIn_of _ (by decide +kernel)) ggX9_coefficient_X9_theWord
set_option maxRecDepth 20000 in
theorem ggX9_coefficient_X9_coefficientOf : GoodIn wsX9_coefficient wsX9_coefficientOf := goodIn_r _ [39, 7, 8, 9, 5, 10, 11, 12, 13, 14, 15, 40, 41, 42, 43, 44, 45, 46, 47, 48, 49, 50, 51, 52, 53, 54, 55, 56, 57, 58, 59, 60, 61, 62, 63, 64, 65, 66] (by decide +kernel) (by decide +kernel)
set_option maxRecDepth 20000 in
theorem gX9_coefficient_X9_coefficientOf : GoodIn wsX9_coefficient (wsV RX9 139 RX9 yX9_coefficientOf wsX9_coefficientOf) := goodIn_app (goodIn_of _ (by decide +kernel)) ggX9_coefficient_X9_coefficientOf
theorem dX9_coefficient_0 : decode cX9_coefficient 0 = .ok (.aload_n 0, 1) := by decide +kernel
theorem dX9_coefficient_1 : decode cX9_coefficient 1 = .ok (.iload_n 1, 1) := by decide +kernel
theorem dX9_coefficient_2 : decode cX9_coefficient 2 = .ok (.invokevirtual 122, 3) := by decide +kernel
theorem dX9_coefficient_5 : decode cX9_coefficient 5 = .ok (.ifCond .ne 10, 3) := by decide +kernel
theorem dX9_coefficient_8 : decode cX9_coefficient 8 = .ok (.aload_n 0, 1) := by decide +kernel
theorem dX9_coefficient_9 : decode cX9_coefficient 9 = .ok (.bipush (-2), 2) := by decide +kernel
theorem dX9_coefficient_11 : decode cX9_coefficient 11 = .ok (.invokevirtual 90, 3) := by decide +kernel
theorem dX9_coefficient_14 : decode cX9_coefficient 14 = .ok (.ireturn, 1) := by decide +kernel
theorem dX9_coefficient_15 : decode cX9_coefficient 15 = .ok (.aload_n 0, 1) := by decide +kernel
theorem dX9_coefficient_16 : decode cX9_coefficient 16 = .ok (.aload_n 0, 1) := by decide +kernel
theorem dX9_coefficient_17 : decode cX9_coefficient 17 = .ok (.invokevirtual 49, 3) := by decide +kernel
theorem dX9_coefficient_20 : decode cX9_coefficient 20 = .ok (.invokevirtual 70, 3) := by decide +kernel
theorem dX9_coefficient_23 : decode cX9_coefficient 23 = .ok (.aload_n 0, 1) := by decide +kernel
theorem dX9_coefficient_24 : decode cX9_coefficient 24 = .ok (.aload_n 0, 1) := by decide +kernel
theorem dX9_coefficient_25 : decode cX9_coefficient 25 = .ok (.invokevirtual 116, 3) := by decide +kernel
theorem dX9_coefficient_28 : decode cX9_coefficient 28 = .ok (.aload_n 0, 1) := by decide +kernel
theorem dX9_coefficient_29 : decode cX9_coefficient 29 = .ok (.getfield 19, 3) := by decide +kernel
theorem dX9_coefficient_32 : decode cX9_coefficient 32 = .ok (.iload_n 1, 1) := by decide +kernel
theorem dX9_coefficient_33 : decode cX9_coefficient 33 = .ok (.iaload, 1) := by decide +kernel
theorem dX9_coefficient_34 : decode cX9_coefficient 34 = .ok (.invokevirtual 139, 3) := by decide +kernel
theorem dX9_coefficient_37 : decode cX9_coefficient 37 = .ok (.ireturn, 1) := by decide +kernel
set_option maxRecDepth 20000 in
theorem ggX9_voted_X9_places : GoodIn wsX9_voted wsX9_places := goodIn_r _ [5, 6, 7, 8, 4, 9, 10, 11, 12, 13, 14, 15, 16, 17, 18, 19, 20, 21, 22, 23, 24, 25, 26, 27, 28, 29, 30, 31, 32, 33, 34, 35, 36, 37] (by decide +kernel) (by decide +kernel)
set_option maxRecDepth 20000 in
theorem gX9_voted_X9_places : GoodIn wsX9_voted (wsV RX9 60 RX9 yX9_places wsX9_places) := goodIn_app (goodIn_of _ (by decide +kernel)) ggX9_voted_X9_places
theorem dX9_voted_0 : decode cX9_voted 0 = .ok (.iconst 0, 1) := by decide +kernel
theorem dX9_voted_1 : decode cX9_voted 1 = .ok (.istore_n 3, 1) := by decide +kernel
theorem dX9_voted_2 : decode cX9_voted 2 = .ok (.iconst 0, 1) := by decide +kernel
theorem dX9_voted_3 : decode cX9_voted 3 = .ok (.istore 4, 2) := by decide +kernel
theorem dX9_voted_5 : decode cX9_voted 5 = .ok (.iload 4, 2) := by decide +kernel
theorem dX9_voted_7 : decode cX9_voted 7 = .ok (.aload_n 0, 1) := by decide +kernel
theorem dX9_voted_8 : decode cX9_voted 8 = .ok (.invokevirtual 60, 3) := by decide +kernel
theorem dX9_voted_11 : decode cX9_voted 11 = .ok (.if_icmp .ge 77, 3) := by decide +kernel
theorem dX9_voted_14 : decode cX9_voted 14 = .ok (.iload 4, 2) := by decide +kernel
theorem dX9_voted_16 : decode cX9_voted 16 = .ok (.iload_n 2, 1) := by decide +kernel
theorem dX9_voted_17 : decode cX9_voted 17 = .ok (.iand, 1) := by decide +kernel
theorem dX9_voted_18 : decode cX9_voted 18 = .ok (.ifCond .ne 64, 3) := by decide +kernel
theorem dX9_voted_21 : decode cX9_voted 21 = .ok (.iconst 0, 1) := by decide +kernel
theorem dX9_voted_22 : decode cX9_voted 22 = .ok (.istore 5, 2) := by decide +kernel
theorem dX9_voted_24 : decode cX9_voted 24 = .ok (.iconst 0, 1) := by decide +kernel
theorem dX9_voted_25 : decode cX9_voted 25 = .ok (.istore 6, 2) := by decide +kernel
theorem dX9_voted_27 : decode cX9_voted 27 = .ok (.iload 6, 2) := by decide +kernel
theorem dX9_voted_29 : decode cX9_voted 29 = .ok (.aload_n 0, 1) := by decide +kernel
theorem dX9_voted_30 : decode cX9_voted 30 = .ok (.invokevirtual 60, 3) := by decide +kernel
theorem dX9_voted_33 : decode cX9_voted 33 = .ok (.if_icmp .ge 35, 3) := by decide +kernel
theorem dX9_voted_36 : decode cX9_voted 36 = .ok (.iload 5, 2) := by decide +kernel
theorem dX9_voted_38 : decode cX9_voted 38 = .ok (.iload 6, 2) := by decide +kernel
theorem dX9_voted_40 : decode cX9_voted 40 = .ok (.iload_n 2, 1) := by decide +kernel
theorem dX9_voted_41 : decode cX9_voted 41 = .ok (.iconst (-1), 1) := by decide +kernel
theorem dX9_voted_42 : decode cX9_voted 42 = .ok (.ixor, 1) := by decide +kernel
theorem dX9_voted_43 : decode cX9_voted 43 = .ok (.iand, 1) := by decide +kernel
theorem dX9_voted_44 : decode cX9_voted 44 = .ok (.iload 4, 2) := by decide +kernel
theorem dX9_voted_46 : decode cX9_voted 46 = .ok (.if_icmp .ne 12, 3) := by decide +kernel
theorem dX9_voted_49 : decode cX9_voted 49 = .ok (.iload_n 1, 1) := by decide +kernel
theorem dX9_voted_50 : decode cX9_voted 50 = .ok (.iload 6, 2) := by decide +kernel
theorem dX9_voted_52 : decode cX9_voted 52 = .ok (.ishr, 1) := by decide +kernel
theorem dX9_voted_53 : decode cX9_voted 53 = .ok (.iconst 1, 1) := by decide +kernel
theorem dX9_voted_54 : decode cX9_voted 54 = .ok (.iand, 1) := by decide +kernel
theorem dX9_voted_55 : decode cX9_voted 55 = .ok (.goto 4, 3) := by decide +kernel
theorem dX9_voted_58 : decode cX9_voted 58 = .ok (.iconst 0, 1) := by decide +kernel
theorem dX9_voted_59 : decode cX9_voted 59 = .ok (.ixor, 1) := by decide +kernel
theorem dX9_voted_60 : decode cX9_voted 60 = .ok (.istore 5, 2) := by decide +kernel
theorem dX9_voted_62 : decode cX9_voted 62 = .ok (.iinc 6 1, 3) := by decide +kernel
theorem dX9_voted_65 : decode cX9_voted 65 = .ok (.goto (-38), 3) := by decide +kernel
theorem dX9_voted_68 : decode cX9_voted 68 = .ok (.iload_n 3, 1) := by decide +kernel
theorem dX9_voted_69 : decode cX9_voted 69 = .ok (.iload 5, 2) := by decide +kernel
theorem dX9_voted_71 : decode cX9_voted 71 = .ok (.iconst 1, 1) := by decide +kernel
theorem dX9_voted_72 : decode cX9_voted 72 = .ok (.if_icmp .ne 7, 3) := by decide +kernel
theorem dX9_voted_75 : decode cX9_voted 75 = .ok (.iconst 1, 1) := by decide +kernel
theorem dX9_voted_76 : decode cX9_voted 76 = .ok (.goto 4, 3) := by decide +kernel
theorem dX9_voted_79 : decode cX9_voted 79 = .ok (.iconst (-1), 1) := by decide +kernel
theorem dX9_voted_80 : decode cX9_voted 80 = .ok (.iadd, 1) := by decide +kernel
theorem dX9_voted_81 : decode cX9_voted 81 = .ok (.istore_n 3, 1) := by decide +kernel
theorem dX9_voted_82 : decode cX9_voted 82 = .ok (.iinc 4 1, 3) := by decide +kernel
theorem dX9_voted_85 : decode cX9_voted 85 = .ok (.goto (-80), 3) := by decide +kernel
theorem dX9_voted_88 : decode cX9_voted 88 = .ok (.iload_n 3, 1) := by decide +kernel
theorem dX9_voted_89 : decode cX9_voted 89 = .ok (.ireturn, 1) := by decide +kernel
set_option maxRecDepth 20000 in
theorem ggX9_votesNow_X9_theWord : GoodIn wsX9_votesNow wsX9_theWord := goodIn_r _ [11, 12, 52, 53, 54, 55, 56, 57, 58, 59, 60, 61, 62, 63, 64, 65, 66, 67, 68, 69, 70, 71, 72, 73, 74, 75, 76, 77, 78] (by decide +kernel) (by decide +kernel)
set_option maxRecDepth 20000 in
theorem gX9_votesNow_X9_theWord : GoodIn wsX9_votesNow (wsV RX9 116 RX9 yX9_theWord wsX9_theWord) := goodIn_app (goodIn_of _ (by decide +kernel)) ggX9_votesNow_X9_theWord
set_option maxRecDepth 20000 in
theorem ggX9_votesNow_X9_many : GoodIn wsX9_votesNow wsX9_many := goodIn_r _ [16, 17, 18, 19, 20, 10, 21, 12, 22, 23, 24, 25, 5, 26, 27, 28, 29, 30, 31, 32, 33, 34, 35, 36, 52, 53, 54, 55, 56, 57, 58, 59, 60, 61, 62, 63, 64, 65, 66, 67, 68, 69, 70, 71, 72, 73, 74, 75, 76, 77, 78] (by decide +kernel) (by decide +kernel)
set_option maxRecDepth 20000 in
theorem gX9_votesNow_X9_many : GoodIn wsX9_votesNow (wsV RX9 100 RX9 yX9_many wsX9_many) := goodIn_app (goodIn_of _ (by decide +kernel)) ggX9_votesNow_X9_many
set_option maxRecDepth 20000 in
theorem ggX9_votesNow_X9_order : GoodIn wsX9_votesNow wsX9_order := goodIn_r _ [21, 12, 52, 53, 54, 55, 56, 57, 58, 59, 60, 61, 62, 63, 64, 65, 66, 67, 68, 69, 70, 71, 72, 73, 74, 75, 76, 77, 78] (by decide +kernel) (by decide +kernel)
set_option maxRecDepth 20000 in
theorem gX9_votesNow_X9_order : GoodIn wsX9_votesNow (wsV RX9 67 RX9 yX9_order wsX9_order) := goodIn_app (goodIn_of _ (by decide +kernel)) ggX9_votesNow_X9_order
set_option maxRecDepth 20000 in
theorem ggX9_votesNow_X9_bits : GoodIn wsX9_votesNow wsX9_bits := goodIn_r _ [36] (by decide +kernel) (by decide +kernel)
set_option maxRecDepth 20000 in
theorem gX9_votesNow_X9_bits : GoodIn wsX9_votesNow (va_wsS RX9 63 yX9_bits wsX9_bits) := goodIn_app (goodIn_of _ (by decide +kernel)) ggX9_votesNow_X9_bits
set_option maxRecDepth 20000 in
theorem ggX9_votesNow_X9_voted : GoodIn wsX9_votesNow wsX9_voted := goodIn_r _ [40, 26, 27, 28, 10, 29, 30, 31, 32, 33, 12, 52, 53, 54, 55, 56, 57, 58, 59, 60, 61, 62, 63, 64, 65, 66, 67, 68, 69, 70, 71, 72, 73, 74, 75, 76, 77, 78] (by decide +kernel) (by decide +kernel)
set_option maxRecDepth 20000 in
theorem gX9_votesNow_X9_voted : GoodIn wsX9_votesNow (wsV RX9 154 RX9 yX9_voted wsX9_voted) := goodIn_app (goodIn_of _ (by decide +kernel)) ggX9_votesNow_X9_voted
set_option maxRecDepth 20000 in
theorem ggX9_votesNow_X9_wordOf : GoodIn wsX9_votesNow wsX9_wordOf := goodIn_r _ [44, 26, 27, 28, 10, 29, 30, 31, 32, 33, 12, 52, 53, 54, 55, 56, 57, 58, 59, 60, 61, 62, 63, 64, 65, 66, 67, 68, 69, 70, 71, 72, 73, 74, 75, 76, 77, 78] (by decide +kernel) (by decide +kernel)
set_option maxRecDepth 20000 in
theorem gX9_votesNow_X9_wordOf : GoodIn wsX9_votesNow (wsV RX9 78 RX9 yX9_wordOf wsX9_wordOf) := goodIn_app (goodIn_of _ (by decide +kernel)) ggX9_votesNow_X9_wordOf
set_option maxRecDepth 20000 in
theorem ggX9_votesNow_X9_sumOf : GoodIn wsX9_votesNow wsX9_sumOf := goodIn_r _ [48, 5, 49, 50, 10, 51, 41, 42, 43, 44, 26, 27, 28, 29, 30, 31, 32, 33, 12, 52, 53, 54, 55, 56, 57, 58, 59, 60, 61, 62, 63, 64, 65, 66, 67, 68, 69, 70, 71, 72, 73, 74, 75, 76, 77, 78] (by decide +kernel) (by decide +kernel)
set_option maxRecDepth 20000 in
theorem gX9_votesNow_X9_sumOf : GoodIn wsX9_votesNow (wsV RX9 112 RX9 yX9_sumOf wsX9_sumOf) := goodIn_app (goodIn_of _ (by decide +kernel)) ggX9_votesNow_X9_sumOf
theorem dX9_votesNow_0 : decode cX9_votesNow 0 = .ok (.aload_n 0, 1) := by decide +kernel
theorem dX9_votesNow_1 : decode cX9_votesNow 1 = .ok (.invokevirtual 116, 3) := by decide +kernel
theorem dX9_votesNow_4 : decode cX9_votesNow 4 = .ok (.istore_n 1, 1) := by decide +kernel
theorem dX9_votesNow_5 : decode cX9_votesNow 5 = .ok (.aload_n 0, 1) := by decide +kernel
theorem dX9_votesNow_6 : decode cX9_votesNow 6 = .ok (.invokevirtual 100, 3) := by decide +kernel
theorem dX9_votesNow_9 : decode cX9_votesNow 9 = .ok (.istore_n 2, 1) := by decide +kernel
theorem dX9_votesNow_10 : decode cX9_votesNow 10 = .ok (.aload_n 0, 1) := by decide +kernel
theorem dX9_votesNow_11 : decode cX9_votesNow 11 = .ok (.iconst 0, 1) := by decide +kernel
theorem dX9_votesNow_12 : decode cX9_votesNow 12 = .ok (.putfield 142, 3) := by decide +kernel
theorem dX9_votesNow_15 : decode cX9_votesNow 15 = .ok (.aload_n 0, 1) := by decide +kernel
theorem dX9_votesNow_16 : decode cX9_votesNow 16 = .ok (.iconst 0, 1) := by decide +kernel
theorem dX9_votesNow_17 : decode cX9_votesNow 17 = .ok (.putfield 145, 3) := by decide +kernel
theorem dX9_votesNow_20 : decode cX9_votesNow 20 = .ok (.aload_n 0, 1) := by decide +kernel
theorem dX9_votesNow_21 : decode cX9_votesNow 21 = .ok (.iconst (-1), 1) := by decide +kernel
theorem dX9_votesNow_22 : decode cX9_votesNow 22 = .ok (.putfield 148, 3) := by decide +kernel
theorem dX9_votesNow_25 : decode cX9_votesNow 25 = .ok (.aload_n 0, 1) := by decide +kernel
theorem dX9_votesNow_26 : decode cX9_votesNow 26 = .ok (.iconst 0, 1) := by decide +kernel
theorem dX9_votesNow_27 : decode cX9_votesNow 27 = .ok (.putfield 151, 3) := by decide +kernel
theorem dX9_votesNow_30 : decode cX9_votesNow 30 = .ok (.aload_n 0, 1) := by decide +kernel
theorem dX9_votesNow_31 : decode cX9_votesNow 31 = .ok (.invokevirtual 67, 3) := by decide +kernel
theorem dX9_votesNow_34 : decode cX9_votesNow 34 = .ok (.istore_n 3, 1) := by decide +kernel
theorem dX9_votesNow_35 : decode cX9_votesNow 35 = .ok (.iload_n 3, 1) := by decide +kernel
theorem dX9_votesNow_36 : decode cX9_votesNow 36 = .ok (.ifCond .lt 175, 3) := by decide +kernel
theorem dX9_votesNow_39 : decode cX9_votesNow 39 = .ok (.iconst 0, 1) := by decide +kernel
theorem dX9_votesNow_40 : decode cX9_votesNow 40 = .ok (.istore 4, 2) := by decide +kernel
theorem dX9_votesNow_42 : decode cX9_votesNow 42 = .ok (.iconst 0, 1) := by decide +kernel
theorem dX9_votesNow_43 : decode cX9_votesNow 43 = .ok (.istore 5, 2) := by decide +kernel
theorem dX9_votesNow_45 : decode cX9_votesNow 45 = .ok (.iload 5, 2) := by decide +kernel
theorem dX9_votesNow_47 : decode cX9_votesNow 47 = .ok (.iload_n 2, 1) := by decide +kernel
theorem dX9_votesNow_48 : decode cX9_votesNow 48 = .ok (.if_icmp .ge 152, 3) := by decide +kernel
theorem dX9_votesNow_51 : decode cX9_votesNow 51 = .ok (.aload_n 0, 1) := by decide +kernel
theorem dX9_votesNow_52 : decode cX9_votesNow 52 = .ok (.getfield 19, 3) := by decide +kernel
theorem dX9_votesNow_55 : decode cX9_votesNow 55 = .ok (.iload 5, 2) := by decide +kernel
theorem dX9_votesNow_57 : decode cX9_votesNow 57 = .ok (.iaload, 1) := by decide +kernel
theorem dX9_votesNow_58 : decode cX9_votesNow 58 = .ok (.invokestatic 63, 3) := by decide +kernel
theorem dX9_votesNow_61 : decode cX9_votesNow 61 = .ok (.iload_n 3, 1) := by decide +kernel
theorem dX9_votesNow_62 : decode cX9_votesNow 62 = .ok (.if_icmp .ne 132, 3) := by decide +kernel
theorem dX9_votesNow_65 : decode cX9_votesNow 65 = .ok (.aload_n 0, 1) := by decide +kernel
theorem dX9_votesNow_66 : decode cX9_votesNow 66 = .ok (.iload_n 1, 1) := by decide +kernel
theorem dX9_votesNow_67 : decode cX9_votesNow 67 = .ok (.aload_n 0, 1) := by decide +kernel
theorem dX9_votesNow_68 : decode cX9_votesNow 68 = .ok (.getfield 19, 3) := by decide +kernel
theorem dX9_votesNow_71 : decode cX9_votesNow 71 = .ok (.iload 5, 2) := by decide +kernel
theorem dX9_votesNow_73 : decode cX9_votesNow 73 = .ok (.iaload, 1) := by decide +kernel
theorem dX9_votesNow_74 : decode cX9_votesNow 74 = .ok (.invokevirtual 154, 3) := by decide +kernel
theorem dX9_votesNow_77 : decode cX9_votesNow 77 = .ok (.istore 6, 2) := by decide +kernel
theorem dX9_votesNow_79 : decode cX9_votesNow 79 = .ok (.iload 6, 2) := by decide +kernel
theorem dX9_votesNow_81 : decode cX9_votesNow 81 = .ok (.ifCond .ge 9, 3) := by decide +kernel
theorem dX9_votesNow_84 : decode cX9_votesNow 84 = .ok (.iload 6, 2) := by decide +kernel
theorem dX9_votesNow_86 : decode cX9_votesNow 86 = .ok (.ineg, 1) := by decide +kernel
theorem dX9_votesNow_87 : decode cX9_votesNow 87 = .ok (.goto 5, 3) := by decide +kernel
theorem dX9_votesNow_90 : decode cX9_votesNow 90 = .ok (.iload 6, 2) := by decide +kernel
theorem dX9_votesNow_92 : decode cX9_votesNow 92 = .ok (.istore 7, 2) := by decide +kernel
theorem dX9_votesNow_94 : decode cX9_votesNow 94 = .ok (.aload_n 0, 1) := by decide +kernel
theorem dX9_votesNow_95 : decode cX9_votesNow 95 = .ok (.dup, 1) := by decide +kernel
theorem dX9_votesNow_96 : decode cX9_votesNow 96 = .ok (.getfield 142, 3) := by decide +kernel
theorem dX9_votesNow_99 : decode cX9_votesNow 99 = .ok (.iload 6, 2) := by decide +kernel
theorem dX9_votesNow_101 : decode cX9_votesNow 101 = .ok (.ifCond .le 10, 3) := by decide +kernel
theorem dX9_votesNow_104 : decode cX9_votesNow 104 = .ok (.iconst 1, 1) := by decide +kernel
theorem dX9_votesNow_105 : decode cX9_votesNow 105 = .ok (.iload 5, 2) := by decide +kernel
theorem dX9_votesNow_107 : decode cX9_votesNow 107 = .ok (.ishl, 1) := by decide +kernel
theorem dX9_votesNow_108 : decode cX9_votesNow 108 = .ok (.goto 4, 3) := by decide +kernel
theorem dX9_votesNow_111 : decode cX9_votesNow 111 = .ok (.iconst 0, 1) := by decide +kernel
theorem dX9_votesNow_112 : decode cX9_votesNow 112 = .ok (.ior, 1) := by decide +kernel
theorem dX9_votesNow_113 : decode cX9_votesNow 113 = .ok (.putfield 142, 3) := by decide +kernel
theorem dX9_votesNow_116 : decode cX9_votesNow 116 = .ok (.iload 4, 2) := by decide +kernel
theorem dX9_votesNow_118 : decode cX9_votesNow 118 = .ok (.iload 6, 2) := by decide +kernel
theorem dX9_votesNow_120 : decode cX9_votesNow 120 = .ok (.ifCond .le 17, 3) := by decide +kernel
theorem dX9_votesNow_123 : decode cX9_votesNow 123 = .ok (.aload_n 0, 1) := by decide +kernel
theorem dX9_votesNow_124 : decode cX9_votesNow 124 = .ok (.aload_n 0, 1) := by decide +kernel
theorem dX9_votesNow_125 : decode cX9_votesNow 125 = .ok (.getfield 19, 3) := by decide +kernel
theorem dX9_votesNow_128 : decode cX9_votesNow 128 = .ok (.iload 5, 2) := by decide +kernel
theorem dX9_votesNow_130 : decode cX9_votesNow 130 = .ok (.iaload, 1) := by decide +kernel
theorem dX9_votesNow_131 : decode cX9_votesNow 131 = .ok (.invokevirtual 78, 3) := by decide +kernel
theorem dX9_votesNow_134 : decode cX9_votesNow 134 = .ok (.goto 4, 3) := by decide +kernel
theorem dX9_votesNow_137 : decode cX9_votesNow 137 = .ok (.iconst 0, 1) := by decide +kernel
theorem dX9_votesNow_138 : decode cX9_votesNow 138 = .ok (.ixor, 1) := by decide +kernel
theorem dX9_votesNow_139 : decode cX9_votesNow 139 = .ok (.istore 4, 2) := by decide +kernel
theorem dX9_votesNow_141 : decode cX9_votesNow 141 = .ok (.aload_n 0, 1) := by decide +kernel
theorem dX9_votesNow_142 : decode cX9_votesNow 142 = .ok (.dup, 1) := by decide +kernel
theorem dX9_votesNow_143 : decode cX9_votesNow 143 = .ok (.getfield 145, 3) := by decide +kernel
theorem dX9_votesNow_146 : decode cX9_votesNow 146 = .ok (.iload 6, 2) := by decide +kernel
theorem dX9_votesNow_148 : decode cX9_votesNow 148 = .ok (.ifCond .ne 7, 3) := by decide +kernel
theorem dX9_votesNow_151 : decode cX9_votesNow 151 = .ok (.iconst 1, 1) := by decide +kernel
theorem dX9_votesNow_152 : decode cX9_votesNow 152 = .ok (.goto 4, 3) := by decide +kernel
theorem dX9_votesNow_155 : decode cX9_votesNow 155 = .ok (.iconst 0, 1) := by decide +kernel
theorem dX9_votesNow_156 : decode cX9_votesNow 156 = .ok (.iadd, 1) := by decide +kernel
theorem dX9_votesNow_157 : decode cX9_votesNow 157 = .ok (.putfield 145, 3) := by decide +kernel
theorem dX9_votesNow_160 : decode cX9_votesNow 160 = .ok (.aload_n 0, 1) := by decide +kernel
theorem dX9_votesNow_161 : decode cX9_votesNow 161 = .ok (.getfield 148, 3) := by decide +kernel
theorem dX9_votesNow_164 : decode cX9_votesNow 164 = .ok (.iconst (-1), 1) := by decide +kernel
theorem dX9_votesNow_165 : decode cX9_votesNow 165 = .ok (.if_icmp .eq 12, 3) := by decide +kernel
theorem dX9_votesNow_168 : decode cX9_votesNow 168 = .ok (.iload 7, 2) := by decide +kernel
theorem dX9_votesNow_170 : decode cX9_votesNow 170 = .ok (.aload_n 0, 1) := by decide +kernel
theorem dX9_votesNow_171 : decode cX9_votesNow 171 = .ok (.getfield 151, 3) := by decide +kernel
theorem dX9_votesNow_174 : decode cX9_votesNow 174 = .ok (.if_icmp .ge 20, 3) := by decide +kernel
theorem dX9_votesNow_177 : decode cX9_votesNow 177 = .ok (.aload_n 0, 1) := by decide +kernel
theorem dX9_votesNow_178 : decode cX9_votesNow 178 = .ok (.aload_n 0, 1) := by decide +kernel
theorem dX9_votesNow_179 : decode cX9_votesNow 179 = .ok (.getfield 19, 3) := by decide +kernel
theorem dX9_votesNow_182 : decode cX9_votesNow 182 = .ok (.iload 5, 2) := by decide +kernel
theorem dX9_votesNow_184 : decode cX9_votesNow 184 = .ok (.iaload, 1) := by decide +kernel
theorem dX9_votesNow_185 : decode cX9_votesNow 185 = .ok (.putfield 148, 3) := by decide +kernel
theorem dX9_votesNow_188 : decode cX9_votesNow 188 = .ok (.aload_n 0, 1) := by decide +kernel
theorem dX9_votesNow_189 : decode cX9_votesNow 189 = .ok (.iload 7, 2) := by decide +kernel
theorem dX9_votesNow_191 : decode cX9_votesNow 191 = .ok (.putfield 151, 3) := by decide +kernel
theorem dX9_votesNow_194 : decode cX9_votesNow 194 = .ok (.iinc 5 1, 3) := by decide +kernel
theorem dX9_votesNow_197 : decode cX9_votesNow 197 = .ok (.goto (-152), 3) := by decide +kernel
theorem dX9_votesNow_200 : decode cX9_votesNow 200 = .ok (.iload_n 1, 1) := by decide +kernel
theorem dX9_votesNow_201 : decode cX9_votesNow 201 = .ok (.iload 4, 2) := by decide +kernel
theorem dX9_votesNow_203 : decode cX9_votesNow 203 = .ok (.ixor, 1) := by decide +kernel
theorem dX9_votesNow_204 : decode cX9_votesNow 204 = .ok (.istore_n 1, 1) := by decide +kernel
theorem dX9_votesNow_205 : decode cX9_votesNow 205 = .ok (.iinc 3 (-1), 3) := by decide +kernel
theorem dX9_votesNow_208 : decode cX9_votesNow 208 = .ok (.goto (-173), 3) := by decide +kernel
theorem dX9_votesNow_211 : decode cX9_votesNow 211 = .ok (.aload_n 0, 1) := by decide +kernel
theorem dX9_votesNow_212 : decode cX9_votesNow 212 = .ok (.aload_n 0, 1) := by decide +kernel
theorem dX9_votesNow_213 : decode cX9_votesNow 213 = .ok (.aload_n 0, 1) := by decide +kernel
theorem dX9_votesNow_214 : decode cX9_votesNow 214 = .ok (.getfield 142, 3) := by decide +kernel
theorem dX9_votesNow_217 : decode cX9_votesNow 217 = .ok (.iload_n 2, 1) := by decide +kernel
theorem dX9_votesNow_218 : decode cX9_votesNow 218 = .ok (.invokevirtual 112, 3) := by decide +kernel
theorem dX9_votesNow_221 : decode cX9_votesNow 221 = .ok (.putfield 157, 3) := by decide +kernel
theorem dX9_votesNow_224 : decode cX9_votesNow 224 = .ok (.return_, 1) := by decide +kernel
set_option maxRecDepth 20000 in
theorem ggX9_votes_X9_votesNow : GoodIn wsX9_votes wsX9_votesNow := goodIn_r _ [6, 1, 7, 8, 9, 10, 11, 12, 13, 14, 5, 15, 16, 17, 18, 19, 20, 21, 22, 23, 24, 25, 26, 27, 28, 29, 30, 31, 32, 33, 34, 35, 36, 37, 38, 39, 40, 41, 42, 43, 44, 45, 46, 47, 48, 49, 50, 51, 52, 53, 54, 55, 56, 57, 58, 59, 60, 61, 62, 63, 64, 65, 66, 67, 68, 69, 70, 71, 72, 73, 74, 75, 76, 77, 78, 79, 80, 81, 82] (by decide +kernel) (by decide +kernel)
set_option maxRecDepth 20000 in
theorem gX9_votes_X9_votesNow : GoodIn wsX9_votes (wsV RX9 160 RX9 yX9_votesNow wsX9_votesNow) := goodIn_app (goodIn_of _ (by decide +kernel)) ggX9_votes_X9_votesNow
theorem dX9_votes_0 : decode cX9_votes 0 = .ok (.aload_n 0, 1) := by decide +kernel
theorem dX9_votes_1 : decode cX9_votes 1 = .ok (.invokevirtual 160, 3) := by decide +kernel
theorem dX9_votes_4 : decode cX9_votes 4 = .ok (.aload_n 0, 1) := by decide +kernel
theorem dX9_votes_5 : decode cX9_votes 5 = .ok (.getfield 142, 3) := by decide +kernel
theorem dX9_votes_8 : decode cX9_votes 8 = .ok (.ireturn, 1) := by decide +kernel
set_option maxRecDepth 20000 in
theorem ggX9_vote_X9_in : GoodIn wsX9_vote wsX9_in := goodIn_r _ [9] (by decide +kernel) (by decide +kernel)
set_option maxRecDepth 20000 in
theorem gX9_vote_X9_in : GoodIn wsX9_vote (va_wsS RX9 83 yX9_in wsX9_in) := goodIn_app (goodIn_of _ (by decide +kernel)) ggX9_vote_X9_in
set_option maxRecDepth 20000 in
theorem ggX9_vote_X9_bad : GoodIn wsX9_vote wsX9_bad := goodIn_r _ [13, 14, 65, 66, 67, 68, 69, 70, 71, 72, 73, 74, 75, 76, 77, 78, 79, 80, 81, 82, 83, 84, 85, 86, 87, 88, 89, 90, 91] (by decide +kernel) (by decide +kernel)
set_option maxRecDepth 20000 in
theorem gX9_vote_X9_bad : GoodIn wsX9_vote (wsV RX9 90 RX9 yX9_bad wsX9_bad) := goodIn_app (goodIn_of _ (by decide +kernel)) ggX9_vote_X9_bad
set_option maxRecDepth 20000 in
theorem ggX9_vote_X9_votesNow : GoodIn wsX9_vote wsX9_votesNow := goodIn_r _ [18, 19, 3, 4, 5, 20, 2, 21, 22, 23, 8, 24, 25, 26, 27, 28, 29, 30, 31, 32, 33, 34, 35, 36, 37, 38, 39, 40, 41, 42, 43, 44, 45, 46, 47, 48, 49, 50, 51, 52, 53, 54, 55, 56, 57, 58, 59, 60, 61, 62, 63, 64, 65, 66, 67, 68, 69, 70, 71, 72, 73, 74, 75, 76, 77, 78, 79, 80, 81, 82, 83, 84, 85, 86, 87, 88, 89, 90, 91] (by decide +kernel) (by decide +kernel)
set_option maxRecDepth 20000 in
theorem gX9_vote_X9_votesNow : GoodIn wsX9_vote (wsV RX9 160 RX9 yX9_votesNow wsX9_votesNow) := goodIn_app (goodIn_of _ (by decide +kernel)) ggX9_vote_X9_votesNow
set_option maxRecDepth 20000 in
theorem ggX9_vote_X9_theWord : GoodIn wsX9_vote wsX9_theWord := goodIn_r _ [24, 25, 65, 66, 67, 68, 69, 70, 71, 72, 73, 74, 75, 76, 77, 78, 79, 80, 81, 82, 83, 84, 85, 86, 87, 88, 89, 90, 91] (by decide +kernel) (by decide +kernel)
set_option maxRecDepth 20000 in
theorem gX9_vote_X9_theWord : GoodIn wsX9_vote (wsV RX9 116 RX9 yX9_theWord wsX9_theWord) := goodIn_app (goodIn_of _ (by decide +kernel)) ggX9_vote_X9_theWord
set_option maxRecDepth 20000 in
theorem ggX9_vote_X9_bits : GoodIn wsX9_vote wsX9_bits := goodIn_r _ [49] (by decide +kernel) (by decide +kernel)
set_option maxRecDepth 20000 in
theorem gX9_vote_X9_bits : GoodIn wsX9_vote (va_wsS RX9 63 yX9_bits wsX9_bits) := goodIn_app (goodIn_of _ (by decide +kernel)) ggX9_vote_X9_bits
theorem dX9_vote_0 : decode cX9_vote 0 = .ok (.iload_n 1, 1) := by decide +kernel
theorem dX9_vote_1 : decode cX9_vote 1 = .ok (.i2l, 1) := by decide +kernel
theorem dX9_vote_2 : decode cX9_vote 2 = .ok (.lconst 0, 1) := by decide +kernel
theorem dX9_vote_3 : decode cX9_vote 3 = .ok (.ldc2_w 163, 3) := by decide +kernel
theorem dX9_vote_6 : decode cX9_vote 6 = .ok (.invokestatic 83, 3) := by decide +kernel
theorem dX9_vote_9 : decode cX9_vote 9 = .ok (.ifCond .ne 10, 3) := by decide +kernel
theorem dX9_vote_12 : decode cX9_vote 12 = .ok (.aload_n 0, 1) := by decide +kernel
theorem dX9_vote_13 : decode cX9_vote 13 = .ok (.bipush (-2), 2) := by decide +kernel
theorem dX9_vote_15 : decode cX9_vote 15 = .ok (.invokevirtual 90, 3) := by decide +kernel
theorem dX9_vote_18 : decode cX9_vote 18 = .ok (.ireturn, 1) := by decide +kernel
theorem dX9_vote_19 : decode cX9_vote 19 = .ok (.aload_n 0, 1) := by decide +kernel
theorem dX9_vote_20 : decode cX9_vote 20 = .ok (.invokevirtual 160, 3) := by decide +kernel
theorem dX9_vote_23 : decode cX9_vote 23 = .ok (.iload_n 1, 1) := by decide +kernel
theorem dX9_vote_24 : decode cX9_vote 24 = .ok (.ifCond .ne 18, 3) := by decide +kernel
theorem dX9_vote_27 : decode cX9_vote 27 = .ok (.aload_n 0, 1) := by decide +kernel
theorem dX9_vote_28 : decode cX9_vote 28 = .ok (.invokevirtual 116, 3) := by decide +kernel
theorem dX9_vote_31 : decode cX9_vote 31 = .ok (.aload_n 0, 1) := by decide +kernel
theorem dX9_vote_32 : decode cX9_vote 32 = .ok (.getfield 157, 3) := by decide +kernel
theorem dX9_vote_35 : decode cX9_vote 35 = .ok (.ixor, 1) := by decide +kernel
theorem dX9_vote_36 : decode cX9_vote 36 = .ok (.invokestatic 63, 3) := by decide +kernel
theorem dX9_vote_39 : decode cX9_vote 39 = .ok (.goto 31, 3) := by decide +kernel
theorem dX9_vote_42 : decode cX9_vote 42 = .ok (.iload_n 1, 1) := by decide +kernel
theorem dX9_vote_43 : decode cX9_vote 43 = .ok (.iconst 1, 1) := by decide +kernel
theorem dX9_vote_44 : decode cX9_vote 44 = .ok (.if_icmp .ne 10, 3) := by decide +kernel
theorem dX9_vote_47 : decode cX9_vote 47 = .ok (.aload_n 0, 1) := by decide +kernel
theorem dX9_vote_48 : decode cX9_vote 48 = .ok (.getfield 145, 3) := by decide +kernel
theorem dX9_vote_51 : decode cX9_vote 51 = .ok (.goto 19, 3) := by decide +kernel
theorem dX9_vote_54 : decode cX9_vote 54 = .ok (.iload_n 1, 1) := by decide +kernel
theorem dX9_vote_55 : decode cX9_vote 55 = .ok (.iconst 2, 1) := by decide +kernel
theorem dX9_vote_56 : decode cX9_vote 56 = .ok (.if_icmp .ne 10, 3) := by decide +kernel
theorem dX9_vote_59 : decode cX9_vote 59 = .ok (.aload_n 0, 1) := by decide +kernel
theorem dX9_vote_60 : decode cX9_vote 60 = .ok (.getfield 148, 3) := by decide +kernel
theorem dX9_vote_63 : decode cX9_vote 63 = .ok (.goto 7, 3) := by decide +kernel
theorem dX9_vote_66 : decode cX9_vote 66 = .ok (.aload_n 0, 1) := by decide +kernel
theorem dX9_vote_67 : decode cX9_vote 67 = .ok (.getfield 151, 3) := by decide +kernel
theorem dX9_vote_70 : decode cX9_vote 70 = .ok (.ireturn, 1) := by decide +kernel
set_option maxRecDepth 20000 in
theorem ggX9_mendsNow_X9_votesNow : GoodIn wsX9_mendsNow wsX9_votesNow := goodIn_r _ [7, 8, 9, 10, 11, 12, 1, 13, 14, 15, 6, 16, 2, 17, 18, 19, 20, 21, 22, 23, 24, 25, 26, 27, 28, 29, 30, 31, 32, 33, 34, 35, 36, 37, 38, 39, 40, 41, 42, 43, 44, 45, 46, 47, 48, 49, 50, 51, 52, 53, 54, 55, 56, 57, 58, 59, 60, 61, 62, 63, 64, 65, 66, 67, 68, 69, 70, 71, 72, 73, 74, 75, 76, 77, 78, 79, 80, 81, 82] (by decide +kernel) (by decide +kernel)
set_option maxRecDepth 20000 in
theorem gX9_mendsNow_X9_votesNow : GoodIn wsX9_mendsNow (wsV RX9 160 RX9 yX9_votesNow wsX9_votesNow) := goodIn_app (goodIn_of _ (by decide +kernel)) ggX9_mendsNow_X9_votesNow
set_option maxRecDepth 20000 in
theorem ggX9_mendsNow_X9_theWord : GoodIn wsX9_mendsNow wsX9_theWord := goodIn_r _ [16, 2, 56, 57, 58, 59, 60, 61, 62, 63, 64, 65, 66, 67, 68, 69, 70, 71, 72, 73, 74, 75, 76, 77, 78, 79, 80, 81, 82] (by decide +kernel) (by decide +kernel)
set_option maxRecDepth 20000 in
theorem gX9_mendsNow_X9_theWord : GoodIn wsX9_mendsNow (wsV RX9 116 RX9 yX9_theWord wsX9_theWord) := goodIn_app (goodIn_of _ (by decide +kernel)) ggX9_mendsNow_X9_theWord
set_option maxRecDepth 20000 in
theorem ggX9_mendsNow_X9_bits : GoodIn wsX9_mendsNow wsX9_bits := goodIn_r _ [40] (by decide +kernel) (by decide +kernel)
set_option maxRecDepth 20000 in
theorem gX9_mendsNow_X9_bits : GoodIn wsX9_mendsNow (va_wsS RX9 63 yX9_bits wsX9_bits) := goodIn_app (goodIn_of _ (by decide +kernel)) ggX9_mendsNow_X9_bits
theorem dX9_mendsNow_0 : decode cX9_mendsNow 0 = .ok (.aload_n 0, 1) := by decide +kernel
theorem dX9_mendsNow_1 : decode cX9_mendsNow 1 = .ok (.invokevirtual 160, 3) := by decide +kernel
theorem dX9_mendsNow_4 : decode cX9_mendsNow 4 = .ok (.aload_n 0, 1) := by decide +kernel
theorem dX9_mendsNow_5 : decode cX9_mendsNow 5 = .ok (.invokevirtual 116, 3) := by decide +kernel
theorem dX9_mendsNow_8 : decode cX9_mendsNow 8 = .ok (.aload_n 0, 1) := by decide +kernel
theorem dX9_mendsNow_9 : decode cX9_mendsNow 9 = .ok (.getfield 157, 3) := by decide +kernel
theorem dX9_mendsNow_12 : decode cX9_mendsNow 12 = .ok (.ixor, 1) := by decide +kernel
theorem dX9_mendsNow_13 : decode cX9_mendsNow 13 = .ok (.invokestatic 63, 3) := by decide +kernel
theorem dX9_mendsNow_16 : decode cX9_mendsNow 16 = .ok (.istore_n 1, 1) := by decide +kernel
theorem dX9_mendsNow_17 : decode cX9_mendsNow 17 = .ok (.aload_n 0, 1) := by decide +kernel
theorem dX9_mendsNow_18 : decode cX9_mendsNow 18 = .ok (.getfield 7, 3) := by decide +kernel
theorem dX9_mendsNow_21 : decode cX9_mendsNow 21 = .ok (.iconst 2, 1) := by decide +kernel
theorem dX9_mendsNow_22 : decode cX9_mendsNow 22 = .ok (.aload_n 0, 1) := by decide +kernel
theorem dX9_mendsNow_23 : decode cX9_mendsNow 23 = .ok (.getfield 157, 3) := by decide +kernel
theorem dX9_mendsNow_26 : decode cX9_mendsNow 26 = .ok (.iastore, 1) := by decide +kernel
theorem dX9_mendsNow_27 : decode cX9_mendsNow 27 = .ok (.iload_n 1, 1) := by decide +kernel
theorem dX9_mendsNow_28 : decode cX9_mendsNow 28 = .ok (.ireturn, 1) := by decide +kernel
set_option maxRecDepth 20000 in
theorem ggX9_mends_X9_keep : GoodIn wsX9_mends wsX9_keep := goodIn_r _ [5, 6, 7, 8, 66, 67, 68, 69, 70, 71, 72, 73, 74, 75, 76, 77, 78, 79, 80, 81, 82, 83, 84, 85, 86, 87, 88, 89, 90, 91, 92] (by decide +kernel) (by decide +kernel)
set_option maxRecDepth 20000 in
theorem gX9_mends_X9_keep : GoodIn wsX9_mends (wsV RX9 93 RX9 yX9_keep wsX9_keep) := goodIn_app (goodIn_of _ (by decide +kernel)) ggX9_mends_X9_keep
set_option maxRecDepth 20000 in
theorem ggX9_mends_X9_mendsNow : GoodIn wsX9_mends wsX9_mendsNow := goodIn_r _ [12, 13, 8, 14, 15, 16, 4, 17, 18, 19, 20, 21, 22, 23, 24, 25, 26, 27, 28, 29, 30, 31, 32, 33, 34, 35, 36, 37, 38, 39, 40, 41, 42, 43, 44, 45, 46, 47, 48, 49, 50, 51, 52, 53, 54, 55, 56, 57, 58, 59, 60, 61, 62, 63, 64, 65, 66, 67, 68, 69, 70, 71, 72, 73, 74, 75, 76, 77, 78, 79, 80, 81, 82, 83, 84, 85, 86, 87, 88, 89, 90, 91, 92] (by decide +kernel) (by decide +kernel)
set_option maxRecDepth 20000 in
theorem gX9_mends_X9_mendsNow : GoodIn wsX9_mends (wsV RX9 165 RX9 yX9_mendsNow wsX9_mendsNow) := goodIn_app (goodIn_of _ (by decide +kernel)) ggX9_mends_X9_mendsNow
theorem dX9_mends_0 : decode cX9_mends 0 = .ok (.aload_n 0, 1) := by decide +kernel
theorem dX9_mends_1 : decode cX9_mends 1 = .ok (.invokevirtual 93, 3) := by decide +kernel
theorem dX9_mends_4 : decode cX9_mends 4 = .ok (.aload_n 0, 1) := by decide +kernel
theorem dX9_mends_5 : decode cX9_mends 5 = .ok (.invokevirtual 165, 3) := by decide +kernel
theorem dX9_mends_8 : decode cX9_mends 8 = .ok (.ireturn, 1) := by decide +kernel
set_option maxRecDepth 20000 in
theorem ggX9_signOf_X9_places : GoodIn wsX9_signOf wsX9_places := goodIn_r _ [5, 6, 7, 8, 4, 9, 10, 18, 19, 20, 21, 22, 23, 24, 25, 26, 27, 28, 29, 30, 31, 32, 33, 34, 35, 36, 37, 38, 39, 40, 41, 42, 43, 44] (by decide +kernel) (by decide +kernel)
set_option maxRecDepth 20000 in
theorem gX9_signOf_X9_places : GoodIn wsX9_signOf (wsV RX9 60 RX9 yX9_places wsX9_places) := goodIn_app (goodIn_of _ (by decide +kernel)) ggX9_signOf_X9_places
set_option maxRecDepth 20000 in
theorem ggX9_signOf_X9_theWord : GoodIn wsX9_signOf wsX9_theWord := goodIn_r _ [14, 10, 18, 19, 20, 21, 22, 23, 24, 25, 26, 27, 28, 29, 30, 31, 32, 33, 34, 35, 36, 37, 38, 39, 40, 41, 42, 43, 44] (by decide +kernel) (by decide +kernel)
set_option maxRecDepth 20000 in
theorem gX9_signOf_X9_theWord : GoodIn wsX9_signOf (wsV RX9 116 RX9 yX9_theWord wsX9_theWord) := goodIn_app (goodIn_of _ (by decide +kernel)) ggX9_signOf_X9_theWord
set_option maxRecDepth 20000 in
theorem ggX9_signOf_X9_bits : GoodIn wsX9_signOf wsX9_bits := goodIn_r _ [17] (by decide +kernel) (by decide +kernel)
set_option maxRecDepth 20000 in
theorem gX9_signOf_X9_bits : GoodIn wsX9_signOf (va_wsS RX9 63 yX9_bits wsX9_bits) := goodIn_app (goodIn_of _ (by decide +kernel)) ggX9_signOf_X9_bits
theorem dX9_signOf_0 : decode cX9_signOf 0 = .ok (.iconst 0, 1) := by decide +kernel
theorem dX9_signOf_1 : decode cX9_signOf 1 = .ok (.istore_n 2, 1) := by decide +kernel
theorem dX9_signOf_2 : decode cX9_signOf 2 = .ok (.iconst 0, 1) := by decide +kernel
theorem dX9_signOf_3 : decode cX9_signOf 3 = .ok (.istore_n 3, 1) := by decide +kernel
theorem dX9_signOf_4 : decode cX9_signOf 4 = .ok (.iload_n 3, 1) := by decide +kernel
theorem dX9_signOf_5 : decode cX9_signOf 5 = .ok (.aload_n 0, 1) := by decide +kernel
theorem dX9_signOf_6 : decode cX9_signOf 6 = .ok (.invokevirtual 60, 3) := by decide +kernel
theorem dX9_signOf_9 : decode cX9_signOf 9 = .ok (.if_icmp .ge 36, 3) := by decide +kernel
theorem dX9_signOf_12 : decode cX9_signOf 12 = .ok (.iload_n 2, 1) := by decide +kernel
theorem dX9_signOf_13 : decode cX9_signOf 13 = .ok (.aload_n 0, 1) := by decide +kernel
theorem dX9_signOf_14 : decode cX9_signOf 14 = .ok (.invokevirtual 116, 3) := by decide +kernel
theorem dX9_signOf_17 : decode cX9_signOf 17 = .ok (.iload_n 3, 1) := by decide +kernel
theorem dX9_signOf_18 : decode cX9_signOf 18 = .ok (.ishr, 1) := by decide +kernel
theorem dX9_signOf_19 : decode cX9_signOf 19 = .ok (.iconst 1, 1) := by decide +kernel
theorem dX9_signOf_20 : decode cX9_signOf 20 = .ok (.iand, 1) := by decide +kernel
theorem dX9_signOf_21 : decode cX9_signOf 21 = .ok (.iload_n 1, 1) := by decide +kernel
theorem dX9_signOf_22 : decode cX9_signOf 22 = .ok (.iload_n 3, 1) := by decide +kernel
theorem dX9_signOf_23 : decode cX9_signOf 23 = .ok (.iand, 1) := by decide +kernel
theorem dX9_signOf_24 : decode cX9_signOf 24 = .ok (.invokestatic 63, 3) := by decide +kernel
theorem dX9_signOf_27 : decode cX9_signOf 27 = .ok (.iconst 1, 1) := by decide +kernel
theorem dX9_signOf_28 : decode cX9_signOf 28 = .ok (.iand, 1) := by decide +kernel
theorem dX9_signOf_29 : decode cX9_signOf 29 = .ok (.if_icmp .ne 7, 3) := by decide +kernel
theorem dX9_signOf_32 : decode cX9_signOf 32 = .ok (.iconst 1, 1) := by decide +kernel
theorem dX9_signOf_33 : decode cX9_signOf 33 = .ok (.goto 4, 3) := by decide +kernel
theorem dX9_signOf_36 : decode cX9_signOf 36 = .ok (.iconst (-1), 1) := by decide +kernel
theorem dX9_signOf_37 : decode cX9_signOf 37 = .ok (.iadd, 1) := by decide +kernel
theorem dX9_signOf_38 : decode cX9_signOf 38 = .ok (.istore_n 2, 1) := by decide +kernel
theorem dX9_signOf_39 : decode cX9_signOf 39 = .ok (.iinc 3 1, 3) := by decide +kernel
theorem dX9_signOf_42 : decode cX9_signOf 42 = .ok (.goto (-38), 3) := by decide +kernel
theorem dX9_signOf_45 : decode cX9_signOf 45 = .ok (.iload_n 2, 1) := by decide +kernel
theorem dX9_signOf_46 : decode cX9_signOf 46 = .ok (.ireturn, 1) := by decide +kernel
set_option maxRecDepth 20000 in
theorem ggX9_sign_X9_isPlace : GoodIn wsX9_sign wsX9_isPlace := goodIn_r _ [5, 6, 7, 8, 4, 9, 10, 11, 12, 13, 14, 15, 16, 17, 34, 35, 36, 37, 38, 39, 40, 41, 42, 43, 44, 45, 46, 47, 48, 49, 50, 51, 52, 53, 54, 55, 56, 57, 58, 59, 60] (by decide +kernel) (by decide +kernel)
set_option maxRecDepth 20000 in
theorem gX9_sign_X9_isPlace : GoodIn wsX9_sign (wsV RX9 122 RX9 yX9_isPlace wsX9_isPlace) := goodIn_app (goodIn_of _ (by decide +kernel)) ggX9_sign_X9_isPlace
set_option maxRecDepth 20000 in
theorem ggX9_sign_X9_signOf : GoodIn wsX9_sign wsX9_signOf := goodIn_r _ [21, 6, 7, 8, 4, 9, 10, 11, 12, 13, 14, 22, 23, 24, 25, 26, 27, 28, 34, 35, 36, 37, 38, 39, 40, 41, 42, 43, 44, 45, 46, 47, 48, 49, 50, 51, 52, 53, 54, 55, 56, 57, 58, 59, 60] (by decide +kernel) (by decide +kernel)
set_option maxRecDepth 20000 in
theorem gX9_sign_X9_signOf : GoodIn wsX9_sign (wsV RX9 168 RX9 yX9_signOf wsX9_signOf) := goodIn_app (goodIn_of _ (by decide +kernel)) ggX9_sign_X9_signOf
set_option maxRecDepth 20000 in
theorem ggX9_sign_X9_bad : GoodIn wsX9_sign wsX9_bad := goodIn_r _ [32, 33, 34, 35, 36, 37, 38, 39, 40, 41, 42, 43, 44, 45, 46, 47, 48, 49, 50, 51, 52, 53, 54, 55, 56, 57, 58, 59, 60] (by decide +kernel) (by decide +kernel)
set_option maxRecDepth 20000 in
theorem gX9_sign_X9_bad : GoodIn wsX9_sign (wsV RX9 90 RX9 yX9_bad wsX9_bad) := goodIn_app (goodIn_of _ (by decide +kernel)) ggX9_sign_X9_bad
theorem dX9_sign_0 : decode cX9_sign 0 = .ok (.aload_n 0, 1) := by decide +kernel
theorem dX9_sign_1 : decode cX9_sign 1 = .ok (.iload_n 1, 1) := by decide +kernel
theorem dX9_sign_2 : decode cX9_sign 2 = .ok (.invokevirtual 122, 3) := by decide +kernel
theorem dX9_sign_5 : decode cX9_sign 5 = .ok (.ifCond .eq 11, 3) := by decide +kernel
theorem dX9_sign_8 : decode cX9_sign 8 = .ok (.aload_n 0, 1) := by decide +kernel
theorem dX9_sign_9 : decode cX9_sign 9 = .ok (.iload_n 1, 1) := by decide +kernel
theorem dX9_sign_10 : decode cX9_sign 10 = .ok (.invokevirtual 168, 3) := by decide +kernel
theorem dX9_sign_13 : decode cX9_sign 13 = .ok (.goto 10, 3) := by decide +kernel
theorem dX9_sign_16 : decode cX9_sign 16 = .ok (.aload_n 0, 1) := by decide +kernel
theorem dX9_sign_17 : decode cX9_sign 17 = .ok (.sipush 1000, 3) := by decide +kernel
theorem dX9_sign_20 : decode cX9_sign 20 = .ok (.invokevirtual 90, 3) := by decide +kernel
theorem dX9_sign_23 : decode cX9_sign 23 = .ok (.ireturn, 1) := by decide +kernel
theorem dX9_far_0 : decode cX9_far 0 = .ok (.iload_n 0, 1) := by decide +kernel
theorem dX9_far_1 : decode cX9_far 1 = .ok (.ifCond .ge 8, 3) := by decide +kernel
theorem dX9_far_4 : decode cX9_far 4 = .ok (.iload_n 0, 1) := by decide +kernel
theorem dX9_far_5 : decode cX9_far 5 = .ok (.ineg, 1) := by decide +kernel
theorem dX9_far_6 : decode cX9_far 6 = .ok (.goto 4, 3) := by decide +kernel
theorem dX9_far_9 : decode cX9_far 9 = .ok (.iload_n 0, 1) := by decide +kernel
theorem dX9_far_10 : decode cX9_far 10 = .ok (.ireturn, 1) := by decide +kernel
set_option maxRecDepth 20000 in
theorem ggX9_best_X9_in : GoodIn wsX9_best wsX9_in := goodIn_r _ [5] (by decide +kernel) (by decide +kernel)
set_option maxRecDepth 20000 in
theorem gX9_best_X9_in : GoodIn wsX9_best (va_wsS RX9 83 yX9_in wsX9_in) := goodIn_app (goodIn_of _ (by decide +kernel)) ggX9_best_X9_in
set_option maxRecDepth 20000 in
theorem ggX9_best_X9_bad : GoodIn wsX9_best wsX9_bad := goodIn_r _ [9, 10, 34, 35, 36, 37, 38, 39, 40, 41, 42, 43, 44, 45, 46, 47, 48, 49, 50, 51, 52, 53, 54, 55, 56, 57, 58, 59, 60] (by decide +kernel) (by decide +kernel)
set_option maxRecDepth 20000 in
theorem gX9_best_X9_bad : GoodIn wsX9_best (wsV RX9 90 RX9 yX9_bad wsX9_bad) := goodIn_app (goodIn_of _ (by decide +kernel)) ggX9_best_X9_bad
set_option maxRecDepth 20000 in
theorem ggX9_best_X9_places : GoodIn wsX9_best wsX9_places := goodIn_r _ [14, 15, 16, 17, 4, 18, 19, 34, 35, 36, 37, 38, 39, 40, 41, 42, 43, 44, 45, 46, 47, 48, 49, 50, 51, 52, 53, 54, 55, 56, 57, 58, 59, 60] (by decide +kernel) (by decide +kernel)
set_option maxRecDepth 20000 in
theorem gX9_best_X9_places : GoodIn wsX9_best (wsV RX9 60 RX9 yX9_places wsX9_places) := goodIn_app (goodIn_of _ (by decide +kernel)) ggX9_best_X9_places
set_option maxRecDepth 20000 in
theorem ggX9_best_X9_signOf : GoodIn wsX9_best wsX9_signOf := goodIn_r _ [23, 11, 12, 13, 4, 14, 15, 16, 17, 18, 19, 24, 25, 26, 27, 28, 29, 30, 34, 35, 36, 37, 38, 39, 40, 41, 42, 43, 44, 45, 46, 47, 48, 49, 50, 51, 52, 53, 54, 55, 56, 57, 58, 59, 60] (by decide +kernel) (by decide +kernel)
set_option maxRecDepth 20000 in
theorem gX9_best_X9_signOf : GoodIn wsX9_best (wsV RX9 168 RX9 yX9_signOf wsX9_signOf) := goodIn_app (goodIn_of _ (by decide +kernel)) ggX9_best_X9_signOf
set_option maxRecDepth 20000 in
theorem ggX9_best_X9_far : GoodIn wsX9_best wsX9_far := goodIn_r _ [33] (by decide +kernel) (by decide +kernel)
set_option maxRecDepth 20000 in
theorem gX9_best_X9_far : GoodIn wsX9_best (va_wsS RX9 173 yX9_far wsX9_far) := goodIn_app (goodIn_of _ (by decide +kernel)) ggX9_best_X9_far
theorem dX9_best_0 : decode cX9_best 0 = .ok (.iload_n 1, 1) := by decide +kernel
theorem dX9_best_1 : decode cX9_best 1 = .ok (.i2l, 1) := by decide +kernel
theorem dX9_best_2 : decode cX9_best 2 = .ok (.lconst 0, 1) := by decide +kernel
theorem dX9_best_3 : decode cX9_best 3 = .ok (.ldc2_w 171, 3) := by decide +kernel
theorem dX9_best_6 : decode cX9_best 6 = .ok (.invokestatic 83, 3) := by decide +kernel
theorem dX9_best_9 : decode cX9_best 9 = .ok (.ifCond .ne 10, 3) := by decide +kernel
theorem dX9_best_12 : decode cX9_best 12 = .ok (.aload_n 0, 1) := by decide +kernel
theorem dX9_best_13 : decode cX9_best 13 = .ok (.bipush (-2), 2) := by decide +kernel
theorem dX9_best_15 : decode cX9_best 15 = .ok (.invokevirtual 90, 3) := by decide +kernel
theorem dX9_best_18 : decode cX9_best 18 = .ok (.ireturn, 1) := by decide +kernel
theorem dX9_best_19 : decode cX9_best 19 = .ok (.iconst 0, 1) := by decide +kernel
theorem dX9_best_20 : decode cX9_best 20 = .ok (.istore_n 2, 1) := by decide +kernel
theorem dX9_best_21 : decode cX9_best 21 = .ok (.iconst 0, 1) := by decide +kernel
theorem dX9_best_22 : decode cX9_best 22 = .ok (.istore_n 3, 1) := by decide +kernel
theorem dX9_best_23 : decode cX9_best 23 = .ok (.iconst 0, 1) := by decide +kernel
theorem dX9_best_24 : decode cX9_best 24 = .ok (.istore 4, 2) := by decide +kernel
theorem dX9_best_26 : decode cX9_best 26 = .ok (.iload 4, 2) := by decide +kernel
theorem dX9_best_28 : decode cX9_best 28 = .ok (.aload_n 0, 1) := by decide +kernel
theorem dX9_best_29 : decode cX9_best 29 = .ok (.invokevirtual 60, 3) := by decide +kernel
theorem dX9_best_32 : decode cX9_best 32 = .ok (.if_icmp .ge 68, 3) := by decide +kernel
theorem dX9_best_35 : decode cX9_best 35 = .ok (.aload_n 0, 1) := by decide +kernel
theorem dX9_best_36 : decode cX9_best 36 = .ok (.iload 4, 2) := by decide +kernel
theorem dX9_best_38 : decode cX9_best 38 = .ok (.invokevirtual 168, 3) := by decide +kernel
theorem dX9_best_41 : decode cX9_best 41 = .ok (.invokestatic 173, 3) := by decide +kernel
theorem dX9_best_44 : decode cX9_best 44 = .ok (.aload_n 0, 1) := by decide +kernel
theorem dX9_best_45 : decode cX9_best 45 = .ok (.iload_n 2, 1) := by decide +kernel
theorem dX9_best_46 : decode cX9_best 46 = .ok (.invokevirtual 168, 3) := by decide +kernel
theorem dX9_best_49 : decode cX9_best 49 = .ok (.invokestatic 173, 3) := by decide +kernel
theorem dX9_best_52 : decode cX9_best 52 = .ok (.isub, 1) := by decide +kernel
theorem dX9_best_53 : decode cX9_best 53 = .ok (.istore 5, 2) := by decide +kernel
theorem dX9_best_55 : decode cX9_best 55 = .ok (.iload 5, 2) := by decide +kernel
theorem dX9_best_57 : decode cX9_best 57 = .ok (.ifCond .gt 8, 3) := by decide +kernel
theorem dX9_best_60 : decode cX9_best 60 = .ok (.iload 4, 2) := by decide +kernel
theorem dX9_best_62 : decode cX9_best 62 = .ok (.ifCond .ne 7, 3) := by decide +kernel
theorem dX9_best_65 : decode cX9_best 65 = .ok (.iconst 1, 1) := by decide +kernel
theorem dX9_best_66 : decode cX9_best 66 = .ok (.goto 15, 3) := by decide +kernel
theorem dX9_best_69 : decode cX9_best 69 = .ok (.iload 5, 2) := by decide +kernel
theorem dX9_best_71 : decode cX9_best 71 = .ok (.ifCond .ne 9, 3) := by decide +kernel
theorem dX9_best_74 : decode cX9_best 74 = .ok (.iload_n 3, 1) := by decide +kernel
theorem dX9_best_75 : decode cX9_best 75 = .ok (.iconst 1, 1) := by decide +kernel
theorem dX9_best_76 : decode cX9_best 76 = .ok (.iadd, 1) := by decide +kernel
theorem dX9_best_77 : decode cX9_best 77 = .ok (.goto 4, 3) := by decide +kernel
theorem dX9_best_80 : decode cX9_best 80 = .ok (.iload_n 3, 1) := by decide +kernel
theorem dX9_best_81 : decode cX9_best 81 = .ok (.istore_n 3, 1) := by decide +kernel
theorem dX9_best_82 : decode cX9_best 82 = .ok (.iload 5, 2) := by decide +kernel
theorem dX9_best_84 : decode cX9_best 84 = .ok (.ifCond .le 8, 3) := by decide +kernel
theorem dX9_best_87 : decode cX9_best 87 = .ok (.iload 4, 2) := by decide +kernel
theorem dX9_best_89 : decode cX9_best 89 = .ok (.goto 4, 3) := by decide +kernel
theorem dX9_best_92 : decode cX9_best 92 = .ok (.iload_n 2, 1) := by decide +kernel
theorem dX9_best_93 : decode cX9_best 93 = .ok (.istore_n 2, 1) := by decide +kernel
theorem dX9_best_94 : decode cX9_best 94 = .ok (.iinc 4 1, 3) := by decide +kernel
theorem dX9_best_97 : decode cX9_best 97 = .ok (.goto (-71), 3) := by decide +kernel
theorem dX9_best_100 : decode cX9_best 100 = .ok (.iload_n 1, 1) := by decide +kernel
theorem dX9_best_101 : decode cX9_best 101 = .ok (.ifCond .ne 7, 3) := by decide +kernel
theorem dX9_best_104 : decode cX9_best 104 = .ok (.iload_n 2, 1) := by decide +kernel
theorem dX9_best_105 : decode cX9_best 105 = .ok (.goto 17, 3) := by decide +kernel
theorem dX9_best_108 : decode cX9_best 108 = .ok (.iload_n 1, 1) := by decide +kernel
theorem dX9_best_109 : decode cX9_best 109 = .ok (.iconst 1, 1) := by decide +kernel
theorem dX9_best_110 : decode cX9_best 110 = .ok (.if_icmp .ne 11, 3) := by decide +kernel
theorem dX9_best_113 : decode cX9_best 113 = .ok (.aload_n 0, 1) := by decide +kernel
theorem dX9_best_114 : decode cX9_best 114 = .ok (.iload_n 2, 1) := by decide +kernel
theorem dX9_best_115 : decode cX9_best 115 = .ok (.invokevirtual 168, 3) := by decide +kernel
theorem dX9_best_118 : decode cX9_best 118 = .ok (.goto 4, 3) := by decide +kernel
theorem dX9_best_121 : decode cX9_best 121 = .ok (.iload_n 3, 1) := by decide +kernel
theorem dX9_best_122 : decode cX9_best 122 = .ok (.ireturn, 1) := by decide +kernel
set_option maxRecDepth 20000 in
theorem ggX9_isFew_X9_many : GoodIn wsX9_isFew wsX9_many := goodIn_r _ [5, 6, 7, 8, 9, 4, 10, 11, 12, 13, 14, 15, 16, 17, 18, 19, 20, 21, 22, 23, 24, 25, 26, 27, 28, 29, 30, 31, 32, 33, 34, 35, 36, 37, 38, 39, 40, 41, 42, 43, 44, 45, 46, 47, 48, 49, 50, 51, 52, 53, 54] (by decide +kernel) (by decide +kernel)
set_option maxRecDepth 20000 in
theorem gX9_isFew_X9_many : GoodIn wsX9_isFew (wsV RX9 100 RX9 yX9_many wsX9_many) := goodIn_app (goodIn_of _ (by decide +kernel)) ggX9_isFew_X9_many
theorem dX9_isFew_0 : decode cX9_isFew 0 = .ok (.aload_n 0, 1) := by decide +kernel
theorem dX9_isFew_1 : decode cX9_isFew 1 = .ok (.invokevirtual 100, 3) := by decide +kernel
theorem dX9_isFew_4 : decode cX9_isFew 4 = .ok (.bipush 16, 2) := by decide +kernel
theorem dX9_isFew_6 : decode cX9_isFew 6 = .ok (.if_icmp .gt 7, 3) := by decide +kernel
theorem dX9_isFew_9 : decode cX9_isFew 9 = .ok (.iconst 1, 1) := by decide +kernel
theorem dX9_isFew_10 : decode cX9_isFew 10 = .ok (.goto 4, 3) := by decide +kernel
theorem dX9_isFew_13 : decode cX9_isFew 13 = .ok (.iconst 0, 1) := by decide +kernel
theorem dX9_isFew_14 : decode cX9_isFew 14 = .ok (.ireturn, 1) := by decide +kernel
set_option maxRecDepth 20000 in
theorem ggX9_laysBasis_X9_many : GoodIn wsX9_laysBasis wsX9_many := goodIn_r _ [7, 8, 9, 10, 11, 6, 12, 13, 14, 15, 16, 17, 2, 18, 19, 20, 21, 22, 23, 24, 25, 26, 27, 28, 33, 34, 35, 36, 37, 38, 39, 40, 41, 42, 43, 44, 45, 46, 47, 48, 49, 50, 51, 52, 53, 54, 55, 56, 57, 58, 59] (by decide +kernel) (by decide +kernel)
set_option maxRecDepth 20000 in
theorem gX9_laysBasis_X9_many : GoodIn wsX9_laysBasis (wsV RX9 100 RX9 yX9_many wsX9_many) := goodIn_app (goodIn_of _ (by decide +kernel)) ggX9_laysBasis_X9_many
set_option maxRecDepth 20000 in
theorem ggX9_laysBasis_X9_wordOf : GoodIn wsX9_laysBasis wsX9_wordOf := goodIn_r _ [32, 18, 19, 20, 6, 21, 22, 23, 24, 25, 13, 33, 34, 35, 36, 37, 38, 39, 40, 41, 42, 43, 44, 45, 46, 47, 48, 49, 50, 51, 52, 53, 54, 55, 56, 57, 58, 59] (by decide +kernel) (by decide +kernel)
set_option maxRecDepth 20000 in
theorem gX9_laysBasis_X9_wordOf : GoodIn wsX9_laysBasis (wsV RX9 78 RX9 yX9_wordOf wsX9_wordOf) := goodIn_app (goodIn_of _ (by decide +kernel)) ggX9_laysBasis_X9_wordOf
theorem dX9_laysBasis_0 : decode cX9_laysBasis 0 = .ok (.aload_n 0, 1) := by decide +kernel
theorem dX9_laysBasis_1 : decode cX9_laysBasis 1 = .ok (.invokevirtual 100, 3) := by decide +kernel
theorem dX9_laysBasis_4 : decode cX9_laysBasis 4 = .ok (.istore_n 1, 1) := by decide +kernel
theorem dX9_laysBasis_5 : decode cX9_laysBasis 5 = .ok (.iconst 0, 1) := by decide +kernel
theorem dX9_laysBasis_6 : decode cX9_laysBasis 6 = .ok (.istore_n 2, 1) := by decide +kernel
theorem dX9_laysBasis_7 : decode cX9_laysBasis 7 = .ok (.iload_n 2, 1) := by decide +kernel
theorem dX9_laysBasis_8 : decode cX9_laysBasis 8 = .ok (.iload_n 1, 1) := by decide +kernel
theorem dX9_laysBasis_9 : decode cX9_laysBasis 9 = .ok (.if_icmp .ge 25, 3) := by decide +kernel
theorem dX9_laysBasis_12 : decode cX9_laysBasis 12 = .ok (.aload_n 0, 1) := by decide +kernel
theorem dX9_laysBasis_13 : decode cX9_laysBasis 13 = .ok (.getfield 22, 3) := by decide +kernel
theorem dX9_laysBasis_16 : decode cX9_laysBasis 16 = .ok (.iload_n 2, 1) := by decide +kernel
theorem dX9_laysBasis_17 : decode cX9_laysBasis 17 = .ok (.aload_n 0, 1) := by decide +kernel
theorem dX9_laysBasis_18 : decode cX9_laysBasis 18 = .ok (.aload_n 0, 1) := by decide +kernel
theorem dX9_laysBasis_19 : decode cX9_laysBasis 19 = .ok (.getfield 19, 3) := by decide +kernel
theorem dX9_laysBasis_22 : decode cX9_laysBasis 22 = .ok (.iload_n 2, 1) := by decide +kernel
theorem dX9_laysBasis_23 : decode cX9_laysBasis 23 = .ok (.iaload, 1) := by decide +kernel
theorem dX9_laysBasis_24 : decode cX9_laysBasis 24 = .ok (.invokevirtual 78, 3) := by decide +kernel
theorem dX9_laysBasis_27 : decode cX9_laysBasis 27 = .ok (.iastore, 1) := by decide +kernel
theorem dX9_laysBasis_28 : decode cX9_laysBasis 28 = .ok (.iinc 2 1, 3) := by decide +kernel
theorem dX9_laysBasis_31 : decode cX9_laysBasis 31 = .ok (.goto (-24), 3) := by decide +kernel
theorem dX9_laysBasis_34 : decode cX9_laysBasis 34 = .ok (.return_, 1) := by decide +kernel
set_option maxRecDepth 20000 in
theorem ggX9_finds_X9_many : GoodIn wsX9_finds wsX9_many := goodIn_r _ [9, 10, 11, 12, 13, 8, 14, 15, 16, 17, 18, 19, 20, 21, 22, 23, 24, 25, 26, 27, 28, 29, 30, 31, 47, 48, 49, 50, 51, 52, 53, 54, 55, 56, 57, 58, 59, 60, 61, 62, 63, 64, 65, 66, 67, 68, 69, 70, 71, 72, 73] (by decide +kernel) (by decide +kernel)
set_option maxRecDepth 20000 in
theorem gX9_finds_X9_many : GoodIn wsX9_finds (wsV RX9 100 RX9 yX9_many wsX9_many) := goodIn_app (goodIn_of _ (by decide +kernel)) ggX9_finds_X9_many
set_option maxRecDepth 20000 in
theorem ggX9_finds_X9_laysBasis : GoodIn wsX9_finds wsX9_laysBasis := goodIn_r _ [35, 4, 20, 5, 6, 7, 8, 9, 10, 11, 12, 13, 14, 15, 16, 17, 18, 19, 21, 22, 23, 24, 25, 26, 27, 28, 29, 30, 31, 36, 37, 38, 39, 47, 48, 49, 50, 51, 52, 53, 54, 55, 56, 57, 58, 59, 60, 61, 62, 63, 64, 65, 66, 67, 68, 69, 70, 71, 72, 73] (by decide +kernel) (by decide +kernel)
set_option maxRecDepth 20000 in
theorem gX9_finds_X9_laysBasis : GoodIn wsX9_finds (wsV RX9 176 RX9 yX9_laysBasis wsX9_laysBasis) := goodIn_app (goodIn_of _ (by decide +kernel)) ggX9_finds_X9_laysBasis
set_option maxRecDepth 20000 in
theorem ggX9_finds_X9_theWord : GoodIn wsX9_finds wsX9_theWord := goodIn_r _ [43, 15, 47, 48, 49, 50, 51, 52, 53, 54, 55, 56, 57, 58, 59, 60, 61, 62, 63, 64, 65, 66, 67, 68, 69, 70, 71, 72, 73] (by decide +kernel) (by decide +kernel)
set_option maxRecDepth 20000 in
theorem gX9_finds_X9_theWord : GoodIn wsX9_finds (wsV RX9 116 RX9 yX9_theWord wsX9_theWord) := goodIn_app (goodIn_of _ (by decide +kernel)) ggX9_finds_X9_theWord
set_option maxRecDepth 20000 in
theorem ggX9_finds_X9_bits : GoodIn wsX9_finds wsX9_bits := goodIn_r _ [31] (by decide +kernel) (by decide +kernel)
set_option maxRecDepth 20000 in
theorem gX9_finds_X9_bits : GoodIn wsX9_finds (va_wsS RX9 63 yX9_bits wsX9_bits) := goodIn_app (goodIn_of _ (by decide +kernel)) ggX9_finds_X9_bits
set_option maxRecDepth 20000 in
theorem ggX9_finds_X9_has : GoodIn wsX9_finds wsX9_has := goodIn_r _ [46] (by decide +kernel) (by decide +kernel)
set_option maxRecDepth 20000 in
theorem gX9_finds_X9_has : GoodIn wsX9_finds (va_wsS RX9 74 yX9_has wsX9_has) := goodIn_app (goodIn_of _ (by decide +kernel)) ggX9_finds_X9_has
theorem dX9_finds_0 : decode cX9_finds 0 = .ok (.iconst 0, 1) := by decide +kernel
theorem dX9_finds_1 : decode cX9_finds 1 = .ok (.istore_n 1, 1) := by decide +kernel
theorem dX9_finds_2 : decode cX9_finds 2 = .ok (.aload_n 0, 1) := by decide +kernel
theorem dX9_finds_3 : decode cX9_finds 3 = .ok (.invokevirtual 100, 3) := by decide +kernel
theorem dX9_finds_6 : decode cX9_finds 6 = .ok (.istore_n 2, 1) := by decide +kernel
theorem dX9_finds_7 : decode cX9_finds 7 = .ok (.aload_n 0, 1) := by decide +kernel
theorem dX9_finds_8 : decode cX9_finds 8 = .ok (.invokevirtual 176, 3) := by decide +kernel
theorem dX9_finds_11 : decode cX9_finds 11 = .ok (.aload_n 0, 1) := by decide +kernel
theorem dX9_finds_12 : decode cX9_finds 12 = .ok (.iconst 0, 1) := by decide +kernel
theorem dX9_finds_13 : decode cX9_finds 13 = .ok (.putfield 179, 3) := by decide +kernel
theorem dX9_finds_16 : decode cX9_finds 16 = .ok (.aload_n 0, 1) := by decide +kernel
theorem dX9_finds_17 : decode cX9_finds 17 = .ok (.aload_n 0, 1) := by decide +kernel
theorem dX9_finds_18 : decode cX9_finds 18 = .ok (.invokevirtual 116, 3) := by decide +kernel
theorem dX9_finds_21 : decode cX9_finds 21 = .ok (.invokestatic 63, 3) := by decide +kernel
theorem dX9_finds_24 : decode cX9_finds 24 = .ok (.putfield 182, 3) := by decide +kernel
theorem dX9_finds_27 : decode cX9_finds 27 = .ok (.aload_n 0, 1) := by decide +kernel
theorem dX9_finds_28 : decode cX9_finds 28 = .ok (.iconst 1, 1) := by decide +kernel
theorem dX9_finds_29 : decode cX9_finds 29 = .ok (.putfield 185, 3) := by decide +kernel
theorem dX9_finds_32 : decode cX9_finds 32 = .ok (.iconst 1, 1) := by decide +kernel
theorem dX9_finds_33 : decode cX9_finds 33 = .ok (.istore_n 3, 1) := by decide +kernel
theorem dX9_finds_34 : decode cX9_finds 34 = .ok (.iload_n 3, 1) := by decide +kernel
theorem dX9_finds_35 : decode cX9_finds 35 = .ok (.iconst 1, 1) := by decide +kernel
theorem dX9_finds_36 : decode cX9_finds 36 = .ok (.iload_n 2, 1) := by decide +kernel
theorem dX9_finds_37 : decode cX9_finds 37 = .ok (.ishl, 1) := by decide +kernel
theorem dX9_finds_38 : decode cX9_finds 38 = .ok (.if_icmp .ge 144, 3) := by decide +kernel
theorem dX9_finds_41 : decode cX9_finds 41 = .ok (.iload_n 3, 1) := by decide +kernel
theorem dX9_finds_42 : decode cX9_finds 42 = .ok (.iload_n 3, 1) := by decide +kernel
theorem dX9_finds_43 : decode cX9_finds 43 = .ok (.iconst 1, 1) := by decide +kernel
theorem dX9_finds_44 : decode cX9_finds 44 = .ok (.isub, 1) := by decide +kernel
theorem dX9_finds_45 : decode cX9_finds 45 = .ok (.ixor, 1) := by decide +kernel
theorem dX9_finds_46 : decode cX9_finds 46 = .ok (.istore 4, 2) := by decide +kernel
theorem dX9_finds_48 : decode cX9_finds 48 = .ok (.iconst 0, 1) := by decide +kernel
theorem dX9_finds_49 : decode cX9_finds 49 = .ok (.istore 5, 2) := by decide +kernel
theorem dX9_finds_51 : decode cX9_finds 51 = .ok (.iload 5, 2) := by decide +kernel
theorem dX9_finds_53 : decode cX9_finds 53 = .ok (.iload_n 2, 1) := by decide +kernel
theorem dX9_finds_54 : decode cX9_finds 54 = .ok (.if_icmp .ge 29, 3) := by decide +kernel
theorem dX9_finds_57 : decode cX9_finds 57 = .ok (.iload 4, 2) := by decide +kernel
theorem dX9_finds_59 : decode cX9_finds 59 = .ok (.iload 5, 2) := by decide +kernel
theorem dX9_finds_61 : decode cX9_finds 61 = .ok (.invokestatic 74, 3) := by decide +kernel
theorem dX9_finds_64 : decode cX9_finds 64 = .ok (.ifCond .eq 19, 3) := by decide +kernel
theorem dX9_finds_67 : decode cX9_finds 67 = .ok (.iload_n 1, 1) := by decide +kernel
theorem dX9_finds_68 : decode cX9_finds 68 = .ok (.aload_n 0, 1) := by decide +kernel
theorem dX9_finds_69 : decode cX9_finds 69 = .ok (.getfield 22, 3) := by decide +kernel
theorem dX9_finds_72 : decode cX9_finds 72 = .ok (.iload 5, 2) := by decide +kernel
theorem dX9_finds_74 : decode cX9_finds 74 = .ok (.iaload, 1) := by decide +kernel
theorem dX9_finds_75 : decode cX9_finds 75 = .ok (.ixor, 1) := by decide +kernel
theorem dX9_finds_76 : decode cX9_finds 76 = .ok (.istore_n 1, 1) := by decide +kernel
theorem dX9_finds_77 : decode cX9_finds 77 = .ok (.iinc 5 1, 3) := by decide +kernel
theorem dX9_finds_80 : decode cX9_finds 80 = .ok (.goto (-29), 3) := by decide +kernel
theorem dX9_finds_83 : decode cX9_finds 83 = .ok (.iload_n 1, 1) := by decide +kernel
theorem dX9_finds_84 : decode cX9_finds 84 = .ok (.aload_n 0, 1) := by decide +kernel
theorem dX9_finds_85 : decode cX9_finds 85 = .ok (.invokevirtual 116, 3) := by decide +kernel
theorem dX9_finds_88 : decode cX9_finds 88 = .ok (.ixor, 1) := by decide +kernel
theorem dX9_finds_89 : decode cX9_finds 89 = .ok (.invokestatic 63, 3) := by decide +kernel
theorem dX9_finds_92 : decode cX9_finds 92 = .ok (.istore 5, 2) := by decide +kernel
theorem dX9_finds_94 : decode cX9_finds 94 = .ok (.aload_n 0, 1) := by decide +kernel
theorem dX9_finds_95 : decode cX9_finds 95 = .ok (.iload 5, 2) := by decide +kernel
theorem dX9_finds_97 : decode cX9_finds 97 = .ok (.aload_n 0, 1) := by decide +kernel
theorem dX9_finds_98 : decode cX9_finds 98 = .ok (.getfield 182, 3) := by decide +kernel
theorem dX9_finds_101 : decode cX9_finds 101 = .ok (.if_icmp .ge 7, 3) := by decide +kernel
theorem dX9_finds_104 : decode cX9_finds 104 = .ok (.iconst 1, 1) := by decide +kernel
theorem dX9_finds_105 : decode cX9_finds 105 = .ok (.goto 25, 3) := by decide +kernel
theorem dX9_finds_108 : decode cX9_finds 108 = .ok (.iload 5, 2) := by decide +kernel
theorem dX9_finds_110 : decode cX9_finds 110 = .ok (.aload_n 0, 1) := by decide +kernel
theorem dX9_finds_111 : decode cX9_finds 111 = .ok (.getfield 182, 3) := by decide +kernel
theorem dX9_finds_114 : decode cX9_finds 114 = .ok (.if_icmp .ne 12, 3) := by decide +kernel
theorem dX9_finds_117 : decode cX9_finds 117 = .ok (.aload_n 0, 1) := by decide +kernel
theorem dX9_finds_118 : decode cX9_finds 118 = .ok (.getfield 185, 3) := by decide +kernel
theorem dX9_finds_121 : decode cX9_finds 121 = .ok (.iconst 1, 1) := by decide +kernel
theorem dX9_finds_122 : decode cX9_finds 122 = .ok (.iadd, 1) := by decide +kernel
theorem dX9_finds_123 : decode cX9_finds 123 = .ok (.goto 7, 3) := by decide +kernel
theorem dX9_finds_126 : decode cX9_finds 126 = .ok (.aload_n 0, 1) := by decide +kernel
theorem dX9_finds_127 : decode cX9_finds 127 = .ok (.getfield 185, 3) := by decide +kernel
theorem dX9_finds_130 : decode cX9_finds 130 = .ok (.putfield 185, 3) := by decide +kernel
theorem dX9_finds_133 : decode cX9_finds 133 = .ok (.aload_n 0, 1) := by decide +kernel
theorem dX9_finds_134 : decode cX9_finds 134 = .ok (.iload 5, 2) := by decide +kernel
theorem dX9_finds_136 : decode cX9_finds 136 = .ok (.aload_n 0, 1) := by decide +kernel
theorem dX9_finds_137 : decode cX9_finds 137 = .ok (.getfield 182, 3) := by decide +kernel
theorem dX9_finds_140 : decode cX9_finds 140 = .ok (.if_icmp .ge 7, 3) := by decide +kernel
theorem dX9_finds_143 : decode cX9_finds 143 = .ok (.iload_n 1, 1) := by decide +kernel
theorem dX9_finds_144 : decode cX9_finds 144 = .ok (.goto 7, 3) := by decide +kernel
theorem dX9_finds_147 : decode cX9_finds 147 = .ok (.aload_n 0, 1) := by decide +kernel
theorem dX9_finds_148 : decode cX9_finds 148 = .ok (.getfield 179, 3) := by decide +kernel
theorem dX9_finds_151 : decode cX9_finds 151 = .ok (.putfield 179, 3) := by decide +kernel
theorem dX9_finds_154 : decode cX9_finds 154 = .ok (.aload_n 0, 1) := by decide +kernel
theorem dX9_finds_155 : decode cX9_finds 155 = .ok (.iload 5, 2) := by decide +kernel
theorem dX9_finds_157 : decode cX9_finds 157 = .ok (.aload_n 0, 1) := by decide +kernel
theorem dX9_finds_158 : decode cX9_finds 158 = .ok (.getfield 182, 3) := by decide +kernel
theorem dX9_finds_161 : decode cX9_finds 161 = .ok (.if_icmp .ge 8, 3) := by decide +kernel
theorem dX9_finds_164 : decode cX9_finds 164 = .ok (.iload 5, 2) := by decide +kernel
theorem dX9_finds_166 : decode cX9_finds 166 = .ok (.goto 7, 3) := by decide +kernel
theorem dX9_finds_169 : decode cX9_finds 169 = .ok (.aload_n 0, 1) := by decide +kernel
theorem dX9_finds_170 : decode cX9_finds 170 = .ok (.getfield 182, 3) := by decide +kernel
theorem dX9_finds_173 : decode cX9_finds 173 = .ok (.putfield 182, 3) := by decide +kernel
theorem dX9_finds_176 : decode cX9_finds 176 = .ok (.iinc 3 1, 3) := by decide +kernel
theorem dX9_finds_179 : decode cX9_finds 179 = .ok (.goto (-145), 3) := by decide +kernel
theorem dX9_finds_182 : decode cX9_finds 182 = .ok (.return_, 1) := by decide +kernel
set_option maxRecDepth 20000 in
theorem ggX9_nearest_X9_in : GoodIn wsX9_nearest wsX9_in := goodIn_r _ [6] (by decide +kernel) (by decide +kernel)
set_option maxRecDepth 20000 in
theorem gX9_nearest_X9_in : GoodIn wsX9_nearest (va_wsS RX9 83 yX9_in wsX9_in) := goodIn_app (goodIn_of _ (by decide +kernel)) ggX9_nearest_X9_in
set_option maxRecDepth 20000 in
theorem ggX9_nearest_X9_bad : GoodIn wsX9_nearest wsX9_bad := goodIn_r _ [10, 11, 67, 68, 69, 70, 71, 72, 73, 74, 75, 76, 77, 78, 79, 80, 81, 82, 83, 84, 85, 86, 87, 88, 89, 90, 91, 92, 93] (by decide +kernel) (by decide +kernel)
set_option maxRecDepth 20000 in
theorem gX9_nearest_X9_bad : GoodIn wsX9_nearest (wsV RX9 90 RX9 yX9_bad wsX9_bad) := goodIn_app (goodIn_of _ (by decide +kernel)) ggX9_nearest_X9_bad
set_option maxRecDepth 20000 in
theorem ggX9_nearest_X9_isFew : GoodIn wsX9_nearest wsX9_isFew := goodIn_r _ [15, 16, 17, 18, 5, 19, 20, 21, 22, 23, 24, 25, 26, 27, 28, 29, 30, 31, 32, 33, 34, 35, 36, 37, 38, 39, 40, 41, 67, 68, 69, 70, 71, 72, 73, 74, 75, 76, 77, 78, 79, 80, 81, 82, 83, 84, 85, 86, 87, 88, 89, 90, 91, 92, 93] (by decide +kernel) (by decide +kernel)
set_option maxRecDepth 20000 in
theorem gX9_nearest_X9_isFew : GoodIn wsX9_nearest (wsV RX9 188 RX9 yX9_isFew wsX9_isFew) := goodIn_app (goodIn_of _ (by decide +kernel)) ggX9_nearest_X9_isFew
set_option maxRecDepth 20000 in
theorem ggX9_nearest_X9_no : GoodIn wsX9_nearest wsX9_no := goodIn_r _ [45, 11, 67, 68, 69, 70, 71, 72, 73, 74, 75, 76, 77, 78, 79, 80, 81, 82, 83, 84, 85, 86, 87, 88, 89, 90, 91, 92, 93] (by decide +kernel) (by decide +kernel)
set_option maxRecDepth 20000 in
theorem gX9_nearest_X9_no : GoodIn wsX9_nearest (wsV RX9 192 RX9 yX9_no wsX9_no) := goodIn_app (goodIn_of _ (by decide +kernel)) ggX9_nearest_X9_no
set_option maxRecDepth 20000 in
theorem ggX9_nearest_X9_finds : GoodIn wsX9_nearest wsX9_finds := goodIn_r _ [49, 50, 1, 2, 51, 16, 17, 18, 5, 19, 20, 21, 22, 23, 24, 25, 26, 27, 28, 29, 30, 31, 32, 33, 34, 35, 36, 37, 38, 39, 40, 41, 52, 53, 54, 55, 56, 57, 58, 59, 60, 61, 62, 63, 64, 65, 66, 67, 68, 69, 70, 71, 72, 73, 74, 75, 76, 77, 78, 79, 80, 81, 82, 83, 84, 85, 86, 87, 88, 89, 90, 91, 92, 93] (by decide +kernel) (by decide +kernel)
set_option maxRecDepth 20000 in
theorem gX9_nearest_X9_finds : GoodIn wsX9_nearest (wsV RX9 195 RX9 yX9_finds wsX9_finds) := goodIn_app (goodIn_of _ (by decide +kernel)) ggX9_nearest_X9_finds
theorem dX9_nearest_0 : decode cX9_nearest 0 = .ok (.iload_n 1, 1) := by decide +kernel
theorem dX9_nearest_1 : decode cX9_nearest 1 = .ok (.i2l, 1) := by decide +kernel
theorem dX9_nearest_2 : decode cX9_nearest 2 = .ok (.lconst 0, 1) := by decide +kernel
theorem dX9_nearest_3 : decode cX9_nearest 3 = .ok (.lconst 1, 1) := by decide +kernel
theorem dX9_nearest_4 : decode cX9_nearest 4 = .ok (.invokestatic 83, 3) := by decide +kernel
theorem dX9_nearest_7 : decode cX9_nearest 7 = .ok (.ifCond .ne 10, 3) := by decide +kernel
theorem dX9_nearest_10 : decode cX9_nearest 10 = .ok (.aload_n 0, 1) := by decide +kernel
theorem dX9_nearest_11 : decode cX9_nearest 11 = .ok (.bipush (-2), 2) := by decide +kernel
theorem dX9_nearest_13 : decode cX9_nearest 13 = .ok (.invokevirtual 90, 3) := by decide +kernel
theorem dX9_nearest_16 : decode cX9_nearest 16 = .ok (.ireturn, 1) := by decide +kernel
theorem dX9_nearest_17 : decode cX9_nearest 17 = .ok (.aload_n 0, 1) := by decide +kernel
theorem dX9_nearest_18 : decode cX9_nearest 18 = .ok (.invokevirtual 188, 3) := by decide +kernel
theorem dX9_nearest_21 : decode cX9_nearest 21 = .ok (.ifCond .ne 10, 3) := by decide +kernel
theorem dX9_nearest_24 : decode cX9_nearest 24 = .ok (.aload_n 0, 1) := by decide +kernel
theorem dX9_nearest_25 : decode cX9_nearest 25 = .ok (.bipush (-3), 2) := by decide +kernel
theorem dX9_nearest_27 : decode cX9_nearest 27 = .ok (.invokevirtual 192, 3) := by decide +kernel
theorem dX9_nearest_30 : decode cX9_nearest 30 = .ok (.ireturn, 1) := by decide +kernel
theorem dX9_nearest_31 : decode cX9_nearest 31 = .ok (.aload_n 0, 1) := by decide +kernel
theorem dX9_nearest_32 : decode cX9_nearest 32 = .ok (.invokevirtual 195, 3) := by decide +kernel
theorem dX9_nearest_35 : decode cX9_nearest 35 = .ok (.iload_n 1, 1) := by decide +kernel
theorem dX9_nearest_36 : decode cX9_nearest 36 = .ok (.ifCond .ne 10, 3) := by decide +kernel
theorem dX9_nearest_39 : decode cX9_nearest 39 = .ok (.aload_n 0, 1) := by decide +kernel
theorem dX9_nearest_40 : decode cX9_nearest 40 = .ok (.getfield 182, 3) := by decide +kernel
theorem dX9_nearest_43 : decode cX9_nearest 43 = .ok (.goto 7, 3) := by decide +kernel
theorem dX9_nearest_46 : decode cX9_nearest 46 = .ok (.aload_n 0, 1) := by decide +kernel
theorem dX9_nearest_47 : decode cX9_nearest 47 = .ok (.getfield 185, 3) := by decide +kernel
theorem dX9_nearest_50 : decode cX9_nearest 50 = .ok (.ireturn, 1) := by decide +kernel
set_option maxRecDepth 20000 in
theorem ggX9_near_X9_isFew : GoodIn wsX9_near wsX9_isFew := goodIn_r _ [6, 7, 8, 9, 5, 10, 11, 12, 13, 14, 15, 16, 17, 18, 19, 20, 21, 22, 23, 24, 25, 26, 27, 28, 29, 30, 31, 32, 60, 61, 62, 63, 64, 65, 66, 67, 68, 69, 70, 71, 72, 73, 74, 75, 76, 77, 78, 79, 80, 81, 82, 83, 84, 85, 86] (by decide +kernel) (by decide +kernel)
set_option maxRecDepth 20000 in
theorem gX9_near_X9_isFew : GoodIn wsX9_near (wsV RX9 188 RX9 yX9_isFew wsX9_isFew) := goodIn_app (goodIn_of _ (by decide +kernel)) ggX9_near_X9_isFew
set_option maxRecDepth 20000 in
theorem ggX9_near_X9_no : GoodIn wsX9_near wsX9_no := goodIn_r _ [36, 37, 60, 61, 62, 63, 64, 65, 66, 67, 68, 69, 70, 71, 72, 73, 74, 75, 76, 77, 78, 79, 80, 81, 82, 83, 84, 85, 86] (by decide +kernel) (by decide +kernel)
set_option maxRecDepth 20000 in
theorem gX9_near_X9_no : GoodIn wsX9_near (wsV RX9 192 RX9 yX9_no wsX9_no) := goodIn_app (goodIn_of _ (by decide +kernel)) ggX9_near_X9_no
set_option maxRecDepth 20000 in
theorem ggX9_near_X9_finds : GoodIn wsX9_near wsX9_finds := goodIn_r _ [41, 1, 42, 43, 44, 7, 8, 9, 5, 10, 11, 12, 13, 14, 15, 16, 17, 18, 19, 20, 21, 22, 23, 24, 25, 26, 27, 28, 29, 30, 31, 32, 45, 46, 47, 48, 49, 50, 51, 52, 53, 54, 55, 56, 57, 58, 59, 60, 61, 62, 63, 64, 65, 66, 67, 68, 69, 70, 71, 72, 73, 74, 75, 76, 77, 78, 79, 80, 81, 82, 83, 84, 85, 86] (by decide +kernel) (by decide +kernel)
set_option maxRecDepth 20000 in
theorem gX9_near_X9_finds : GoodIn wsX9_near (wsV RX9 195 RX9 yX9_finds wsX9_finds) := goodIn_app (goodIn_of _ (by decide +kernel)) ggX9_near_X9_finds
theorem dX9_near_0 : decode cX9_near 0 = .ok (.aload_n 0, 1) := by decide +kernel
theorem dX9_near_1 : decode cX9_near 1 = .ok (.invokevirtual 188, 3) := by decide +kernel
theorem dX9_near_4 : decode cX9_near 4 = .ok (.ifCond .ne 9, 3) := by decide +kernel
theorem dX9_near_7 : decode cX9_near 7 = .ok (.aload_n 0, 1) := by decide +kernel
theorem dX9_near_8 : decode cX9_near 8 = .ok (.iconst 0, 1) := by decide +kernel
theorem dX9_near_9 : decode cX9_near 9 = .ok (.invokevirtual 192, 3) := by decide +kernel
theorem dX9_near_12 : decode cX9_near 12 = .ok (.ireturn, 1) := by decide +kernel
theorem dX9_near_13 : decode cX9_near 13 = .ok (.aload_n 0, 1) := by decide +kernel
theorem dX9_near_14 : decode cX9_near 14 = .ok (.invokevirtual 195, 3) := by decide +kernel
theorem dX9_near_17 : decode cX9_near 17 = .ok (.aload_n 0, 1) := by decide +kernel
theorem dX9_near_18 : decode cX9_near 18 = .ok (.getfield 179, 3) := by decide +kernel
theorem dX9_near_21 : decode cX9_near 21 = .ok (.ireturn, 1) := by decide +kernel
theorem dX9_softOf_0 : decode cX9_softOf 0 = .ok (.aload_n 0, 1) := by decide +kernel
theorem dX9_softOf_1 : decode cX9_softOf 1 = .ok (.getfield 7, 3) := by decide +kernel
theorem dX9_softOf_4 : decode cX9_softOf 4 = .ok (.iconst 3, 1) := by decide +kernel
theorem dX9_softOf_5 : decode cX9_softOf 5 = .ok (.iload_n 1, 1) := by decide +kernel
theorem dX9_softOf_6 : decode cX9_softOf 6 = .ok (.iadd, 1) := by decide +kernel
theorem dX9_softOf_7 : decode cX9_softOf 7 = .ok (.iaload, 1) := by decide +kernel
theorem dX9_softOf_8 : decode cX9_softOf 8 = .ok (.ireturn, 1) := by decide +kernel
set_option maxRecDepth 20000 in
theorem ggX9_softens_X9_softOf : GoodIn wsX9_softens wsX9_softOf := goodIn_r _ [6, 1, 7, 8, 9, 10, 11, 12, 13, 14, 15, 16, 17, 18, 19, 20, 21, 22, 23, 24, 25, 26, 27, 28, 29, 30, 31, 32, 33] (by decide +kernel) (by decide +kernel)
set_option maxRecDepth 20000 in
theorem gX9_softens_X9_softOf : GoodIn wsX9_softens (wsV RX9 198 RX9 yX9_softOf wsX9_softOf) := goodIn_app (goodIn_of _ (by decide +kernel)) ggX9_softens_X9_softOf
theorem dX9_softens_0 : decode cX9_softens 0 = .ok (.aload_n 0, 1) := by decide +kernel
theorem dX9_softens_1 : decode cX9_softens 1 = .ok (.iload_n 1, 1) := by decide +kernel
theorem dX9_softens_2 : decode cX9_softens 2 = .ok (.invokevirtual 198, 3) := by decide +kernel
theorem dX9_softens_5 : decode cX9_softens 5 = .ok (.istore_n 3, 1) := by decide +kernel
theorem dX9_softens_6 : decode cX9_softens 6 = .ok (.aload_n 0, 1) := by decide +kernel
theorem dX9_softens_7 : decode cX9_softens 7 = .ok (.getfield 7, 3) := by decide +kernel
theorem dX9_softens_10 : decode cX9_softens 10 = .ok (.iconst 3, 1) := by decide +kernel
theorem dX9_softens_11 : decode cX9_softens 11 = .ok (.iload_n 1, 1) := by decide +kernel
theorem dX9_softens_12 : decode cX9_softens 12 = .ok (.iadd, 1) := by decide +kernel
theorem dX9_softens_13 : decode cX9_softens 13 = .ok (.iload_n 2, 1) := by decide +kernel
theorem dX9_softens_14 : decode cX9_softens 14 = .ok (.iastore, 1) := by decide +kernel
theorem dX9_softens_15 : decode cX9_softens 15 = .ok (.iload_n 3, 1) := by decide +kernel
theorem dX9_softens_16 : decode cX9_softens 16 = .ok (.ireturn, 1) := by decide +kernel
set_option maxRecDepth 20000 in
theorem ggX9_soft_X9_isPlace : GoodIn wsX9_soft wsX9_isPlace := goodIn_r _ [7, 8, 9, 10, 6, 11, 12, 13, 14, 15, 16, 17, 18, 19, 39, 40, 41, 42, 43, 44, 45, 46, 47, 48, 49, 50, 51, 52, 53, 54, 55, 56, 57, 58, 59, 60, 61, 62, 63, 64, 65] (by decide +kernel) (by decide +kernel)
set_option maxRecDepth 20000 in
theorem gX9_soft_X9_isPlace : GoodIn wsX9_soft (wsV RX9 122 RX9 yX9_isPlace wsX9_isPlace) := goodIn_app (goodIn_of _ (by decide +kernel)) ggX9_soft_X9_isPlace
set_option maxRecDepth 20000 in
theorem ggX9_soft_X9_in : GoodIn wsX9_soft wsX9_in := goodIn_r _ [19] (by decide +kernel) (by decide +kernel)
set_option maxRecDepth 20000 in
theorem gX9_soft_X9_in : GoodIn wsX9_soft (va_wsS RX9 83 yX9_in wsX9_in) := goodIn_app (goodIn_of _ (by decide +kernel)) ggX9_soft_X9_in
set_option maxRecDepth 20000 in
theorem ggX9_soft_X9_bad : GoodIn wsX9_soft wsX9_bad := goodIn_r _ [23, 24, 39, 40, 41, 42, 43, 44, 45, 46, 47, 48, 49, 50, 51, 52, 53, 54, 55, 56, 57, 58, 59, 60, 61, 62, 63, 64, 65] (by decide +kernel) (by decide +kernel)
set_option maxRecDepth 20000 in
theorem gX9_soft_X9_bad : GoodIn wsX9_soft (wsV RX9 90 RX9 yX9_bad wsX9_bad) := goodIn_app (goodIn_of _ (by decide +kernel)) ggX9_soft_X9_bad
set_option maxRecDepth 20000 in
theorem ggX9_soft_X9_keep : GoodIn wsX9_soft wsX9_keep := goodIn_r _ [28, 29, 30, 16, 39, 40, 41, 42, 43, 44, 45, 46, 47, 48, 49, 50, 51, 52, 53, 54, 55, 56, 57, 58, 59, 60, 61, 62, 63, 64, 65] (by decide +kernel) (by decide +kernel)
set_option maxRecDepth 20000 in
theorem gX9_soft_X9_keep : GoodIn wsX9_soft (wsV RX9 93 RX9 yX9_keep wsX9_keep) := goodIn_app (goodIn_of _ (by decide +kernel)) ggX9_soft_X9_keep
set_option maxRecDepth 20000 in
theorem ggX9_soft_X9_softens : GoodIn wsX9_soft wsX9_softens := goodIn_r _ [34, 16, 35, 36, 37, 6, 38, 39, 40, 41, 42, 43, 44, 45, 46, 47, 48, 49, 50, 51, 52, 53, 54, 55, 56, 57, 58, 59, 60, 61, 62, 63, 64, 65] (by decide +kernel) (by decide +kernel)
set_option maxRecDepth 20000 in
theorem gX9_soft_X9_softens : GoodIn wsX9_soft (wsV RX9 205 RX9 yX9_softens wsX9_softens) := goodIn_app (goodIn_of _ (by decide +kernel)) ggX9_soft_X9_softens
theorem dX9_soft_0 : decode cX9_soft 0 = .ok (.aload_n 0, 1) := by decide +kernel
theorem dX9_soft_1 : decode cX9_soft 1 = .ok (.iload_n 1, 1) := by decide +kernel
theorem dX9_soft_2 : decode cX9_soft 2 = .ok (.invokevirtual 122, 3) := by decide +kernel
theorem dX9_soft_5 : decode cX9_soft 5 = .ok (.ifCond .eq 17, 3) := by decide +kernel
theorem dX9_soft_8 : decode cX9_soft 8 = .ok (.iload_n 2, 1) := by decide +kernel
theorem dX9_soft_9 : decode cX9_soft 9 = .ok (.i2l, 1) := by decide +kernel
theorem dX9_soft_10 : decode cX9_soft 10 = .ok (.ldc2_w 201, 3) := by decide +kernel
theorem dX9_soft_13 : decode cX9_soft 13 = .ok (.ldc2_w 203, 3) := by decide +kernel
theorem dX9_soft_16 : decode cX9_soft 16 = .ok (.invokestatic 83, 3) := by decide +kernel
theorem dX9_soft_19 : decode cX9_soft 19 = .ok (.ifCond .ne 11, 3) := by decide +kernel
theorem dX9_soft_22 : decode cX9_soft 22 = .ok (.aload_n 0, 1) := by decide +kernel
theorem dX9_soft_23 : decode cX9_soft 23 = .ok (.sipush (-1000), 3) := by decide +kernel
theorem dX9_soft_26 : decode cX9_soft 26 = .ok (.invokevirtual 90, 3) := by decide +kernel
theorem dX9_soft_29 : decode cX9_soft 29 = .ok (.ireturn, 1) := by decide +kernel
theorem dX9_soft_30 : decode cX9_soft 30 = .ok (.aload_n 0, 1) := by decide +kernel
theorem dX9_soft_31 : decode cX9_soft 31 = .ok (.invokevirtual 93, 3) := by decide +kernel
theorem dX9_soft_34 : decode cX9_soft 34 = .ok (.aload_n 0, 1) := by decide +kernel
theorem dX9_soft_35 : decode cX9_soft 35 = .ok (.iload_n 1, 1) := by decide +kernel
theorem dX9_soft_36 : decode cX9_soft 36 = .ok (.iload_n 2, 1) := by decide +kernel
theorem dX9_soft_37 : decode cX9_soft 37 = .ok (.invokevirtual 205, 3) := by decide +kernel
theorem dX9_soft_40 : decode cX9_soft 40 = .ok (.ireturn, 1) := by decide +kernel
set_option maxRecDepth 20000 in
theorem ggX9_harden_X9_in : GoodIn wsX9_harden wsX9_in := goodIn_r _ [6] (by decide +kernel) (by decide +kernel)
set_option maxRecDepth 20000 in
theorem gX9_harden_X9_in : GoodIn wsX9_harden (va_wsS RX9 83 yX9_in wsX9_in) := goodIn_app (goodIn_of _ (by decide +kernel)) ggX9_harden_X9_in
set_option maxRecDepth 20000 in
theorem ggX9_harden_X9_bad : GoodIn wsX9_harden wsX9_bad := goodIn_r _ [10, 11, 33, 34, 35, 36, 37, 38, 39, 40, 41, 42, 43, 44, 45, 46, 47, 48, 49, 50, 51, 52, 53, 54, 55, 56, 57, 58, 59] (by decide +kernel) (by decide +kernel)
set_option maxRecDepth 20000 in
theorem gX9_harden_X9_bad : GoodIn wsX9_harden (wsV RX9 90 RX9 yX9_bad wsX9_bad) := goodIn_app (goodIn_of _ (by decide +kernel)) ggX9_harden_X9_bad
set_option maxRecDepth 20000 in
theorem ggX9_harden_X9_keep : GoodIn wsX9_harden wsX9_keep := goodIn_r _ [15, 16, 17, 2, 33, 34, 35, 36, 37, 38, 39, 40, 41, 42, 43, 44, 45, 46, 47, 48, 49, 50, 51, 52, 53, 54, 55, 56, 57, 58, 59] (by decide +kernel) (by decide +kernel)
set_option maxRecDepth 20000 in
theorem gX9_harden_X9_keep : GoodIn wsX9_harden (wsV RX9 93 RX9 yX9_keep wsX9_keep) := goodIn_app (goodIn_of _ (by decide +kernel)) ggX9_harden_X9_keep
set_option maxRecDepth 20000 in
theorem ggX9_harden_X9_places : GoodIn wsX9_harden wsX9_places := goodIn_r _ [21, 22, 23, 24, 5, 25, 2, 33, 34, 35, 36, 37, 38, 39, 40, 41, 42, 43, 44, 45, 46, 47, 48, 49, 50, 51, 52, 53, 54, 55, 56, 57, 58, 59] (by decide +kernel) (by decide +kernel)
set_option maxRecDepth 20000 in
theorem gX9_harden_X9_places : GoodIn wsX9_harden (wsV RX9 60 RX9 yX9_places wsX9_places) := goodIn_app (goodIn_of _ (by decide +kernel)) ggX9_harden_X9_places
set_option maxRecDepth 20000 in
theorem ggX9_harden_X9_theWord : GoodIn wsX9_harden wsX9_theWord := goodIn_r _ [29, 2, 33, 34, 35, 36, 37, 38, 39, 40, 41, 42, 43, 44, 45, 46, 47, 48, 49, 50, 51, 52, 53, 54, 55, 56, 57, 58, 59] (by decide +kernel) (by decide +kernel)
set_option maxRecDepth 20000 in
theorem gX9_harden_X9_theWord : GoodIn wsX9_harden (wsV RX9 116 RX9 yX9_theWord wsX9_theWord) := goodIn_app (goodIn_of _ (by decide +kernel)) ggX9_harden_X9_theWord
set_option maxRecDepth 20000 in
theorem ggX9_harden_X9_has : GoodIn wsX9_harden wsX9_has := goodIn_r _ [32] (by decide +kernel) (by decide +kernel)
set_option maxRecDepth 20000 in
theorem gX9_harden_X9_has : GoodIn wsX9_harden (va_wsS RX9 74 yX9_has wsX9_has) := goodIn_app (goodIn_of _ (by decide +kernel)) ggX9_harden_X9_has
theorem dX9_harden_0 : decode cX9_harden 0 = .ok (.iload_n 1, 1) := by decide +kernel
theorem dX9_harden_1 : decode cX9_harden 1 = .ok (.i2l, 1) := by decide +kernel
theorem dX9_harden_2 : decode cX9_harden 2 = .ok (.lconst 1, 1) := by decide +kernel
theorem dX9_harden_3 : decode cX9_harden 3 = .ok (.ldc2_w 203, 3) := by decide +kernel
theorem dX9_harden_6 : decode cX9_harden 6 = .ok (.invokestatic 83, 3) := by decide +kernel
theorem dX9_harden_9 : decode cX9_harden 9 = .ok (.ifCond .ne 10, 3) := by decide +kernel
theorem dX9_harden_12 : decode cX9_harden 12 = .ok (.aload_n 0, 1) := by decide +kernel
theorem dX9_harden_13 : decode cX9_harden 13 = .ok (.bipush (-2), 2) := by decide +kernel
theorem dX9_harden_15 : decode cX9_harden 15 = .ok (.invokevirtual 90, 3) := by decide +kernel
theorem dX9_harden_18 : decode cX9_harden 18 = .ok (.ireturn, 1) := by decide +kernel
theorem dX9_harden_19 : decode cX9_harden 19 = .ok (.aload_n 0, 1) := by decide +kernel
theorem dX9_harden_20 : decode cX9_harden 20 = .ok (.invokevirtual 93, 3) := by decide +kernel
theorem dX9_harden_23 : decode cX9_harden 23 = .ok (.iconst 0, 1) := by decide +kernel
theorem dX9_harden_24 : decode cX9_harden 24 = .ok (.istore_n 2, 1) := by decide +kernel
theorem dX9_harden_25 : decode cX9_harden 25 = .ok (.iload_n 2, 1) := by decide +kernel
theorem dX9_harden_26 : decode cX9_harden 26 = .ok (.aload_n 0, 1) := by decide +kernel
theorem dX9_harden_27 : decode cX9_harden 27 = .ok (.invokevirtual 60, 3) := by decide +kernel
theorem dX9_harden_30 : decode cX9_harden 30 = .ok (.if_icmp .ge 34, 3) := by decide +kernel
theorem dX9_harden_33 : decode cX9_harden 33 = .ok (.aload_n 0, 1) := by decide +kernel
theorem dX9_harden_34 : decode cX9_harden 34 = .ok (.getfield 7, 3) := by decide +kernel
theorem dX9_harden_37 : decode cX9_harden 37 = .ok (.iconst 3, 1) := by decide +kernel
theorem dX9_harden_38 : decode cX9_harden 38 = .ok (.iload_n 2, 1) := by decide +kernel
theorem dX9_harden_39 : decode cX9_harden 39 = .ok (.iadd, 1) := by decide +kernel
theorem dX9_harden_40 : decode cX9_harden 40 = .ok (.aload_n 0, 1) := by decide +kernel
theorem dX9_harden_41 : decode cX9_harden 41 = .ok (.invokevirtual 116, 3) := by decide +kernel
theorem dX9_harden_44 : decode cX9_harden 44 = .ok (.iload_n 2, 1) := by decide +kernel
theorem dX9_harden_45 : decode cX9_harden 45 = .ok (.invokestatic 74, 3) := by decide +kernel
theorem dX9_harden_48 : decode cX9_harden 48 = .ok (.ifCond .eq 8, 3) := by decide +kernel
theorem dX9_harden_51 : decode cX9_harden 51 = .ok (.iload_n 1, 1) := by decide +kernel
theorem dX9_harden_52 : decode cX9_harden 52 = .ok (.ineg, 1) := by decide +kernel
theorem dX9_harden_53 : decode cX9_harden 53 = .ok (.goto 4, 3) := by decide +kernel
theorem dX9_harden_56 : decode cX9_harden 56 = .ok (.iload_n 1, 1) := by decide +kernel
theorem dX9_harden_57 : decode cX9_harden 57 = .ok (.iastore, 1) := by decide +kernel
theorem dX9_harden_58 : decode cX9_harden 58 = .ok (.iinc 2 1, 3) := by decide +kernel
theorem dX9_harden_61 : decode cX9_harden 61 = .ok (.goto (-36), 3) := by decide +kernel
theorem dX9_harden_64 : decode cX9_harden 64 = .ok (.iload_n 1, 1) := by decide +kernel
theorem dX9_harden_65 : decode cX9_harden 65 = .ok (.ireturn, 1) := by decide +kernel
set_option maxRecDepth 20000 in
theorem ggX9_plain_X9_allOf : GoodIn wsX9_plain wsX9_allOf := goodIn_r _ [7] (by decide +kernel) (by decide +kernel)
set_option maxRecDepth 20000 in
theorem gX9_plain_X9_allOf : GoodIn wsX9_plain (va_wsS RX9 106 yX9_allOf wsX9_allOf) := goodIn_app (goodIn_of _ (by decide +kernel)) ggX9_plain_X9_allOf
theorem dX9_plain_0 : decode cX9_plain 0 = .ok (.iconst 0, 1) := by decide +kernel
theorem dX9_plain_1 : decode cX9_plain 1 = .ok (.istore_n 2, 1) := by decide +kernel
theorem dX9_plain_2 : decode cX9_plain 2 = .ok (.iconst 0, 1) := by decide +kernel
theorem dX9_plain_3 : decode cX9_plain 3 = .ok (.istore_n 3, 1) := by decide +kernel
theorem dX9_plain_4 : decode cX9_plain 4 = .ok (.iconst 0, 1) := by decide +kernel
theorem dX9_plain_5 : decode cX9_plain 5 = .ok (.istore 4, 2) := by decide +kernel
theorem dX9_plain_7 : decode cX9_plain 7 = .ok (.iload 4, 2) := by decide +kernel
theorem dX9_plain_9 : decode cX9_plain 9 = .ok (.iconst 1, 1) := by decide +kernel
theorem dX9_plain_10 : decode cX9_plain 10 = .ok (.aload_n 0, 1) := by decide +kernel
theorem dX9_plain_11 : decode cX9_plain 11 = .ok (.getfield 31, 3) := by decide +kernel
theorem dX9_plain_14 : decode cX9_plain 14 = .ok (.iload_n 1, 1) := by decide +kernel
theorem dX9_plain_15 : decode cX9_plain 15 = .ok (.iaload, 1) := by decide +kernel
theorem dX9_plain_16 : decode cX9_plain 16 = .ok (.ishl, 1) := by decide +kernel
theorem dX9_plain_17 : decode cX9_plain 17 = .ok (.if_icmp .ge 50, 3) := by decide +kernel
theorem dX9_plain_20 : decode cX9_plain 20 = .ok (.iload_n 3, 1) := by decide +kernel
theorem dX9_plain_21 : decode cX9_plain 21 = .ok (.aload_n 0, 1) := by decide +kernel
theorem dX9_plain_22 : decode cX9_plain 22 = .ok (.getfield 25, 3) := by decide +kernel
theorem dX9_plain_25 : decode cX9_plain 25 = .ok (.bipush 32, 2) := by decide +kernel
theorem dX9_plain_27 : decode cX9_plain 27 = .ok (.iload_n 1, 1) := by decide +kernel
theorem dX9_plain_28 : decode cX9_plain 28 = .ok (.imul, 1) := by decide +kernel
theorem dX9_plain_29 : decode cX9_plain 29 = .ok (.iload 4, 2) := by decide +kernel
theorem dX9_plain_31 : decode cX9_plain 31 = .ok (.iadd, 1) := by decide +kernel
theorem dX9_plain_32 : decode cX9_plain 32 = .ok (.iaload, 1) := by decide +kernel
theorem dX9_plain_33 : decode cX9_plain 33 = .ok (.iadd, 1) := by decide +kernel
theorem dX9_plain_34 : decode cX9_plain 34 = .ok (.istore_n 3, 1) := by decide +kernel
theorem dX9_plain_35 : decode cX9_plain 35 = .ok (.iload_n 2, 1) := by decide +kernel
theorem dX9_plain_36 : decode cX9_plain 36 = .ok (.aload_n 0, 1) := by decide +kernel
theorem dX9_plain_37 : decode cX9_plain 37 = .ok (.getfield 25, 3) := by decide +kernel
theorem dX9_plain_40 : decode cX9_plain 40 = .ok (.bipush 32, 2) := by decide +kernel
theorem dX9_plain_42 : decode cX9_plain 42 = .ok (.iload_n 1, 1) := by decide +kernel
theorem dX9_plain_43 : decode cX9_plain 43 = .ok (.imul, 1) := by decide +kernel
theorem dX9_plain_44 : decode cX9_plain 44 = .ok (.iload 4, 2) := by decide +kernel
theorem dX9_plain_46 : decode cX9_plain 46 = .ok (.iadd, 1) := by decide +kernel
theorem dX9_plain_47 : decode cX9_plain 47 = .ok (.iaload, 1) := by decide +kernel
theorem dX9_plain_48 : decode cX9_plain 48 = .ok (.ifCond .ge 10, 3) := by decide +kernel
theorem dX9_plain_51 : decode cX9_plain 51 = .ok (.iconst 1, 1) := by decide +kernel
theorem dX9_plain_52 : decode cX9_plain 52 = .ok (.iload 4, 2) := by decide +kernel
theorem dX9_plain_54 : decode cX9_plain 54 = .ok (.ishl, 1) := by decide +kernel
theorem dX9_plain_55 : decode cX9_plain 55 = .ok (.goto 4, 3) := by decide +kernel
theorem dX9_plain_58 : decode cX9_plain 58 = .ok (.iconst 0, 1) := by decide +kernel
theorem dX9_plain_59 : decode cX9_plain 59 = .ok (.ior, 1) := by decide +kernel
theorem dX9_plain_60 : decode cX9_plain 60 = .ok (.istore_n 2, 1) := by decide +kernel
theorem dX9_plain_61 : decode cX9_plain 61 = .ok (.iinc 4 1, 3) := by decide +kernel
theorem dX9_plain_64 : decode cX9_plain 64 = .ok (.goto (-57), 3) := by decide +kernel
theorem dX9_plain_67 : decode cX9_plain 67 = .ok (.aload_n 0, 1) := by decide +kernel
theorem dX9_plain_68 : decode cX9_plain 68 = .ok (.getfield 28, 3) := by decide +kernel
theorem dX9_plain_71 : decode cX9_plain 71 = .ok (.iload_n 1, 1) := by decide +kernel
theorem dX9_plain_72 : decode cX9_plain 72 = .ok (.iaload, 1) := by decide +kernel
theorem dX9_plain_73 : decode cX9_plain 73 = .ok (.ifCond .le 7, 3) := by decide +kernel
theorem dX9_plain_76 : decode cX9_plain 76 = .ok (.iload_n 2, 1) := by decide +kernel
theorem dX9_plain_77 : decode cX9_plain 77 = .ok (.goto 22, 3) := by decide +kernel
theorem dX9_plain_80 : decode cX9_plain 80 = .ok (.iload_n 3, 1) := by decide +kernel
theorem dX9_plain_81 : decode cX9_plain 81 = .ok (.ifCond .ge 17, 3) := by decide +kernel
theorem dX9_plain_84 : decode cX9_plain 84 = .ok (.iconst 1, 1) := by decide +kernel
theorem dX9_plain_85 : decode cX9_plain 85 = .ok (.aload_n 0, 1) := by decide +kernel
theorem dX9_plain_86 : decode cX9_plain 86 = .ok (.getfield 31, 3) := by decide +kernel
theorem dX9_plain_89 : decode cX9_plain 89 = .ok (.iload_n 1, 1) := by decide +kernel
theorem dX9_plain_90 : decode cX9_plain 90 = .ok (.iaload, 1) := by decide +kernel
theorem dX9_plain_91 : decode cX9_plain 91 = .ok (.ishl, 1) := by decide +kernel
theorem dX9_plain_92 : decode cX9_plain 92 = .ok (.invokestatic 106, 3) := by decide +kernel
theorem dX9_plain_95 : decode cX9_plain 95 = .ok (.goto 4, 3) := by decide +kernel
theorem dX9_plain_98 : decode cX9_plain 98 = .ok (.iconst 0, 1) := by decide +kernel
theorem dX9_plain_99 : decode cX9_plain 99 = .ok (.ireturn, 1) := by decide +kernel
set_option maxRecDepth 20000 in
theorem ggX9_lesser_X9_far : GoodIn wsX9_lesser wsX9_far := goodIn_r _ [4] (by decide +kernel) (by decide +kernel)
set_option maxRecDepth 20000 in
theorem gX9_lesser_X9_far : GoodIn wsX9_lesser (va_wsS RX9 173 yX9_far wsX9_far) := goodIn_app (goodIn_of _ (by decide +kernel)) ggX9_lesser_X9_far
theorem dX9_lesser_0 : decode cX9_lesser 0 = .ok (.iload_n 0, 1) := by decide +kernel
theorem dX9_lesser_1 : decode cX9_lesser 1 = .ok (.invokestatic 173, 3) := by decide +kernel
theorem dX9_lesser_4 : decode cX9_lesser 4 = .ok (.iload_n 1, 1) := by decide +kernel
theorem dX9_lesser_5 : decode cX9_lesser 5 = .ok (.invokestatic 173, 3) := by decide +kernel
theorem dX9_lesser_8 : decode cX9_lesser 8 = .ok (.if_icmp .ge 10, 3) := by decide +kernel
theorem dX9_lesser_11 : decode cX9_lesser 11 = .ok (.iload_n 0, 1) := by decide +kernel
theorem dX9_lesser_12 : decode cX9_lesser 12 = .ok (.invokestatic 173, 3) := by decide +kernel
theorem dX9_lesser_15 : decode cX9_lesser 15 = .ok (.goto 7, 3) := by decide +kernel
theorem dX9_lesser_18 : decode cX9_lesser 18 = .ok (.iload_n 1, 1) := by decide +kernel
theorem dX9_lesser_19 : decode cX9_lesser 19 = .ok (.invokestatic 173, 3) := by decide +kernel
theorem dX9_lesser_22 : decode cX9_lesser 22 = .ok (.istore_n 2, 1) := by decide +kernel
theorem dX9_lesser_23 : decode cX9_lesser 23 = .ok (.iload_n 0, 1) := by decide +kernel
theorem dX9_lesser_24 : decode cX9_lesser 24 = .ok (.ifCond .ge 7, 3) := by decide +kernel
theorem dX9_lesser_27 : decode cX9_lesser 27 = .ok (.iconst 1, 1) := by decide +kernel
theorem dX9_lesser_28 : decode cX9_lesser 28 = .ok (.goto 4, 3) := by decide +kernel
theorem dX9_lesser_31 : decode cX9_lesser 31 = .ok (.iconst 0, 1) := by decide +kernel
theorem dX9_lesser_32 : decode cX9_lesser 32 = .ok (.iload_n 1, 1) := by decide +kernel
theorem dX9_lesser_33 : decode cX9_lesser 33 = .ok (.ifCond .ge 7, 3) := by decide +kernel
theorem dX9_lesser_36 : decode cX9_lesser 36 = .ok (.iconst 1, 1) := by decide +kernel
theorem dX9_lesser_37 : decode cX9_lesser 37 = .ok (.goto 4, 3) := by decide +kernel
theorem dX9_lesser_40 : decode cX9_lesser 40 = .ok (.iconst 0, 1) := by decide +kernel
theorem dX9_lesser_41 : decode cX9_lesser 41 = .ok (.if_icmp .ne 7, 3) := by decide +kernel
theorem dX9_lesser_44 : decode cX9_lesser 44 = .ok (.iload_n 2, 1) := by decide +kernel
theorem dX9_lesser_45 : decode cX9_lesser 45 = .ok (.goto 5, 3) := by decide +kernel
theorem dX9_lesser_48 : decode cX9_lesser 48 = .ok (.iload_n 2, 1) := by decide +kernel
theorem dX9_lesser_49 : decode cX9_lesser 49 = .ok (.ineg, 1) := by decide +kernel
theorem dX9_lesser_50 : decode cX9_lesser 50 = .ok (.ireturn, 1) := by decide +kernel
theorem dX9_begins_0 : decode cX9_begins 0 = .ok (.aload_n 0, 1) := by decide +kernel
theorem dX9_begins_1 : decode cX9_begins 1 = .ok (.getfield 28, 3) := by decide +kernel
theorem dX9_begins_4 : decode cX9_begins 4 = .ok (.iload_n 1, 1) := by decide +kernel
theorem dX9_begins_5 : decode cX9_begins 5 = .ok (.iload_n 2, 1) := by decide +kernel
theorem dX9_begins_6 : decode cX9_begins 6 = .ok (.iastore, 1) := by decide +kernel
theorem dX9_begins_7 : decode cX9_begins 7 = .ok (.aload_n 0, 1) := by decide +kernel
theorem dX9_begins_8 : decode cX9_begins 8 = .ok (.getfield 31, 3) := by decide +kernel
theorem dX9_begins_11 : decode cX9_begins 11 = .ok (.iload_n 1, 1) := by decide +kernel
theorem dX9_begins_12 : decode cX9_begins 12 = .ok (.iload_n 3, 1) := by decide +kernel
theorem dX9_begins_13 : decode cX9_begins 13 = .ok (.iastore, 1) := by decide +kernel
theorem dX9_begins_14 : decode cX9_begins 14 = .ok (.aload_n 0, 1) := by decide +kernel
theorem dX9_begins_15 : decode cX9_begins 15 = .ok (.getfield 34, 3) := by decide +kernel
theorem dX9_begins_18 : decode cX9_begins 18 = .ok (.iload_n 1, 1) := by decide +kernel
theorem dX9_begins_19 : decode cX9_begins 19 = .ok (.iconst 0, 1) := by decide +kernel
theorem dX9_begins_20 : decode cX9_begins 20 = .ok (.iastore, 1) := by decide +kernel
theorem dX9_begins_21 : decode cX9_begins 21 = .ok (.return_, 1) := by decide +kernel
set_option maxRecDepth 20000 in
theorem ggX9_halvesOf_X9_order : GoodIn wsX9_halvesOf wsX9_order := goodIn_r _ [10, 11, 44, 45, 46, 47, 48, 49, 50, 51, 52, 53, 54, 55, 56, 57, 58, 59, 60, 61, 62, 63, 64, 65, 66, 67, 68, 69, 70] (by decide +kernel) (by decide +kernel)
set_option maxRecDepth 20000 in
theorem gX9_halvesOf_X9_order : GoodIn wsX9_halvesOf (wsV RX9 67 RX9 yX9_order wsX9_order) := goodIn_app (goodIn_of _ (by decide +kernel)) ggX9_halvesOf_X9_order
set_option maxRecDepth 20000 in
theorem ggX9_halvesOf_X9_length : GoodIn wsX9_halvesOf wsX9_length := goodIn_r _ [15, 11, 44, 45, 46, 47, 48, 49, 50, 51, 52, 53, 54, 55, 56, 57, 58, 59, 60, 61, 62, 63, 64, 65, 66, 67, 68, 69, 70] (by decide +kernel) (by decide +kernel)
set_option maxRecDepth 20000 in
theorem gX9_halvesOf_X9_length : GoodIn wsX9_halvesOf (wsV RX9 49 RX9 yX9_length wsX9_length) := goodIn_app (goodIn_of _ (by decide +kernel)) ggX9_halvesOf_X9_length
set_option maxRecDepth 20000 in
theorem ggX9_halvesOf_X9_begins : GoodIn wsX9_halvesOf wsX9_begins := goodIn_r _ [19, 3, 2, 4, 44, 45, 46, 47, 48, 49, 50, 51, 52, 53, 54, 55, 56, 57, 58, 59, 60, 61, 62, 63, 64, 65, 66, 67, 68, 69, 70] (by decide +kernel) (by decide +kernel)
set_option maxRecDepth 20000 in
theorem gX9_halvesOf_X9_begins : GoodIn wsX9_halvesOf (wsV RX9 208 RX9 yX9_begins wsX9_begins) := goodIn_app (goodIn_of _ (by decide +kernel)) ggX9_halvesOf_X9_begins
set_option maxRecDepth 20000 in
theorem ggX9_halvesOf_X9_places : GoodIn wsX9_halvesOf wsX9_places := goodIn_r _ [23, 12, 13, 14, 9, 15, 11, 44, 45, 46, 47, 48, 49, 50, 51, 52, 53, 54, 55, 56, 57, 58, 59, 60, 61, 62, 63, 64, 65, 66, 67, 68, 69, 70] (by decide +kernel) (by decide +kernel)
set_option maxRecDepth 20000 in
theorem gX9_halvesOf_X9_places : GoodIn wsX9_halvesOf (wsV RX9 60 RX9 yX9_places wsX9_places) := goodIn_app (goodIn_of _ (by decide +kernel)) ggX9_halvesOf_X9_places
set_option maxRecDepth 20000 in
theorem ggX9_halvesOf_X9_softOf : GoodIn wsX9_halvesOf wsX9_softOf := goodIn_r _ [27, 11, 44, 45, 46, 47, 48, 49, 50, 51, 52, 53, 54, 55, 56, 57, 58, 59, 60, 61, 62, 63, 64, 65, 66, 67, 68, 69, 70] (by decide +kernel) (by decide +kernel)
set_option maxRecDepth 20000 in
theorem gX9_halvesOf_X9_softOf : GoodIn wsX9_halvesOf (wsV RX9 198 RX9 yX9_softOf wsX9_softOf) := goodIn_app (goodIn_of _ (by decide +kernel)) ggX9_halvesOf_X9_softOf
set_option maxRecDepth 20000 in
theorem ggX9_halvesOf_X9_plain : GoodIn wsX9_halvesOf wsX9_plain := goodIn_r _ [31, 2, 1, 3, 32, 33, 9, 34, 44, 45, 46, 47, 48, 49, 50, 51, 52, 53, 54, 55, 56, 57, 58, 59, 60, 61, 62, 63, 64, 65, 66, 67, 68, 69, 70] (by decide +kernel) (by decide +kernel)
set_option maxRecDepth 20000 in
theorem gX9_halvesOf_X9_plain : GoodIn wsX9_halvesOf (wsV RX9 212 RX9 yX9_plain wsX9_plain) := goodIn_app (goodIn_of _ (by decide +kernel)) ggX9_halvesOf_X9_plain
set_option maxRecDepth 20000 in
theorem ggX9_halvesOf_X9_lesser : GoodIn wsX9_halvesOf wsX9_lesser := goodIn_r _ [37, 38, 39, 9, 40] (by decide +kernel) (by decide +kernel)
set_option maxRecDepth 20000 in
theorem gX9_halvesOf_X9_lesser : GoodIn wsX9_halvesOf (va_wsS RX9 215 yX9_lesser wsX9_lesser) := goodIn_app (goodIn_of _ (by decide +kernel)) ggX9_halvesOf_X9_lesser
set_option maxRecDepth 20000 in
theorem ggX9_halvesOf_X9_has : GoodIn wsX9_halvesOf wsX9_has := goodIn_r _ [43] (by decide +kernel) (by decide +kernel)
set_option maxRecDepth 20000 in
theorem gX9_halvesOf_X9_has : GoodIn wsX9_halvesOf (va_wsS RX9 74 yX9_has wsX9_has) := goodIn_app (goodIn_of _ (by decide +kernel)) ggX9_halvesOf_X9_has
theorem dX9_halvesOf_0 : decode cX9_halvesOf 0 = .ok (.iconst 0, 1) := by decide +kernel
theorem dX9_halvesOf_1 : decode cX9_halvesOf 1 = .ok (.istore_n 1, 1) := by decide +kernel
theorem dX9_halvesOf_2 : decode cX9_halvesOf 2 = .ok (.iconst 0, 1) := by decide +kernel
theorem dX9_halvesOf_3 : decode cX9_halvesOf 3 = .ok (.istore_n 2, 1) := by decide +kernel
theorem dX9_halvesOf_4 : decode cX9_halvesOf 4 = .ok (.aload_n 0, 1) := by decide +kernel
theorem dX9_halvesOf_5 : decode cX9_halvesOf 5 = .ok (.iconst 0, 1) := by decide +kernel
theorem dX9_halvesOf_6 : decode cX9_halvesOf 6 = .ok (.aload_n 0, 1) := by decide +kernel
theorem dX9_halvesOf_7 : decode cX9_halvesOf 7 = .ok (.invokevirtual 67, 3) := by decide +kernel
theorem dX9_halvesOf_10 : decode cX9_halvesOf 10 = .ok (.aload_n 0, 1) := by decide +kernel
theorem dX9_halvesOf_11 : decode cX9_halvesOf 11 = .ok (.invokevirtual 49, 3) := by decide +kernel
theorem dX9_halvesOf_14 : decode cX9_halvesOf 14 = .ok (.invokevirtual 208, 3) := by decide +kernel
theorem dX9_halvesOf_17 : decode cX9_halvesOf 17 = .ok (.iconst 0, 1) := by decide +kernel
theorem dX9_halvesOf_18 : decode cX9_halvesOf 18 = .ok (.istore_n 3, 1) := by decide +kernel
theorem dX9_halvesOf_19 : decode cX9_halvesOf 19 = .ok (.iload_n 3, 1) := by decide +kernel
theorem dX9_halvesOf_20 : decode cX9_halvesOf 20 = .ok (.aload_n 0, 1) := by decide +kernel
theorem dX9_halvesOf_21 : decode cX9_halvesOf 21 = .ok (.invokevirtual 60, 3) := by decide +kernel
theorem dX9_halvesOf_24 : decode cX9_halvesOf 24 = .ok (.if_icmp .ge 20, 3) := by decide +kernel
theorem dX9_halvesOf_27 : decode cX9_halvesOf 27 = .ok (.aload_n 0, 1) := by decide +kernel
theorem dX9_halvesOf_28 : decode cX9_halvesOf 28 = .ok (.getfield 25, 3) := by decide +kernel
theorem dX9_halvesOf_31 : decode cX9_halvesOf 31 = .ok (.iload_n 3, 1) := by decide +kernel
theorem dX9_halvesOf_32 : decode cX9_halvesOf 32 = .ok (.aload_n 0, 1) := by decide +kernel
theorem dX9_halvesOf_33 : decode cX9_halvesOf 33 = .ok (.iload_n 3, 1) := by decide +kernel
theorem dX9_halvesOf_34 : decode cX9_halvesOf 34 = .ok (.invokevirtual 198, 3) := by decide +kernel
theorem dX9_halvesOf_37 : decode cX9_halvesOf 37 = .ok (.iastore, 1) := by decide +kernel
theorem dX9_halvesOf_38 : decode cX9_halvesOf 38 = .ok (.iinc 3 1, 3) := by decide +kernel
theorem dX9_halvesOf_41 : decode cX9_halvesOf 41 = .ok (.goto (-22), 3) := by decide +kernel
theorem dX9_halvesOf_44 : decode cX9_halvesOf 44 = .ok (.iload_n 2, 1) := by decide +kernel
theorem dX9_halvesOf_45 : decode cX9_halvesOf 45 = .ok (.ifCond .lt 294, 3) := by decide +kernel
theorem dX9_halvesOf_48 : decode cX9_halvesOf 48 = .ok (.iconst 1, 1) := by decide +kernel
theorem dX9_halvesOf_49 : decode cX9_halvesOf 49 = .ok (.aload_n 0, 1) := by decide +kernel
theorem dX9_halvesOf_50 : decode cX9_halvesOf 50 = .ok (.getfield 31, 3) := by decide +kernel
theorem dX9_halvesOf_53 : decode cX9_halvesOf 53 = .ok (.iload_n 2, 1) := by decide +kernel
theorem dX9_halvesOf_54 : decode cX9_halvesOf 54 = .ok (.iaload, 1) := by decide +kernel
theorem dX9_halvesOf_55 : decode cX9_halvesOf 55 = .ok (.ishl, 1) := by decide +kernel
theorem dX9_halvesOf_56 : decode cX9_halvesOf 56 = .ok (.iconst 1, 1) := by decide +kernel
theorem dX9_halvesOf_57 : decode cX9_halvesOf 57 = .ok (.ishr, 1) := by decide +kernel
theorem dX9_halvesOf_58 : decode cX9_halvesOf 58 = .ok (.istore_n 3, 1) := by decide +kernel
theorem dX9_halvesOf_59 : decode cX9_halvesOf 59 = .ok (.bipush 32, 2) := by decide +kernel
theorem dX9_halvesOf_61 : decode cX9_halvesOf 61 = .ok (.iload_n 2, 1) := by decide +kernel
theorem dX9_halvesOf_62 : decode cX9_halvesOf 62 = .ok (.imul, 1) := by decide +kernel
theorem dX9_halvesOf_63 : decode cX9_halvesOf 63 = .ok (.istore 4, 2) := by decide +kernel
theorem dX9_halvesOf_65 : decode cX9_halvesOf 65 = .ok (.aload_n 0, 1) := by decide +kernel
theorem dX9_halvesOf_66 : decode cX9_halvesOf 66 = .ok (.getfield 28, 3) := by decide +kernel
theorem dX9_halvesOf_69 : decode cX9_halvesOf 69 = .ok (.iload_n 2, 1) := by decide +kernel
theorem dX9_halvesOf_70 : decode cX9_halvesOf 70 = .ok (.iaload, 1) := by decide +kernel
theorem dX9_halvesOf_71 : decode cX9_halvesOf 71 = .ok (.ifCond .eq 18, 3) := by decide +kernel
theorem dX9_halvesOf_74 : decode cX9_halvesOf 74 = .ok (.aload_n 0, 1) := by decide +kernel
theorem dX9_halvesOf_75 : decode cX9_halvesOf 75 = .ok (.getfield 28, 3) := by decide +kernel
theorem dX9_halvesOf_78 : decode cX9_halvesOf 78 = .ok (.iload_n 2, 1) := by decide +kernel
theorem dX9_halvesOf_79 : decode cX9_halvesOf 79 = .ok (.iaload, 1) := by decide +kernel
theorem dX9_halvesOf_80 : decode cX9_halvesOf 80 = .ok (.aload_n 0, 1) := by decide +kernel
theorem dX9_halvesOf_81 : decode cX9_halvesOf 81 = .ok (.getfield 31, 3) := by decide +kernel
theorem dX9_halvesOf_84 : decode cX9_halvesOf 84 = .ok (.iload_n 2, 1) := by decide +kernel
theorem dX9_halvesOf_85 : decode cX9_halvesOf 85 = .ok (.iaload, 1) := by decide +kernel
theorem dX9_halvesOf_86 : decode cX9_halvesOf 86 = .ok (.if_icmp .ne 15, 3) := by decide +kernel
theorem dX9_halvesOf_89 : decode cX9_halvesOf 89 = .ok (.aload_n 0, 1) := by decide +kernel
theorem dX9_halvesOf_90 : decode cX9_halvesOf 90 = .ok (.iload_n 2, 1) := by decide +kernel
theorem dX9_halvesOf_91 : decode cX9_halvesOf 91 = .ok (.invokevirtual 212, 3) := by decide +kernel
theorem dX9_halvesOf_94 : decode cX9_halvesOf 94 = .ok (.istore_n 1, 1) := by decide +kernel
theorem dX9_halvesOf_95 : decode cX9_halvesOf 95 = .ok (.iinc 2 (-1), 3) := by decide +kernel
theorem dX9_halvesOf_98 : decode cX9_halvesOf 98 = .ok (.goto 238, 3) := by decide +kernel
theorem dX9_halvesOf_101 : decode cX9_halvesOf 101 = .ok (.aload_n 0, 1) := by decide +kernel
theorem dX9_halvesOf_102 : decode cX9_halvesOf 102 = .ok (.getfield 34, 3) := by decide +kernel
theorem dX9_halvesOf_105 : decode cX9_halvesOf 105 = .ok (.iload_n 2, 1) := by decide +kernel
theorem dX9_halvesOf_106 : decode cX9_halvesOf 106 = .ok (.iaload, 1) := by decide +kernel
theorem dX9_halvesOf_107 : decode cX9_halvesOf 107 = .ok (.ifCond .ne 92, 3) := by decide +kernel
theorem dX9_halvesOf_110 : decode cX9_halvesOf 110 = .ok (.aload_n 0, 1) := by decide +kernel
theorem dX9_halvesOf_111 : decode cX9_halvesOf 111 = .ok (.iload_n 2, 1) := by decide +kernel
theorem dX9_halvesOf_112 : decode cX9_halvesOf 112 = .ok (.iconst 1, 1) := by decide +kernel
theorem dX9_halvesOf_113 : decode cX9_halvesOf 113 = .ok (.iadd, 1) := by decide +kernel
theorem dX9_halvesOf_114 : decode cX9_halvesOf 114 = .ok (.aload_n 0, 1) := by decide +kernel
theorem dX9_halvesOf_115 : decode cX9_halvesOf 115 = .ok (.getfield 28, 3) := by decide +kernel
theorem dX9_halvesOf_118 : decode cX9_halvesOf 118 = .ok (.iload_n 2, 1) := by decide +kernel
theorem dX9_halvesOf_119 : decode cX9_halvesOf 119 = .ok (.iaload, 1) := by decide +kernel
theorem dX9_halvesOf_120 : decode cX9_halvesOf 120 = .ok (.iconst 1, 1) := by decide +kernel
theorem dX9_halvesOf_121 : decode cX9_halvesOf 121 = .ok (.isub, 1) := by decide +kernel
theorem dX9_halvesOf_122 : decode cX9_halvesOf 122 = .ok (.aload_n 0, 1) := by decide +kernel
theorem dX9_halvesOf_123 : decode cX9_halvesOf 123 = .ok (.getfield 31, 3) := by decide +kernel
theorem dX9_halvesOf_126 : decode cX9_halvesOf 126 = .ok (.iload_n 2, 1) := by decide +kernel
theorem dX9_halvesOf_127 : decode cX9_halvesOf 127 = .ok (.iaload, 1) := by decide +kernel
theorem dX9_halvesOf_128 : decode cX9_halvesOf 128 = .ok (.iconst 1, 1) := by decide +kernel
theorem dX9_halvesOf_129 : decode cX9_halvesOf 129 = .ok (.isub, 1) := by decide +kernel
theorem dX9_halvesOf_130 : decode cX9_halvesOf 130 = .ok (.invokevirtual 208, 3) := by decide +kernel
theorem dX9_halvesOf_133 : decode cX9_halvesOf 133 = .ok (.iconst 0, 1) := by decide +kernel
theorem dX9_halvesOf_134 : decode cX9_halvesOf 134 = .ok (.istore 5, 2) := by decide +kernel
theorem dX9_halvesOf_136 : decode cX9_halvesOf 136 = .ok (.iload 5, 2) := by decide +kernel
theorem dX9_halvesOf_138 : decode cX9_halvesOf 138 = .ok (.iload_n 3, 1) := by decide +kernel
theorem dX9_halvesOf_139 : decode cX9_halvesOf 139 = .ok (.if_icmp .ge 47, 3) := by decide +kernel
theorem dX9_halvesOf_142 : decode cX9_halvesOf 142 = .ok (.aload_n 0, 1) := by decide +kernel
theorem dX9_halvesOf_143 : decode cX9_halvesOf 143 = .ok (.getfield 25, 3) := by decide +kernel
theorem dX9_halvesOf_146 : decode cX9_halvesOf 146 = .ok (.iload 4, 2) := by decide +kernel
theorem dX9_halvesOf_148 : decode cX9_halvesOf 148 = .ok (.bipush 32, 2) := by decide +kernel
theorem dX9_halvesOf_150 : decode cX9_halvesOf 150 = .ok (.iadd, 1) := by decide +kernel
theorem dX9_halvesOf_151 : decode cX9_halvesOf 151 = .ok (.iload 5, 2) := by decide +kernel
theorem dX9_halvesOf_153 : decode cX9_halvesOf 153 = .ok (.iadd, 1) := by decide +kernel
theorem dX9_halvesOf_154 : decode cX9_halvesOf 154 = .ok (.aload_n 0, 1) := by decide +kernel
theorem dX9_halvesOf_155 : decode cX9_halvesOf 155 = .ok (.getfield 25, 3) := by decide +kernel
theorem dX9_halvesOf_158 : decode cX9_halvesOf 158 = .ok (.iload 4, 2) := by decide +kernel
theorem dX9_halvesOf_160 : decode cX9_halvesOf 160 = .ok (.iload 5, 2) := by decide +kernel
theorem dX9_halvesOf_162 : decode cX9_halvesOf 162 = .ok (.iadd, 1) := by decide +kernel
theorem dX9_halvesOf_163 : decode cX9_halvesOf 163 = .ok (.iaload, 1) := by decide +kernel
theorem dX9_halvesOf_164 : decode cX9_halvesOf 164 = .ok (.aload_n 0, 1) := by decide +kernel
theorem dX9_halvesOf_165 : decode cX9_halvesOf 165 = .ok (.getfield 25, 3) := by decide +kernel
theorem dX9_halvesOf_168 : decode cX9_halvesOf 168 = .ok (.iload 4, 2) := by decide +kernel
theorem dX9_halvesOf_170 : decode cX9_halvesOf 170 = .ok (.iload_n 3, 1) := by decide +kernel
theorem dX9_halvesOf_171 : decode cX9_halvesOf 171 = .ok (.iadd, 1) := by decide +kernel
theorem dX9_halvesOf_172 : decode cX9_halvesOf 172 = .ok (.iload 5, 2) := by decide +kernel
theorem dX9_halvesOf_174 : decode cX9_halvesOf 174 = .ok (.iadd, 1) := by decide +kernel
theorem dX9_halvesOf_175 : decode cX9_halvesOf 175 = .ok (.iaload, 1) := by decide +kernel
theorem dX9_halvesOf_176 : decode cX9_halvesOf 176 = .ok (.invokestatic 215, 3) := by decide +kernel
theorem dX9_halvesOf_179 : decode cX9_halvesOf 179 = .ok (.iastore, 1) := by decide +kernel
theorem dX9_halvesOf_180 : decode cX9_halvesOf 180 = .ok (.iinc 5 1, 3) := by decide +kernel
theorem dX9_halvesOf_183 : decode cX9_halvesOf 183 = .ok (.goto (-47), 3) := by decide +kernel
theorem dX9_halvesOf_186 : decode cX9_halvesOf 186 = .ok (.aload_n 0, 1) := by decide +kernel
theorem dX9_halvesOf_187 : decode cX9_halvesOf 187 = .ok (.getfield 34, 3) := by decide +kernel
theorem dX9_halvesOf_190 : decode cX9_halvesOf 190 = .ok (.iload_n 2, 1) := by decide +kernel
theorem dX9_halvesOf_191 : decode cX9_halvesOf 191 = .ok (.iconst 1, 1) := by decide +kernel
theorem dX9_halvesOf_192 : decode cX9_halvesOf 192 = .ok (.iastore, 1) := by decide +kernel
theorem dX9_halvesOf_193 : decode cX9_halvesOf 193 = .ok (.iinc 2 1, 3) := by decide +kernel
theorem dX9_halvesOf_196 : decode cX9_halvesOf 196 = .ok (.goto 140, 3) := by decide +kernel
theorem dX9_halvesOf_199 : decode cX9_halvesOf 199 = .ok (.aload_n 0, 1) := by decide +kernel
theorem dX9_halvesOf_200 : decode cX9_halvesOf 200 = .ok (.getfield 34, 3) := by decide +kernel
theorem dX9_halvesOf_203 : decode cX9_halvesOf 203 = .ok (.iload_n 2, 1) := by decide +kernel
theorem dX9_halvesOf_204 : decode cX9_halvesOf 204 = .ok (.iaload, 1) := by decide +kernel
theorem dX9_halvesOf_205 : decode cX9_halvesOf 205 = .ok (.iconst 1, 1) := by decide +kernel
theorem dX9_halvesOf_206 : decode cX9_halvesOf 206 = .ok (.if_icmp .ne 114, 3) := by decide +kernel
theorem dX9_halvesOf_209 : decode cX9_halvesOf 209 = .ok (.aload_n 0, 1) := by decide +kernel
theorem dX9_halvesOf_210 : decode cX9_halvesOf 210 = .ok (.getfield 37, 3) := by decide +kernel
theorem dX9_halvesOf_213 : decode cX9_halvesOf 213 = .ok (.iload_n 2, 1) := by decide +kernel
theorem dX9_halvesOf_214 : decode cX9_halvesOf 214 = .ok (.iload_n 1, 1) := by decide +kernel
theorem dX9_halvesOf_215 : decode cX9_halvesOf 215 = .ok (.iastore, 1) := by decide +kernel
theorem dX9_halvesOf_216 : decode cX9_halvesOf 216 = .ok (.aload_n 0, 1) := by decide +kernel
theorem dX9_halvesOf_217 : decode cX9_halvesOf 217 = .ok (.iload_n 2, 1) := by decide +kernel
theorem dX9_halvesOf_218 : decode cX9_halvesOf 218 = .ok (.iconst 1, 1) := by decide +kernel
theorem dX9_halvesOf_219 : decode cX9_halvesOf 219 = .ok (.iadd, 1) := by decide +kernel
theorem dX9_halvesOf_220 : decode cX9_halvesOf 220 = .ok (.aload_n 0, 1) := by decide +kernel
theorem dX9_halvesOf_221 : decode cX9_halvesOf 221 = .ok (.getfield 28, 3) := by decide +kernel
theorem dX9_halvesOf_224 : decode cX9_halvesOf 224 = .ok (.iload_n 2, 1) := by decide +kernel
theorem dX9_halvesOf_225 : decode cX9_halvesOf 225 = .ok (.iaload, 1) := by decide +kernel
theorem dX9_halvesOf_226 : decode cX9_halvesOf 226 = .ok (.aload_n 0, 1) := by decide +kernel
theorem dX9_halvesOf_227 : decode cX9_halvesOf 227 = .ok (.getfield 31, 3) := by decide +kernel
theorem dX9_halvesOf_230 : decode cX9_halvesOf 230 = .ok (.iload_n 2, 1) := by decide +kernel
theorem dX9_halvesOf_231 : decode cX9_halvesOf 231 = .ok (.iaload, 1) := by decide +kernel
theorem dX9_halvesOf_232 : decode cX9_halvesOf 232 = .ok (.iconst 1, 1) := by decide +kernel
theorem dX9_halvesOf_233 : decode cX9_halvesOf 233 = .ok (.isub, 1) := by decide +kernel
theorem dX9_halvesOf_234 : decode cX9_halvesOf 234 = .ok (.invokevirtual 208, 3) := by decide +kernel
theorem dX9_halvesOf_237 : decode cX9_halvesOf 237 = .ok (.iconst 0, 1) := by decide +kernel
theorem dX9_halvesOf_238 : decode cX9_halvesOf 238 = .ok (.istore 5, 2) := by decide +kernel
theorem dX9_halvesOf_240 : decode cX9_halvesOf 240 = .ok (.iload 5, 2) := by decide +kernel
theorem dX9_halvesOf_242 : decode cX9_halvesOf 242 = .ok (.iload_n 3, 1) := by decide +kernel
theorem dX9_halvesOf_243 : decode cX9_halvesOf 243 = .ok (.if_icmp .ge 64, 3) := by decide +kernel
theorem dX9_halvesOf_246 : decode cX9_halvesOf 246 = .ok (.aload_n 0, 1) := by decide +kernel
theorem dX9_halvesOf_247 : decode cX9_halvesOf 247 = .ok (.getfield 25, 3) := by decide +kernel
theorem dX9_halvesOf_250 : decode cX9_halvesOf 250 = .ok (.iload 4, 2) := by decide +kernel
theorem dX9_halvesOf_252 : decode cX9_halvesOf 252 = .ok (.iload_n 3, 1) := by decide +kernel
theorem dX9_halvesOf_253 : decode cX9_halvesOf 253 = .ok (.iadd, 1) := by decide +kernel
theorem dX9_halvesOf_254 : decode cX9_halvesOf 254 = .ok (.iload 5, 2) := by decide +kernel
theorem dX9_halvesOf_256 : decode cX9_halvesOf 256 = .ok (.iadd, 1) := by decide +kernel
theorem dX9_halvesOf_257 : decode cX9_halvesOf 257 = .ok (.iaload, 1) := by decide +kernel
theorem dX9_halvesOf_258 : decode cX9_halvesOf 258 = .ok (.istore 6, 2) := by decide +kernel
theorem dX9_halvesOf_260 : decode cX9_halvesOf 260 = .ok (.aload_n 0, 1) := by decide +kernel
theorem dX9_halvesOf_261 : decode cX9_halvesOf 261 = .ok (.getfield 25, 3) := by decide +kernel
theorem dX9_halvesOf_264 : decode cX9_halvesOf 264 = .ok (.iload 4, 2) := by decide +kernel
theorem dX9_halvesOf_266 : decode cX9_halvesOf 266 = .ok (.bipush 32, 2) := by decide +kernel
theorem dX9_halvesOf_268 : decode cX9_halvesOf 268 = .ok (.iadd, 1) := by decide +kernel
theorem dX9_halvesOf_269 : decode cX9_halvesOf 269 = .ok (.iload 5, 2) := by decide +kernel
theorem dX9_halvesOf_271 : decode cX9_halvesOf 271 = .ok (.iadd, 1) := by decide +kernel
theorem dX9_halvesOf_272 : decode cX9_halvesOf 272 = .ok (.aload_n 0, 1) := by decide +kernel
theorem dX9_halvesOf_273 : decode cX9_halvesOf 273 = .ok (.getfield 25, 3) := by decide +kernel
theorem dX9_halvesOf_276 : decode cX9_halvesOf 276 = .ok (.iload 4, 2) := by decide +kernel
theorem dX9_halvesOf_278 : decode cX9_halvesOf 278 = .ok (.iload 5, 2) := by decide +kernel
theorem dX9_halvesOf_280 : decode cX9_halvesOf 280 = .ok (.iadd, 1) := by decide +kernel
theorem dX9_halvesOf_281 : decode cX9_halvesOf 281 = .ok (.iaload, 1) := by decide +kernel
theorem dX9_halvesOf_282 : decode cX9_halvesOf 282 = .ok (.iload_n 1, 1) := by decide +kernel
theorem dX9_halvesOf_283 : decode cX9_halvesOf 283 = .ok (.iload 5, 2) := by decide +kernel
theorem dX9_halvesOf_285 : decode cX9_halvesOf 285 = .ok (.invokestatic 74, 3) := by decide +kernel
theorem dX9_halvesOf_288 : decode cX9_halvesOf 288 = .ok (.ifCond .eq 9, 3) := by decide +kernel
theorem dX9_halvesOf_291 : decode cX9_halvesOf 291 = .ok (.iload 6, 2) := by decide +kernel
theorem dX9_halvesOf_293 : decode cX9_halvesOf 293 = .ok (.ineg, 1) := by decide +kernel
theorem dX9_halvesOf_294 : decode cX9_halvesOf 294 = .ok (.goto 5, 3) := by decide +kernel
theorem dX9_halvesOf_297 : decode cX9_halvesOf 297 = .ok (.iload 6, 2) := by decide +kernel
theorem dX9_halvesOf_299 : decode cX9_halvesOf 299 = .ok (.iadd, 1) := by decide +kernel
theorem dX9_halvesOf_300 : decode cX9_halvesOf 300 = .ok (.iastore, 1) := by decide +kernel
theorem dX9_halvesOf_301 : decode cX9_halvesOf 301 = .ok (.iinc 5 1, 3) := by decide +kernel
theorem dX9_halvesOf_304 : decode cX9_halvesOf 304 = .ok (.goto (-64), 3) := by decide +kernel
theorem dX9_halvesOf_307 : decode cX9_halvesOf 307 = .ok (.aload_n 0, 1) := by decide +kernel
theorem dX9_halvesOf_308 : decode cX9_halvesOf 308 = .ok (.getfield 34, 3) := by decide +kernel
theorem dX9_halvesOf_311 : decode cX9_halvesOf 311 = .ok (.iload_n 2, 1) := by decide +kernel
theorem dX9_halvesOf_312 : decode cX9_halvesOf 312 = .ok (.iconst 2, 1) := by decide +kernel
theorem dX9_halvesOf_313 : decode cX9_halvesOf 313 = .ok (.iastore, 1) := by decide +kernel
theorem dX9_halvesOf_314 : decode cX9_halvesOf 314 = .ok (.iinc 2 1, 3) := by decide +kernel
theorem dX9_halvesOf_317 : decode cX9_halvesOf 317 = .ok (.goto 19, 3) := by decide +kernel
theorem dX9_halvesOf_320 : decode cX9_halvesOf 320 = .ok (.iload_n 1, 1) := by decide +kernel
theorem dX9_halvesOf_321 : decode cX9_halvesOf 321 = .ok (.iload_n 1, 1) := by decide +kernel
theorem dX9_halvesOf_322 : decode cX9_halvesOf 322 = .ok (.aload_n 0, 1) := by decide +kernel
theorem dX9_halvesOf_323 : decode cX9_halvesOf 323 = .ok (.getfield 37, 3) := by decide +kernel
theorem dX9_halvesOf_326 : decode cX9_halvesOf 326 = .ok (.iload_n 2, 1) := by decide +kernel
theorem dX9_halvesOf_327 : decode cX9_halvesOf 327 = .ok (.iaload, 1) := by decide +kernel
theorem dX9_halvesOf_328 : decode cX9_halvesOf 328 = .ok (.ixor, 1) := by decide +kernel
theorem dX9_halvesOf_329 : decode cX9_halvesOf 329 = .ok (.iload_n 3, 1) := by decide +kernel
theorem dX9_halvesOf_330 : decode cX9_halvesOf 330 = .ok (.ishl, 1) := by decide +kernel
theorem dX9_halvesOf_331 : decode cX9_halvesOf 331 = .ok (.ior, 1) := by decide +kernel
theorem dX9_halvesOf_332 : decode cX9_halvesOf 332 = .ok (.istore_n 1, 1) := by decide +kernel
theorem dX9_halvesOf_333 : decode cX9_halvesOf 333 = .ok (.iinc 2 (-1), 3) := by decide +kernel
theorem dX9_halvesOf_336 : decode cX9_halvesOf 336 = .ok (.goto (-292), 3) := by decide +kernel
theorem dX9_halvesOf_339 : decode cX9_halvesOf 339 = .ok (.iload_n 1, 1) := by decide +kernel
theorem dX9_halvesOf_340 : decode cX9_halvesOf 340 = .ok (.ireturn, 1) := by decide +kernel
set_option maxRecDepth 20000 in
theorem ggX9_halves_X9_halvesOf : GoodIn wsX9_halves wsX9_halvesOf := goodIn_r _ [5, 6, 7, 8, 9, 10, 11, 12, 13, 4, 14, 15, 16, 17, 18, 19, 20, 21, 22, 23, 24, 25, 26, 27, 28, 29, 30, 31, 32, 33, 34, 35, 36, 37, 38, 39, 40, 41, 42, 43, 44, 45, 46, 47, 48, 49, 50, 51, 52, 53, 54, 55, 56, 57, 58, 59, 60, 61, 62, 63, 64, 65, 66, 67, 68, 69, 70, 71, 72, 73, 74] (by decide +kernel) (by decide +kernel)
set_option maxRecDepth 20000 in
theorem gX9_halves_X9_halvesOf : GoodIn wsX9_halves (wsV RX9 218 RX9 yX9_halvesOf wsX9_halvesOf) := goodIn_app (goodIn_of _ (by decide +kernel)) ggX9_halves_X9_halvesOf
theorem dX9_halves_0 : decode cX9_halves 0 = .ok (.aload_n 0, 1) := by decide +kernel
theorem dX9_halves_1 : decode cX9_halves 1 = .ok (.invokevirtual 218, 3) := by decide +kernel
theorem dX9_halves_4 : decode cX9_halves 4 = .ok (.ireturn, 1) := by decide +kernel
set_option maxRecDepth 20000 in
theorem ggX9_meritOf_X9_places : GoodIn wsX9_meritOf wsX9_places := goodIn_r _ [5, 6, 7, 8, 4, 9, 10, 18, 19, 20, 21, 22, 23, 24, 25, 26, 27, 28, 29, 30, 31, 32, 33, 34, 35, 36, 37, 38, 39, 40, 41, 42, 43, 44] (by decide +kernel) (by decide +kernel)
set_option maxRecDepth 20000 in
theorem gX9_meritOf_X9_places : GoodIn wsX9_meritOf (wsV RX9 60 RX9 yX9_places wsX9_places) := goodIn_app (goodIn_of _ (by decide +kernel)) ggX9_meritOf_X9_places
set_option maxRecDepth 20000 in
theorem ggX9_meritOf_X9_has : GoodIn wsX9_meritOf wsX9_has := goodIn_r _ [13] (by decide +kernel) (by decide +kernel)
set_option maxRecDepth 20000 in
theorem gX9_meritOf_X9_has : GoodIn wsX9_meritOf (va_wsS RX9 74 yX9_has wsX9_has) := goodIn_app (goodIn_of _ (by decide +kernel)) ggX9_meritOf_X9_has
set_option maxRecDepth 20000 in
theorem ggX9_meritOf_X9_softOf : GoodIn wsX9_meritOf wsX9_softOf := goodIn_r _ [17, 10, 18, 19, 20, 21, 22, 23, 24, 25, 26, 27, 28, 29, 30, 31, 32, 33, 34, 35, 36, 37, 38, 39, 40, 41, 42, 43, 44] (by decide +kernel) (by decide +kernel)
set_option maxRecDepth 20000 in
theorem gX9_meritOf_X9_softOf : GoodIn wsX9_meritOf (wsV RX9 198 RX9 yX9_softOf wsX9_softOf) := goodIn_app (goodIn_of _ (by decide +kernel)) ggX9_meritOf_X9_softOf
theorem dX9_meritOf_0 : decode cX9_meritOf 0 = .ok (.iconst 0, 1) := by decide +kernel
theorem dX9_meritOf_1 : decode cX9_meritOf 1 = .ok (.istore_n 2, 1) := by decide +kernel
theorem dX9_meritOf_2 : decode cX9_meritOf 2 = .ok (.iconst 0, 1) := by decide +kernel
theorem dX9_meritOf_3 : decode cX9_meritOf 3 = .ok (.istore_n 3, 1) := by decide +kernel
theorem dX9_meritOf_4 : decode cX9_meritOf 4 = .ok (.iload_n 3, 1) := by decide +kernel
theorem dX9_meritOf_5 : decode cX9_meritOf 5 = .ok (.aload_n 0, 1) := by decide +kernel
theorem dX9_meritOf_6 : decode cX9_meritOf 6 = .ok (.invokevirtual 60, 3) := by decide +kernel
theorem dX9_meritOf_9 : decode cX9_meritOf 9 = .ok (.if_icmp .ge 34, 3) := by decide +kernel
theorem dX9_meritOf_12 : decode cX9_meritOf 12 = .ok (.iload_n 2, 1) := by decide +kernel
theorem dX9_meritOf_13 : decode cX9_meritOf 13 = .ok (.iload_n 1, 1) := by decide +kernel
theorem dX9_meritOf_14 : decode cX9_meritOf 14 = .ok (.iload_n 3, 1) := by decide +kernel
theorem dX9_meritOf_15 : decode cX9_meritOf 15 = .ok (.invokestatic 74, 3) := by decide +kernel
theorem dX9_meritOf_18 : decode cX9_meritOf 18 = .ok (.ifCond .eq 12, 3) := by decide +kernel
theorem dX9_meritOf_21 : decode cX9_meritOf 21 = .ok (.aload_n 0, 1) := by decide +kernel
theorem dX9_meritOf_22 : decode cX9_meritOf 22 = .ok (.iload_n 3, 1) := by decide +kernel
theorem dX9_meritOf_23 : decode cX9_meritOf 23 = .ok (.invokevirtual 198, 3) := by decide +kernel
theorem dX9_meritOf_26 : decode cX9_meritOf 26 = .ok (.ineg, 1) := by decide +kernel
theorem dX9_meritOf_27 : decode cX9_meritOf 27 = .ok (.goto 8, 3) := by decide +kernel
theorem dX9_meritOf_30 : decode cX9_meritOf 30 = .ok (.aload_n 0, 1) := by decide +kernel
theorem dX9_meritOf_31 : decode cX9_meritOf 31 = .ok (.iload_n 3, 1) := by decide +kernel
theorem dX9_meritOf_32 : decode cX9_meritOf 32 = .ok (.invokevirtual 198, 3) := by decide +kernel
theorem dX9_meritOf_35 : decode cX9_meritOf 35 = .ok (.iadd, 1) := by decide +kernel
theorem dX9_meritOf_36 : decode cX9_meritOf 36 = .ok (.istore_n 2, 1) := by decide +kernel
theorem dX9_meritOf_37 : decode cX9_meritOf 37 = .ok (.iinc 3 1, 3) := by decide +kernel
theorem dX9_meritOf_40 : decode cX9_meritOf 40 = .ok (.goto (-36), 3) := by decide +kernel
theorem dX9_meritOf_43 : decode cX9_meritOf 43 = .ok (.iload_n 2, 1) := by decide +kernel
theorem dX9_meritOf_44 : decode cX9_meritOf 44 = .ok (.ireturn, 1) := by decide +kernel
set_option maxRecDepth 20000 in
theorem ggX9_greatest_X9_many : GoodIn wsX9_greatest wsX9_many := goodIn_r _ [6, 7, 8, 9, 10, 5, 11, 12, 13, 14, 15, 16, 17, 18, 19, 20, 21, 22, 23, 24, 25, 26, 27, 28, 48, 49, 50, 51, 52, 53, 54, 55, 56, 57, 58, 59, 60, 61, 62, 63, 64, 65, 66, 67, 68, 69, 70, 71, 72, 73, 74] (by decide +kernel) (by decide +kernel)
set_option maxRecDepth 20000 in
theorem gX9_greatest_X9_many : GoodIn wsX9_greatest (wsV RX9 100 RX9 yX9_many wsX9_many) := goodIn_app (goodIn_of _ (by decide +kernel)) ggX9_greatest_X9_many
set_option maxRecDepth 20000 in
theorem ggX9_greatest_X9_laysBasis : GoodIn wsX9_greatest wsX9_laysBasis := goodIn_r _ [32, 1, 17, 2, 3, 4, 5, 6, 7, 8, 9, 10, 11, 12, 13, 14, 15, 16, 18, 19, 20, 21, 22, 23, 24, 25, 26, 27, 28, 33, 34, 35, 36, 48, 49, 50, 51, 52, 53, 54, 55, 56, 57, 58, 59, 60, 61, 62, 63, 64, 65, 66, 67, 68, 69, 70, 71, 72, 73, 74] (by decide +kernel) (by decide +kernel)
set_option maxRecDepth 20000 in
theorem gX9_greatest_X9_laysBasis : GoodIn wsX9_greatest (wsV RX9 176 RX9 yX9_laysBasis wsX9_laysBasis) := goodIn_app (goodIn_of _ (by decide +kernel)) ggX9_greatest_X9_laysBasis
set_option maxRecDepth 20000 in
theorem ggX9_greatest_X9_meritOf : GoodIn wsX9_greatest wsX9_meritOf := goodIn_r _ [40, 18, 19, 20, 5, 21, 22, 23, 24, 25, 12, 41, 42, 43, 44, 45, 46, 47, 48, 49, 50, 51, 52, 53, 54, 55, 56, 57, 58, 59, 60, 61, 62, 63, 64, 65, 66, 67, 68, 69, 70, 71, 72, 73, 74] (by decide +kernel) (by decide +kernel)
set_option maxRecDepth 20000 in
theorem gX9_greatest_X9_meritOf : GoodIn wsX9_greatest (wsV RX9 221 RX9 yX9_meritOf wsX9_meritOf) := goodIn_app (goodIn_of _ (by decide +kernel)) ggX9_greatest_X9_meritOf
set_option maxRecDepth 20000 in
theorem ggX9_greatest_X9_has : GoodIn wsX9_greatest wsX9_has := goodIn_r _ [43] (by decide +kernel) (by decide +kernel)
set_option maxRecDepth 20000 in
theorem gX9_greatest_X9_has : GoodIn wsX9_greatest (va_wsS RX9 74 yX9_has wsX9_has) := goodIn_app (goodIn_of _ (by decide +kernel)) ggX9_greatest_X9_has
theorem dX9_greatest_0 : decode cX9_greatest 0 = .ok (.iconst 0, 1) := by decide +kernel
theorem dX9_greatest_1 : decode cX9_greatest 1 = .ok (.istore_n 1, 1) := by decide +kernel
theorem dX9_greatest_2 : decode cX9_greatest 2 = .ok (.aload_n 0, 1) := by decide +kernel
theorem dX9_greatest_3 : decode cX9_greatest 3 = .ok (.invokevirtual 100, 3) := by decide +kernel
theorem dX9_greatest_6 : decode cX9_greatest 6 = .ok (.istore_n 2, 1) := by decide +kernel
theorem dX9_greatest_7 : decode cX9_greatest 7 = .ok (.aload_n 0, 1) := by decide +kernel
theorem dX9_greatest_8 : decode cX9_greatest 8 = .ok (.invokevirtual 176, 3) := by decide +kernel
theorem dX9_greatest_11 : decode cX9_greatest 11 = .ok (.aload_n 0, 1) := by decide +kernel
theorem dX9_greatest_12 : decode cX9_greatest 12 = .ok (.iconst 0, 1) := by decide +kernel
theorem dX9_greatest_13 : decode cX9_greatest 13 = .ok (.invokevirtual 221, 3) := by decide +kernel
theorem dX9_greatest_16 : decode cX9_greatest 16 = .ok (.istore_n 3, 1) := by decide +kernel
theorem dX9_greatest_17 : decode cX9_greatest 17 = .ok (.iconst 1, 1) := by decide +kernel
theorem dX9_greatest_18 : decode cX9_greatest 18 = .ok (.istore 4, 2) := by decide +kernel
theorem dX9_greatest_20 : decode cX9_greatest 20 = .ok (.iload 4, 2) := by decide +kernel
theorem dX9_greatest_22 : decode cX9_greatest 22 = .ok (.iconst 1, 1) := by decide +kernel
theorem dX9_greatest_23 : decode cX9_greatest 23 = .ok (.iload_n 2, 1) := by decide +kernel
theorem dX9_greatest_24 : decode cX9_greatest 24 = .ok (.ishl, 1) := by decide +kernel
theorem dX9_greatest_25 : decode cX9_greatest 25 = .ok (.if_icmp .ge 72, 3) := by decide +kernel
theorem dX9_greatest_28 : decode cX9_greatest 28 = .ok (.iload 4, 2) := by decide +kernel
theorem dX9_greatest_30 : decode cX9_greatest 30 = .ok (.iload 4, 2) := by decide +kernel
theorem dX9_greatest_32 : decode cX9_greatest 32 = .ok (.iconst 1, 1) := by decide +kernel
theorem dX9_greatest_33 : decode cX9_greatest 33 = .ok (.isub, 1) := by decide +kernel
theorem dX9_greatest_34 : decode cX9_greatest 34 = .ok (.ixor, 1) := by decide +kernel
theorem dX9_greatest_35 : decode cX9_greatest 35 = .ok (.istore 5, 2) := by decide +kernel
theorem dX9_greatest_37 : decode cX9_greatest 37 = .ok (.iconst 0, 1) := by decide +kernel
theorem dX9_greatest_38 : decode cX9_greatest 38 = .ok (.istore 6, 2) := by decide +kernel
theorem dX9_greatest_40 : decode cX9_greatest 40 = .ok (.iload 6, 2) := by decide +kernel
theorem dX9_greatest_42 : decode cX9_greatest 42 = .ok (.iload_n 2, 1) := by decide +kernel
theorem dX9_greatest_43 : decode cX9_greatest 43 = .ok (.if_icmp .ge 29, 3) := by decide +kernel
theorem dX9_greatest_46 : decode cX9_greatest 46 = .ok (.iload 5, 2) := by decide +kernel
theorem dX9_greatest_48 : decode cX9_greatest 48 = .ok (.iload 6, 2) := by decide +kernel
theorem dX9_greatest_50 : decode cX9_greatest 50 = .ok (.invokestatic 74, 3) := by decide +kernel
theorem dX9_greatest_53 : decode cX9_greatest 53 = .ok (.ifCond .eq 19, 3) := by decide +kernel
theorem dX9_greatest_56 : decode cX9_greatest 56 = .ok (.iload_n 1, 1) := by decide +kernel
theorem dX9_greatest_57 : decode cX9_greatest 57 = .ok (.aload_n 0, 1) := by decide +kernel
theorem dX9_greatest_58 : decode cX9_greatest 58 = .ok (.getfield 22, 3) := by decide +kernel
theorem dX9_greatest_61 : decode cX9_greatest 61 = .ok (.iload 6, 2) := by decide +kernel
theorem dX9_greatest_63 : decode cX9_greatest 63 = .ok (.iaload, 1) := by decide +kernel
theorem dX9_greatest_64 : decode cX9_greatest 64 = .ok (.ixor, 1) := by decide +kernel
theorem dX9_greatest_65 : decode cX9_greatest 65 = .ok (.istore_n 1, 1) := by decide +kernel
theorem dX9_greatest_66 : decode cX9_greatest 66 = .ok (.iinc 6 1, 3) := by decide +kernel
theorem dX9_greatest_69 : decode cX9_greatest 69 = .ok (.goto (-29), 3) := by decide +kernel
theorem dX9_greatest_72 : decode cX9_greatest 72 = .ok (.aload_n 0, 1) := by decide +kernel
theorem dX9_greatest_73 : decode cX9_greatest 73 = .ok (.iload_n 1, 1) := by decide +kernel
theorem dX9_greatest_74 : decode cX9_greatest 74 = .ok (.invokevirtual 221, 3) := by decide +kernel
theorem dX9_greatest_77 : decode cX9_greatest 77 = .ok (.iload_n 3, 1) := by decide +kernel
theorem dX9_greatest_78 : decode cX9_greatest 78 = .ok (.if_icmp .le 11, 3) := by decide +kernel
theorem dX9_greatest_81 : decode cX9_greatest 81 = .ok (.aload_n 0, 1) := by decide +kernel
theorem dX9_greatest_82 : decode cX9_greatest 82 = .ok (.iload_n 1, 1) := by decide +kernel
theorem dX9_greatest_83 : decode cX9_greatest 83 = .ok (.invokevirtual 221, 3) := by decide +kernel
theorem dX9_greatest_86 : decode cX9_greatest 86 = .ok (.goto 4, 3) := by decide +kernel
theorem dX9_greatest_89 : decode cX9_greatest 89 = .ok (.iload_n 3, 1) := by decide +kernel
theorem dX9_greatest_90 : decode cX9_greatest 90 = .ok (.istore_n 3, 1) := by decide +kernel
theorem dX9_greatest_91 : decode cX9_greatest 91 = .ok (.iinc 4 1, 3) := by decide +kernel
theorem dX9_greatest_94 : decode cX9_greatest 94 = .ok (.goto (-74), 3) := by decide +kernel
theorem dX9_greatest_97 : decode cX9_greatest 97 = .ok (.iload_n 3, 1) := by decide +kernel
theorem dX9_greatest_98 : decode cX9_greatest 98 = .ok (.ireturn, 1) := by decide +kernel
set_option maxRecDepth 20000 in
theorem ggX9_merit_X9_in : GoodIn wsX9_merit wsX9_in := goodIn_r _ [5] (by decide +kernel) (by decide +kernel)
set_option maxRecDepth 20000 in
theorem gX9_merit_X9_in : GoodIn wsX9_merit (va_wsS RX9 83 yX9_in wsX9_in) := goodIn_app (goodIn_of _ (by decide +kernel)) ggX9_merit_X9_in
set_option maxRecDepth 20000 in
theorem ggX9_merit_X9_bad : GoodIn wsX9_merit wsX9_bad := goodIn_r _ [9, 10, 99, 100, 101, 102, 103, 104, 105, 106, 107, 108, 109, 110, 111, 112, 113, 114, 115, 116, 117, 118, 119, 120, 121, 122, 123, 124, 125] (by decide +kernel) (by decide +kernel)
set_option maxRecDepth 20000 in
theorem gX9_merit_X9_bad : GoodIn wsX9_merit (wsV RX9 90 RX9 yX9_bad wsX9_bad) := goodIn_app (goodIn_of _ (by decide +kernel)) ggX9_merit_X9_bad
set_option maxRecDepth 20000 in
theorem ggX9_merit_X9_isFew : GoodIn wsX9_merit wsX9_isFew := goodIn_r _ [14, 15, 16, 17, 4, 18, 19, 20, 21, 22, 23, 24, 25, 26, 27, 28, 29, 30, 31, 32, 33, 34, 35, 36, 37, 38, 39, 40, 99, 100, 101, 102, 103, 104, 105, 106, 107, 108, 109, 110, 111, 112, 113, 114, 115, 116, 117, 118, 119, 120, 121, 122, 123, 124, 125] (by decide +kernel) (by decide +kernel)
set_option maxRecDepth 20000 in
theorem gX9_merit_X9_isFew : GoodIn wsX9_merit (wsV RX9 188 RX9 yX9_isFew wsX9_isFew) := goodIn_app (goodIn_of _ (by decide +kernel)) ggX9_merit_X9_isFew
set_option maxRecDepth 20000 in
theorem ggX9_merit_X9_no : GoodIn wsX9_merit wsX9_no := goodIn_r _ [44, 10, 99, 100, 101, 102, 103, 104, 105, 106, 107, 108, 109, 110, 111, 112, 113, 114, 115, 116, 117, 118, 119, 120, 121, 122, 123, 124, 125] (by decide +kernel) (by decide +kernel)
set_option maxRecDepth 20000 in
theorem gX9_merit_X9_no : GoodIn wsX9_merit (wsV RX9 192 RX9 yX9_no wsX9_no) := goodIn_app (goodIn_of _ (by decide +kernel)) ggX9_merit_X9_no
set_option maxRecDepth 20000 in
theorem ggX9_merit_X9_theWord : GoodIn wsX9_merit wsX9_theWord := goodIn_r _ [48, 24, 99, 100, 101, 102, 103, 104, 105, 106, 107, 108, 109, 110, 111, 112, 113, 114, 115, 116, 117, 118, 119, 120, 121, 122, 123, 124, 125] (by decide +kernel) (by decide +kernel)
set_option maxRecDepth 20000 in
theorem gX9_merit_X9_theWord : GoodIn wsX9_merit (wsV RX9 116 RX9 yX9_theWord wsX9_theWord) := goodIn_app (goodIn_of _ (by decide +kernel)) ggX9_merit_X9_theWord
set_option maxRecDepth 20000 in
theorem ggX9_merit_X9_meritOf : GoodIn wsX9_merit wsX9_meritOf := goodIn_r _ [52, 30, 31, 32, 4, 33, 34, 35, 36, 37, 24, 53, 54, 55, 56, 57, 58, 59, 99, 100, 101, 102, 103, 104, 105, 106, 107, 108, 109, 110, 111, 112, 113, 114, 115, 116, 117, 118, 119, 120, 121, 122, 123, 124, 125] (by decide +kernel) (by decide +kernel)
set_option maxRecDepth 20000 in
theorem gX9_merit_X9_meritOf : GoodIn wsX9_merit (wsV RX9 221 RX9 yX9_meritOf wsX9_meritOf) := goodIn_app (goodIn_of _ (by decide +kernel)) ggX9_merit_X9_meritOf
set_option maxRecDepth 20000 in
theorem ggX9_merit_X9_halvesOf : GoodIn wsX9_merit wsX9_halvesOf := goodIn_r _ [63, 64, 65, 66, 67, 68, 20, 21, 22, 4, 23, 24, 34, 35, 36, 37, 69, 70, 71, 72, 30, 31, 32, 33, 56, 57, 58, 59, 73, 74, 75, 76, 77, 78, 79, 80, 81, 82, 83, 84, 85, 53, 54, 55, 99, 100, 101, 102, 103, 104, 105, 106, 107, 108, 109, 110, 111, 112, 113, 114, 115, 116, 117, 118, 119, 120, 121, 122, 123, 124, 125] (by decide +kernel) (by decide +kernel)
set_option maxRecDepth 20000 in
theorem gX9_merit_X9_halvesOf : GoodIn wsX9_merit (wsV RX9 218 RX9 yX9_halvesOf wsX9_halvesOf) := goodIn_app (goodIn_of _ (by decide +kernel)) ggX9_merit_X9_halvesOf
set_option maxRecDepth 20000 in
theorem ggX9_merit_X9_greatest : GoodIn wsX9_merit wsX9_greatest := goodIn_r _ [89, 90, 15, 16, 17, 4, 18, 19, 20, 21, 22, 23, 24, 25, 26, 27, 28, 29, 30, 31, 32, 33, 34, 35, 36, 37, 38, 39, 40, 91, 92, 93, 94, 95, 96, 97, 98, 49, 50, 51, 52, 53, 54, 55, 56, 57, 58, 59, 99, 100, 101, 102, 103, 104, 105, 106, 107, 108, 109, 110, 111, 112, 113, 114, 115, 116, 117, 118, 119, 120, 121, 122, 123, 124, 125] (by decide +kernel) (by decide +kernel)
set_option maxRecDepth 20000 in
theorem gX9_merit_X9_greatest : GoodIn wsX9_merit (wsV RX9 224 RX9 yX9_greatest wsX9_greatest) := goodIn_app (goodIn_of _ (by decide +kernel)) ggX9_merit_X9_greatest
theorem dX9_merit_0 : decode cX9_merit 0 = .ok (.iload_n 1, 1) := by decide +kernel
theorem dX9_merit_1 : decode cX9_merit 1 = .ok (.i2l, 1) := by decide +kernel
theorem dX9_merit_2 : decode cX9_merit 2 = .ok (.lconst 0, 1) := by decide +kernel
theorem dX9_merit_3 : decode cX9_merit 3 = .ok (.ldc2_w 171, 3) := by decide +kernel
theorem dX9_merit_6 : decode cX9_merit 6 = .ok (.invokestatic 83, 3) := by decide +kernel
theorem dX9_merit_9 : decode cX9_merit 9 = .ok (.ifCond .ne 10, 3) := by decide +kernel
theorem dX9_merit_12 : decode cX9_merit 12 = .ok (.aload_n 0, 1) := by decide +kernel
theorem dX9_merit_13 : decode cX9_merit 13 = .ok (.bipush (-2), 2) := by decide +kernel
theorem dX9_merit_15 : decode cX9_merit 15 = .ok (.invokevirtual 90, 3) := by decide +kernel
theorem dX9_merit_18 : decode cX9_merit 18 = .ok (.ireturn, 1) := by decide +kernel
theorem dX9_merit_19 : decode cX9_merit 19 = .ok (.iload_n 1, 1) := by decide +kernel
theorem dX9_merit_20 : decode cX9_merit 20 = .ok (.iconst 2, 1) := by decide +kernel
theorem dX9_merit_21 : decode cX9_merit 21 = .ok (.if_icmp .ne 17, 3) := by decide +kernel
theorem dX9_merit_24 : decode cX9_merit 24 = .ok (.aload_n 0, 1) := by decide +kernel
theorem dX9_merit_25 : decode cX9_merit 25 = .ok (.invokevirtual 188, 3) := by decide +kernel
theorem dX9_merit_28 : decode cX9_merit 28 = .ok (.ifCond .ne 10, 3) := by decide +kernel
theorem dX9_merit_31 : decode cX9_merit 31 = .ok (.aload_n 0, 1) := by decide +kernel
theorem dX9_merit_32 : decode cX9_merit 32 = .ok (.bipush (-3), 2) := by decide +kernel
theorem dX9_merit_34 : decode cX9_merit 34 = .ok (.invokevirtual 192, 3) := by decide +kernel
theorem dX9_merit_37 : decode cX9_merit 37 = .ok (.ireturn, 1) := by decide +kernel
theorem dX9_merit_38 : decode cX9_merit 38 = .ok (.iload_n 1, 1) := by decide +kernel
theorem dX9_merit_39 : decode cX9_merit 39 = .ok (.ifCond .ne 14, 3) := by decide +kernel
theorem dX9_merit_42 : decode cX9_merit 42 = .ok (.aload_n 0, 1) := by decide +kernel
theorem dX9_merit_43 : decode cX9_merit 43 = .ok (.aload_n 0, 1) := by decide +kernel
theorem dX9_merit_44 : decode cX9_merit 44 = .ok (.invokevirtual 116, 3) := by decide +kernel
theorem dX9_merit_47 : decode cX9_merit 47 = .ok (.invokevirtual 221, 3) := by decide +kernel
theorem dX9_merit_50 : decode cX9_merit 50 = .ok (.goto 23, 3) := by decide +kernel
theorem dX9_merit_53 : decode cX9_merit 53 = .ok (.iload_n 1, 1) := by decide +kernel
theorem dX9_merit_54 : decode cX9_merit 54 = .ok (.iconst 1, 1) := by decide +kernel
theorem dX9_merit_55 : decode cX9_merit 55 = .ok (.if_icmp .ne 14, 3) := by decide +kernel
theorem dX9_merit_58 : decode cX9_merit 58 = .ok (.aload_n 0, 1) := by decide +kernel
theorem dX9_merit_59 : decode cX9_merit 59 = .ok (.aload_n 0, 1) := by decide +kernel
theorem dX9_merit_60 : decode cX9_merit 60 = .ok (.invokevirtual 218, 3) := by decide +kernel
theorem dX9_merit_63 : decode cX9_merit 63 = .ok (.invokevirtual 221, 3) := by decide +kernel
theorem dX9_merit_66 : decode cX9_merit 66 = .ok (.goto 7, 3) := by decide +kernel
theorem dX9_merit_69 : decode cX9_merit 69 = .ok (.aload_n 0, 1) := by decide +kernel
theorem dX9_merit_70 : decode cX9_merit 70 = .ok (.invokevirtual 224, 3) := by decide +kernel
theorem dX9_merit_73 : decode cX9_merit 73 = .ok (.ireturn, 1) := by decide +kernel
set_option maxRecDepth 20000 in
theorem ggX9_weights_X9_in : GoodIn wsX9_weights wsX9_in := goodIn_r _ [6] (by decide +kernel) (by decide +kernel)
set_option maxRecDepth 20000 in
theorem gX9_weights_X9_in : GoodIn wsX9_weights (va_wsS RX9 83 yX9_in wsX9_in) := goodIn_app (goodIn_of _ (by decide +kernel)) ggX9_weights_X9_in
set_option maxRecDepth 20000 in
theorem ggX9_weights_X9_bad : GoodIn wsX9_weights wsX9_bad := goodIn_r _ [10, 11, 57, 58, 59, 60, 61, 62, 63, 64, 65, 66, 67, 68, 69, 70, 71, 72, 73, 74, 75, 76, 77, 78, 79, 80, 81, 82, 83] (by decide +kernel) (by decide +kernel)
set_option maxRecDepth 20000 in
theorem gX9_weights_X9_bad : GoodIn wsX9_weights (wsV RX9 90 RX9 yX9_bad wsX9_bad) := goodIn_app (goodIn_of _ (by decide +kernel)) ggX9_weights_X9_bad
set_option maxRecDepth 20000 in
theorem ggX9_weights_X9_isFew : GoodIn wsX9_weights wsX9_isFew := goodIn_r _ [15, 16, 17, 18, 5, 19, 20, 21, 22, 23, 24, 25, 26, 27, 28, 29, 30, 31, 32, 33, 34, 35, 36, 37, 38, 39, 40, 41, 57, 58, 59, 60, 61, 62, 63, 64, 65, 66, 67, 68, 69, 70, 71, 72, 73, 74, 75, 76, 77, 78, 79, 80, 81, 82, 83] (by decide +kernel) (by decide +kernel)
set_option maxRecDepth 20000 in
theorem gX9_weights_X9_isFew : GoodIn wsX9_weights (wsV RX9 188 RX9 yX9_isFew wsX9_isFew) := goodIn_app (goodIn_of _ (by decide +kernel)) ggX9_weights_X9_isFew
set_option maxRecDepth 20000 in
theorem ggX9_weights_X9_no : GoodIn wsX9_weights wsX9_no := goodIn_r _ [45, 11, 57, 58, 59, 60, 61, 62, 63, 64, 65, 66, 67, 68, 69, 70, 71, 72, 73, 74, 75, 76, 77, 78, 79, 80, 81, 82, 83] (by decide +kernel) (by decide +kernel)
set_option maxRecDepth 20000 in
theorem gX9_weights_X9_no : GoodIn wsX9_weights (wsV RX9 192 RX9 yX9_no wsX9_no) := goodIn_app (goodIn_of _ (by decide +kernel)) ggX9_weights_X9_no
set_option maxRecDepth 20000 in
theorem ggX9_weights_X9_many : GoodIn wsX9_weights wsX9_many := goodIn_r _ [19, 20, 21, 22, 23, 5, 24, 25, 26, 27, 28, 29, 30, 31, 32, 33, 34, 35, 36, 37, 38, 39, 40, 41, 57, 58, 59, 60, 61, 62, 63, 64, 65, 66, 67, 68, 69, 70, 71, 72, 73, 74, 75, 76, 77, 78, 79, 80, 81, 82, 83] (by decide +kernel) (by decide +kernel)
set_option maxRecDepth 20000 in
theorem gX9_weights_X9_many : GoodIn wsX9_weights (wsV RX9 100 RX9 yX9_many wsX9_many) := goodIn_app (goodIn_of _ (by decide +kernel)) ggX9_weights_X9_many
set_option maxRecDepth 20000 in
theorem ggX9_weights_X9_laysBasis : GoodIn wsX9_weights wsX9_laysBasis := goodIn_r _ [49, 2, 30, 16, 17, 18, 5, 19, 20, 21, 22, 23, 24, 25, 26, 27, 28, 29, 31, 32, 33, 34, 35, 36, 37, 38, 39, 40, 41, 50, 51, 52, 53, 57, 58, 59, 60, 61, 62, 63, 64, 65, 66, 67, 68, 69, 70, 71, 72, 73, 74, 75, 76, 77, 78, 79, 80, 81, 82, 83] (by decide +kernel) (by decide +kernel)
set_option maxRecDepth 20000 in
theorem gX9_weights_X9_laysBasis : GoodIn wsX9_weights (wsV RX9 176 RX9 yX9_laysBasis wsX9_laysBasis) := goodIn_app (goodIn_of _ (by decide +kernel)) ggX9_weights_X9_laysBasis
set_option maxRecDepth 20000 in
theorem ggX9_weights_X9_has : GoodIn wsX9_weights wsX9_has := goodIn_r _ [56] (by decide +kernel) (by decide +kernel)
set_option maxRecDepth 20000 in
theorem gX9_weights_X9_has : GoodIn wsX9_weights (va_wsS RX9 74 yX9_has wsX9_has) := goodIn_app (goodIn_of _ (by decide +kernel)) ggX9_weights_X9_has
set_option maxRecDepth 20000 in
theorem ggX9_weights_X9_bits : GoodIn wsX9_weights wsX9_bits := goodIn_r _ [41] (by decide +kernel) (by decide +kernel)
set_option maxRecDepth 20000 in
theorem gX9_weights_X9_bits : GoodIn wsX9_weights (va_wsS RX9 63 yX9_bits wsX9_bits) := goodIn_app (goodIn_of _ (by decide +kernel)) ggX9_weights_X9_bits
theorem dX9_weights_0 : decode cX9_weights 0 = .ok (.iload_n 1, 1) := by decide +kernel
theorem dX9_weights_1 : decode cX9_weights 1 = .ok (.i2l, 1) := by decide +kernel
theorem dX9_weights_2 : decode cX9_weights 2 = .ok (.lconst 0, 1) := by decide +kernel
theorem dX9_weights_3 : decode cX9_weights 3 = .ok (.ldc2_w 227, 3) := by decide +kernel
theorem dX9_weights_6 : decode cX9_weights 6 = .ok (.invokestatic 83, 3) := by decide +kernel
theorem dX9_weights_9 : decode cX9_weights 9 = .ok (.ifCond .ne 10, 3) := by decide +kernel
theorem dX9_weights_12 : decode cX9_weights 12 = .ok (.aload_n 0, 1) := by decide +kernel
theorem dX9_weights_13 : decode cX9_weights 13 = .ok (.bipush (-2), 2) := by decide +kernel
theorem dX9_weights_15 : decode cX9_weights 15 = .ok (.invokevirtual 90, 3) := by decide +kernel
theorem dX9_weights_18 : decode cX9_weights 18 = .ok (.ireturn, 1) := by decide +kernel
theorem dX9_weights_19 : decode cX9_weights 19 = .ok (.aload_n 0, 1) := by decide +kernel
theorem dX9_weights_20 : decode cX9_weights 20 = .ok (.invokevirtual 188, 3) := by decide +kernel
theorem dX9_weights_23 : decode cX9_weights 23 = .ok (.ifCond .ne 10, 3) := by decide +kernel
theorem dX9_weights_26 : decode cX9_weights 26 = .ok (.aload_n 0, 1) := by decide +kernel
theorem dX9_weights_27 : decode cX9_weights 27 = .ok (.bipush (-3), 2) := by decide +kernel
theorem dX9_weights_29 : decode cX9_weights 29 = .ok (.invokevirtual 192, 3) := by decide +kernel
theorem dX9_weights_32 : decode cX9_weights 32 = .ok (.ireturn, 1) := by decide +kernel
theorem dX9_weights_33 : decode cX9_weights 33 = .ok (.iconst 0, 1) := by decide +kernel
theorem dX9_weights_34 : decode cX9_weights 34 = .ok (.istore_n 2, 1) := by decide +kernel
theorem dX9_weights_35 : decode cX9_weights 35 = .ok (.aload_n 0, 1) := by decide +kernel
theorem dX9_weights_36 : decode cX9_weights 36 = .ok (.invokevirtual 100, 3) := by decide +kernel
theorem dX9_weights_39 : decode cX9_weights 39 = .ok (.istore_n 3, 1) := by decide +kernel
theorem dX9_weights_40 : decode cX9_weights 40 = .ok (.iload_n 1, 1) := by decide +kernel
theorem dX9_weights_41 : decode cX9_weights 41 = .ok (.ifCond .ne 7, 3) := by decide +kernel
theorem dX9_weights_44 : decode cX9_weights 44 = .ok (.iconst 1, 1) := by decide +kernel
theorem dX9_weights_45 : decode cX9_weights 45 = .ok (.goto 4, 3) := by decide +kernel
theorem dX9_weights_48 : decode cX9_weights 48 = .ok (.iconst 0, 1) := by decide +kernel
theorem dX9_weights_49 : decode cX9_weights 49 = .ok (.istore 4, 2) := by decide +kernel
theorem dX9_weights_51 : decode cX9_weights 51 = .ok (.aload_n 0, 1) := by decide +kernel
theorem dX9_weights_52 : decode cX9_weights 52 = .ok (.invokevirtual 176, 3) := by decide +kernel
theorem dX9_weights_55 : decode cX9_weights 55 = .ok (.iconst 1, 1) := by decide +kernel
theorem dX9_weights_56 : decode cX9_weights 56 = .ok (.istore 5, 2) := by decide +kernel
theorem dX9_weights_58 : decode cX9_weights 58 = .ok (.iload 5, 2) := by decide +kernel
theorem dX9_weights_60 : decode cX9_weights 60 = .ok (.iconst 1, 1) := by decide +kernel
theorem dX9_weights_61 : decode cX9_weights 61 = .ok (.iload_n 3, 1) := by decide +kernel
theorem dX9_weights_62 : decode cX9_weights 62 = .ok (.ishl, 1) := by decide +kernel
theorem dX9_weights_63 : decode cX9_weights 63 = .ok (.if_icmp .ge 71, 3) := by decide +kernel
theorem dX9_weights_66 : decode cX9_weights 66 = .ok (.iload 5, 2) := by decide +kernel
theorem dX9_weights_68 : decode cX9_weights 68 = .ok (.iload 5, 2) := by decide +kernel
theorem dX9_weights_70 : decode cX9_weights 70 = .ok (.iconst 1, 1) := by decide +kernel
theorem dX9_weights_71 : decode cX9_weights 71 = .ok (.isub, 1) := by decide +kernel
theorem dX9_weights_72 : decode cX9_weights 72 = .ok (.ixor, 1) := by decide +kernel
theorem dX9_weights_73 : decode cX9_weights 73 = .ok (.istore 6, 2) := by decide +kernel
theorem dX9_weights_75 : decode cX9_weights 75 = .ok (.iconst 0, 1) := by decide +kernel
theorem dX9_weights_76 : decode cX9_weights 76 = .ok (.istore 7, 2) := by decide +kernel
theorem dX9_weights_78 : decode cX9_weights 78 = .ok (.iload 7, 2) := by decide +kernel
theorem dX9_weights_80 : decode cX9_weights 80 = .ok (.iload_n 3, 1) := by decide +kernel
theorem dX9_weights_81 : decode cX9_weights 81 = .ok (.if_icmp .ge 29, 3) := by decide +kernel
theorem dX9_weights_84 : decode cX9_weights 84 = .ok (.iload 6, 2) := by decide +kernel
theorem dX9_weights_86 : decode cX9_weights 86 = .ok (.iload 7, 2) := by decide +kernel
theorem dX9_weights_88 : decode cX9_weights 88 = .ok (.invokestatic 74, 3) := by decide +kernel
theorem dX9_weights_91 : decode cX9_weights 91 = .ok (.ifCond .eq 19, 3) := by decide +kernel
theorem dX9_weights_94 : decode cX9_weights 94 = .ok (.iload_n 2, 1) := by decide +kernel
theorem dX9_weights_95 : decode cX9_weights 95 = .ok (.aload_n 0, 1) := by decide +kernel
theorem dX9_weights_96 : decode cX9_weights 96 = .ok (.getfield 22, 3) := by decide +kernel
theorem dX9_weights_99 : decode cX9_weights 99 = .ok (.iload 7, 2) := by decide +kernel
theorem dX9_weights_101 : decode cX9_weights 101 = .ok (.iaload, 1) := by decide +kernel
theorem dX9_weights_102 : decode cX9_weights 102 = .ok (.ixor, 1) := by decide +kernel
theorem dX9_weights_103 : decode cX9_weights 103 = .ok (.istore_n 2, 1) := by decide +kernel
theorem dX9_weights_104 : decode cX9_weights 104 = .ok (.iinc 7 1, 3) := by decide +kernel
theorem dX9_weights_107 : decode cX9_weights 107 = .ok (.goto (-29), 3) := by decide +kernel
theorem dX9_weights_110 : decode cX9_weights 110 = .ok (.iload 4, 2) := by decide +kernel
theorem dX9_weights_112 : decode cX9_weights 112 = .ok (.iload_n 2, 1) := by decide +kernel
theorem dX9_weights_113 : decode cX9_weights 113 = .ok (.invokestatic 63, 3) := by decide +kernel
theorem dX9_weights_116 : decode cX9_weights 116 = .ok (.iload_n 1, 1) := by decide +kernel
theorem dX9_weights_117 : decode cX9_weights 117 = .ok (.if_icmp .ne 7, 3) := by decide +kernel
theorem dX9_weights_120 : decode cX9_weights 120 = .ok (.iconst 1, 1) := by decide +kernel
theorem dX9_weights_121 : decode cX9_weights 121 = .ok (.goto 4, 3) := by decide +kernel
theorem dX9_weights_124 : decode cX9_weights 124 = .ok (.iconst 0, 1) := by decide +kernel
theorem dX9_weights_125 : decode cX9_weights 125 = .ok (.iadd, 1) := by decide +kernel
theorem dX9_weights_126 : decode cX9_weights 126 = .ok (.istore 4, 2) := by decide +kernel
theorem dX9_weights_128 : decode cX9_weights 128 = .ok (.iinc 5 1, 3) := by decide +kernel
theorem dX9_weights_131 : decode cX9_weights 131 = .ok (.goto (-73), 3) := by decide +kernel
theorem dX9_weights_134 : decode cX9_weights 134 = .ok (.iload 4, 2) := by decide +kernel
theorem dX9_weights_136 : decode cX9_weights 136 = .ok (.ireturn, 1) := by decide +kernel
set_option maxRecDepth 20000 in
theorem ggX9_perpendicular_X9_many : GoodIn wsX9_perpendicular wsX9_many := goodIn_r _ [6, 7, 8, 9, 10, 5, 11, 12, 13, 14, 15, 16, 1, 17, 18, 19, 20, 21, 22, 23, 24, 25, 26, 27, 36, 37, 38, 39, 40, 41, 42, 43, 44, 45, 46, 47, 48, 49, 50, 51, 52, 53, 54, 55, 56, 57, 58, 59, 60, 61, 62] (by decide +kernel) (by decide +kernel)
set_option maxRecDepth 20000 in
theorem gX9_perpendicular_X9_many : GoodIn wsX9_perpendicular (wsV RX9 100 RX9 yX9_many wsX9_many) := goodIn_app (goodIn_of _ (by decide +kernel)) ggX9_perpendicular_X9_many
set_option maxRecDepth 20000 in
theorem ggX9_perpendicular_X9_theWord : GoodIn wsX9_perpendicular wsX9_theWord := goodIn_r _ [31, 12, 36, 37, 38, 39, 40, 41, 42, 43, 44, 45, 46, 47, 48, 49, 50, 51, 52, 53, 54, 55, 56, 57, 58, 59, 60, 61, 62] (by decide +kernel) (by decide +kernel)
set_option maxRecDepth 20000 in
theorem gX9_perpendicular_X9_theWord : GoodIn wsX9_perpendicular (wsV RX9 116 RX9 yX9_theWord wsX9_theWord) := goodIn_app (goodIn_of _ (by decide +kernel)) ggX9_perpendicular_X9_theWord
set_option maxRecDepth 20000 in
theorem ggX9_perpendicular_X9_wordOf : GoodIn wsX9_perpendicular wsX9_wordOf := goodIn_r _ [35, 17, 18, 19, 5, 20, 21, 22, 23, 24, 12, 36, 37, 38, 39, 40, 41, 42, 43, 44, 45, 46, 47, 48, 49, 50, 51, 52, 53, 54, 55, 56, 57, 58, 59, 60, 61, 62] (by decide +kernel) (by decide +kernel)
set_option maxRecDepth 20000 in
theorem gX9_perpendicular_X9_wordOf : GoodIn wsX9_perpendicular (wsV RX9 78 RX9 yX9_wordOf wsX9_wordOf) := goodIn_app (goodIn_of _ (by decide +kernel)) ggX9_perpendicular_X9_wordOf
set_option maxRecDepth 20000 in
theorem ggX9_perpendicular_X9_bits : GoodIn wsX9_perpendicular wsX9_bits := goodIn_r _ [27] (by decide +kernel) (by decide +kernel)
set_option maxRecDepth 20000 in
theorem gX9_perpendicular_X9_bits : GoodIn wsX9_perpendicular (va_wsS RX9 63 yX9_bits wsX9_bits) := goodIn_app (goodIn_of _ (by decide +kernel)) ggX9_perpendicular_X9_bits
theorem dX9_perpendicular_0 : decode cX9_perpendicular 0 = .ok (.aload_n 0, 1) := by decide +kernel
theorem dX9_perpendicular_1 : decode cX9_perpendicular 1 = .ok (.invokevirtual 100, 3) := by decide +kernel
theorem dX9_perpendicular_4 : decode cX9_perpendicular 4 = .ok (.istore_n 1, 1) := by decide +kernel
theorem dX9_perpendicular_5 : decode cX9_perpendicular 5 = .ok (.iconst 1, 1) := by decide +kernel
theorem dX9_perpendicular_6 : decode cX9_perpendicular 6 = .ok (.istore_n 2, 1) := by decide +kernel
theorem dX9_perpendicular_7 : decode cX9_perpendicular 7 = .ok (.iconst 0, 1) := by decide +kernel
theorem dX9_perpendicular_8 : decode cX9_perpendicular 8 = .ok (.istore_n 3, 1) := by decide +kernel
theorem dX9_perpendicular_9 : decode cX9_perpendicular 9 = .ok (.iload_n 3, 1) := by decide +kernel
theorem dX9_perpendicular_10 : decode cX9_perpendicular 10 = .ok (.iload_n 1, 1) := by decide +kernel
theorem dX9_perpendicular_11 : decode cX9_perpendicular 11 = .ok (.if_icmp .ge 39, 3) := by decide +kernel
theorem dX9_perpendicular_14 : decode cX9_perpendicular 14 = .ok (.aload_n 0, 1) := by decide +kernel
theorem dX9_perpendicular_15 : decode cX9_perpendicular 15 = .ok (.invokevirtual 116, 3) := by decide +kernel
theorem dX9_perpendicular_18 : decode cX9_perpendicular 18 = .ok (.aload_n 0, 1) := by decide +kernel
theorem dX9_perpendicular_19 : decode cX9_perpendicular 19 = .ok (.aload_n 0, 1) := by decide +kernel
theorem dX9_perpendicular_20 : decode cX9_perpendicular 20 = .ok (.getfield 19, 3) := by decide +kernel
theorem dX9_perpendicular_23 : decode cX9_perpendicular 23 = .ok (.iload_n 3, 1) := by decide +kernel
theorem dX9_perpendicular_24 : decode cX9_perpendicular 24 = .ok (.iaload, 1) := by decide +kernel
theorem dX9_perpendicular_25 : decode cX9_perpendicular 25 = .ok (.invokevirtual 78, 3) := by decide +kernel
theorem dX9_perpendicular_28 : decode cX9_perpendicular 28 = .ok (.iand, 1) := by decide +kernel
theorem dX9_perpendicular_29 : decode cX9_perpendicular 29 = .ok (.invokestatic 63, 3) := by decide +kernel
theorem dX9_perpendicular_32 : decode cX9_perpendicular 32 = .ok (.iconst 1, 1) := by decide +kernel
theorem dX9_perpendicular_33 : decode cX9_perpendicular 33 = .ok (.iand, 1) := by decide +kernel
theorem dX9_perpendicular_34 : decode cX9_perpendicular 34 = .ok (.iconst 1, 1) := by decide +kernel
theorem dX9_perpendicular_35 : decode cX9_perpendicular 35 = .ok (.if_icmp .ne 7, 3) := by decide +kernel
theorem dX9_perpendicular_38 : decode cX9_perpendicular 38 = .ok (.iconst 0, 1) := by decide +kernel
theorem dX9_perpendicular_39 : decode cX9_perpendicular 39 = .ok (.goto 4, 3) := by decide +kernel
theorem dX9_perpendicular_42 : decode cX9_perpendicular 42 = .ok (.iload_n 2, 1) := by decide +kernel
theorem dX9_perpendicular_43 : decode cX9_perpendicular 43 = .ok (.istore_n 2, 1) := by decide +kernel
theorem dX9_perpendicular_44 : decode cX9_perpendicular 44 = .ok (.iinc 3 1, 3) := by decide +kernel
theorem dX9_perpendicular_47 : decode cX9_perpendicular 47 = .ok (.goto (-38), 3) := by decide +kernel
theorem dX9_perpendicular_50 : decode cX9_perpendicular 50 = .ok (.iload_n 2, 1) := by decide +kernel
theorem dX9_perpendicular_51 : decode cX9_perpendicular 51 = .ok (.ireturn, 1) := by decide +kernel
set_option maxRecDepth 20000 in
theorem ggX9_around_X9_places : GoodIn wsX9_around wsX9_places := goodIn_r _ [5, 6, 7, 8, 4, 9, 10, 15, 16, 17, 18, 19, 20, 21, 22, 23, 24, 25, 26, 27, 28, 29, 30, 31, 32, 33, 34, 35, 36, 37, 38, 39, 40, 41] (by decide +kernel) (by decide +kernel)
set_option maxRecDepth 20000 in
theorem gX9_around_X9_places : GoodIn wsX9_around (wsV RX9 60 RX9 yX9_places wsX9_places) := goodIn_app (goodIn_of _ (by decide +kernel)) ggX9_around_X9_places
set_option maxRecDepth 20000 in
theorem ggX9_around_X9_theWord : GoodIn wsX9_around wsX9_theWord := goodIn_r _ [14, 10, 15, 16, 17, 18, 19, 20, 21, 22, 23, 24, 25, 26, 27, 28, 29, 30, 31, 32, 33, 34, 35, 36, 37, 38, 39, 40, 41] (by decide +kernel) (by decide +kernel)
set_option maxRecDepth 20000 in
theorem gX9_around_X9_theWord : GoodIn wsX9_around (wsV RX9 116 RX9 yX9_theWord wsX9_theWord) := goodIn_app (goodIn_of _ (by decide +kernel)) ggX9_around_X9_theWord
theorem dX9_around_0 : decode cX9_around 0 = .ok (.iconst 0, 1) := by decide +kernel
theorem dX9_around_1 : decode cX9_around 1 = .ok (.istore_n 3, 1) := by decide +kernel
theorem dX9_around_2 : decode cX9_around 2 = .ok (.iconst 0, 1) := by decide +kernel
theorem dX9_around_3 : decode cX9_around 3 = .ok (.istore 4, 2) := by decide +kernel
theorem dX9_around_5 : decode cX9_around 5 = .ok (.iload 4, 2) := by decide +kernel
theorem dX9_around_7 : decode cX9_around 7 = .ok (.aload_n 0, 1) := by decide +kernel
theorem dX9_around_8 : decode cX9_around 8 = .ok (.invokevirtual 60, 3) := by decide +kernel
theorem dX9_around_11 : decode cX9_around 11 = .ok (.if_icmp .ge 45, 3) := by decide +kernel
theorem dX9_around_14 : decode cX9_around 14 = .ok (.iload 4, 2) := by decide +kernel
theorem dX9_around_16 : decode cX9_around 16 = .ok (.iload_n 1, 1) := by decide +kernel
theorem dX9_around_17 : decode cX9_around 17 = .ok (.ixor, 1) := by decide +kernel
theorem dX9_around_18 : decode cX9_around 18 = .ok (.istore 5, 2) := by decide +kernel
theorem dX9_around_20 : decode cX9_around 20 = .ok (.iload_n 3, 1) := by decide +kernel
theorem dX9_around_21 : decode cX9_around 21 = .ok (.iload 5, 2) := by decide +kernel
theorem dX9_around_23 : decode cX9_around 23 = .ok (.ifCond .eq 24, 3) := by decide +kernel
theorem dX9_around_26 : decode cX9_around 26 = .ok (.iload 5, 2) := by decide +kernel
theorem dX9_around_28 : decode cX9_around 28 = .ok (.iload_n 2, 1) := by decide +kernel
theorem dX9_around_29 : decode cX9_around 29 = .ok (.iconst (-1), 1) := by decide +kernel
theorem dX9_around_30 : decode cX9_around 30 = .ok (.ixor, 1) := by decide +kernel
theorem dX9_around_31 : decode cX9_around 31 = .ok (.iand, 1) := by decide +kernel
theorem dX9_around_32 : decode cX9_around 32 = .ok (.ifCond .ne 15, 3) := by decide +kernel
theorem dX9_around_35 : decode cX9_around 35 = .ok (.aload_n 0, 1) := by decide +kernel
theorem dX9_around_36 : decode cX9_around 36 = .ok (.invokevirtual 116, 3) := by decide +kernel
theorem dX9_around_39 : decode cX9_around 39 = .ok (.iload 4, 2) := by decide +kernel
theorem dX9_around_41 : decode cX9_around 41 = .ok (.ishr, 1) := by decide +kernel
theorem dX9_around_42 : decode cX9_around 42 = .ok (.iconst 1, 1) := by decide +kernel
theorem dX9_around_43 : decode cX9_around 43 = .ok (.iand, 1) := by decide +kernel
theorem dX9_around_44 : decode cX9_around 44 = .ok (.goto 4, 3) := by decide +kernel
theorem dX9_around_47 : decode cX9_around 47 = .ok (.iconst 0, 1) := by decide +kernel
theorem dX9_around_48 : decode cX9_around 48 = .ok (.ixor, 1) := by decide +kernel
theorem dX9_around_49 : decode cX9_around 49 = .ok (.istore_n 3, 1) := by decide +kernel
theorem dX9_around_50 : decode cX9_around 50 = .ok (.iinc 4 1, 3) := by decide +kernel
theorem dX9_around_53 : decode cX9_around 53 = .ok (.goto (-48), 3) := by decide +kernel
theorem dX9_around_56 : decode cX9_around 56 = .ok (.iload_n 3, 1) := by decide +kernel
theorem dX9_around_57 : decode cX9_around 57 = .ok (.ireturn, 1) := by decide +kernel
set_option maxRecDepth 20000 in
theorem ggX9_asked_X9_isPlace : GoodIn wsX9_asked wsX9_isPlace := goodIn_r _ [5, 6, 7, 8, 4, 9, 10, 11, 12, 13, 14, 15, 16, 17, 42, 43, 44, 45, 46, 47, 48, 49, 50, 51, 52, 53, 54, 55, 56, 57, 58, 59, 60, 61, 62, 63, 64, 65, 66, 67, 68] (by decide +kernel) (by decide +kernel)
set_option maxRecDepth 20000 in
theorem gX9_asked_X9_isPlace : GoodIn wsX9_asked (wsV RX9 122 RX9 yX9_isPlace wsX9_isPlace) := goodIn_app (goodIn_of _ (by decide +kernel)) ggX9_asked_X9_isPlace
set_option maxRecDepth 20000 in
theorem ggX9_asked_X9_bad : GoodIn wsX9_asked wsX9_bad := goodIn_r _ [21, 22, 42, 43, 44, 45, 46, 47, 48, 49, 50, 51, 52, 53, 54, 55, 56, 57, 58, 59, 60, 61, 62, 63, 64, 65, 66, 67, 68] (by decide +kernel) (by decide +kernel)
set_option maxRecDepth 20000 in
theorem gX9_asked_X9_bad : GoodIn wsX9_asked (wsV RX9 90 RX9 yX9_bad wsX9_bad) := goodIn_app (goodIn_of _ (by decide +kernel)) ggX9_asked_X9_bad
set_option maxRecDepth 20000 in
theorem ggX9_asked_X9_order : GoodIn wsX9_asked wsX9_order := goodIn_r _ [26, 14, 42, 43, 44, 45, 46, 47, 48, 49, 50, 51, 52, 53, 54, 55, 56, 57, 58, 59, 60, 61, 62, 63, 64, 65, 66, 67, 68] (by decide +kernel) (by decide +kernel)
set_option maxRecDepth 20000 in
theorem gX9_asked_X9_order : GoodIn wsX9_asked (wsV RX9 67 RX9 yX9_order wsX9_order) := goodIn_app (goodIn_of _ (by decide +kernel)) ggX9_asked_X9_order
set_option maxRecDepth 20000 in
theorem ggX9_asked_X9_length : GoodIn wsX9_asked wsX9_length := goodIn_r _ [13, 14, 42, 43, 44, 45, 46, 47, 48, 49, 50, 51, 52, 53, 54, 55, 56, 57, 58, 59, 60, 61, 62, 63, 64, 65, 66, 67, 68] (by decide +kernel) (by decide +kernel)
set_option maxRecDepth 20000 in
theorem gX9_asked_X9_length : GoodIn wsX9_asked (wsV RX9 49 RX9 yX9_length wsX9_length) := goodIn_app (goodIn_of _ (by decide +kernel)) ggX9_asked_X9_length
set_option maxRecDepth 20000 in
theorem ggX9_asked_X9_no : GoodIn wsX9_asked wsX9_no := goodIn_r _ [30, 22, 42, 43, 44, 45, 46, 47, 48, 49, 50, 51, 52, 53, 54, 55, 56, 57, 58, 59, 60, 61, 62, 63, 64, 65, 66, 67, 68] (by decide +kernel) (by decide +kernel)
set_option maxRecDepth 20000 in
theorem gX9_asked_X9_no : GoodIn wsX9_asked (wsV RX9 192 RX9 yX9_no wsX9_no) := goodIn_app (goodIn_of _ (by decide +kernel)) ggX9_asked_X9_no
set_option maxRecDepth 20000 in
theorem ggX9_asked_X9_places : GoodIn wsX9_asked wsX9_places := goodIn_r _ [9, 10, 11, 12, 4, 13, 14, 42, 43, 44, 45, 46, 47, 48, 49, 50, 51, 52, 53, 54, 55, 56, 57, 58, 59, 60, 61, 62, 63, 64, 65, 66, 67, 68] (by decide +kernel) (by decide +kernel)
set_option maxRecDepth 20000 in
theorem gX9_asked_X9_places : GoodIn wsX9_asked (wsV RX9 60 RX9 yX9_places wsX9_places) := goodIn_app (goodIn_of _ (by decide +kernel)) ggX9_asked_X9_places
set_option maxRecDepth 20000 in
theorem ggX9_asked_X9_bits : GoodIn wsX9_asked wsX9_bits := goodIn_r _ [33] (by decide +kernel) (by decide +kernel)
set_option maxRecDepth 20000 in
theorem gX9_asked_X9_bits : GoodIn wsX9_asked (va_wsS RX9 63 yX9_bits wsX9_bits) := goodIn_app (goodIn_of _ (by decide +kernel)) ggX9_asked_X9_bits
set_option maxRecDepth 20000 in
theorem ggX9_asked_X9_around : GoodIn wsX9_asked wsX9_around := goodIn_r _ [37, 6, 7, 8, 4, 9, 10, 11, 12, 13, 14, 38, 39, 40, 41, 42, 43, 44, 45, 46, 47, 48, 49, 50, 51, 52, 53, 54, 55, 56, 57, 58, 59, 60, 61, 62, 63, 64, 65, 66, 67, 68] (by decide +kernel) (by decide +kernel)
set_option maxRecDepth 20000 in
theorem gX9_asked_X9_around : GoodIn wsX9_asked (wsV RX9 229 RX9 yX9_around wsX9_around) := goodIn_app (goodIn_of _ (by decide +kernel)) ggX9_asked_X9_around
theorem dX9_asked_0 : decode cX9_asked 0 = .ok (.aload_n 0, 1) := by decide +kernel
theorem dX9_asked_1 : decode cX9_asked 1 = .ok (.iload_n 1, 1) := by decide +kernel
theorem dX9_asked_2 : decode cX9_asked 2 = .ok (.invokevirtual 122, 3) := by decide +kernel
theorem dX9_asked_5 : decode cX9_asked 5 = .ok (.ifCond .ne 10, 3) := by decide +kernel
theorem dX9_asked_8 : decode cX9_asked 8 = .ok (.aload_n 0, 1) := by decide +kernel
theorem dX9_asked_9 : decode cX9_asked 9 = .ok (.bipush (-2), 2) := by decide +kernel
theorem dX9_asked_11 : decode cX9_asked 11 = .ok (.invokevirtual 90, 3) := by decide +kernel
theorem dX9_asked_14 : decode cX9_asked 14 = .ok (.ireturn, 1) := by decide +kernel
theorem dX9_asked_15 : decode cX9_asked 15 = .ok (.aload_n 0, 1) := by decide +kernel
theorem dX9_asked_16 : decode cX9_asked 16 = .ok (.invokevirtual 67, 3) := by decide +kernel
theorem dX9_asked_19 : decode cX9_asked 19 = .ok (.aload_n 0, 1) := by decide +kernel
theorem dX9_asked_20 : decode cX9_asked 20 = .ok (.invokevirtual 49, 3) := by decide +kernel
theorem dX9_asked_23 : decode cX9_asked 23 = .ok (.if_icmp .ne 10, 3) := by decide +kernel
theorem dX9_asked_26 : decode cX9_asked 26 = .ok (.aload_n 0, 1) := by decide +kernel
theorem dX9_asked_27 : decode cX9_asked 27 = .ok (.bipush (-3), 2) := by decide +kernel
theorem dX9_asked_29 : decode cX9_asked 29 = .ok (.invokevirtual 192, 3) := by decide +kernel
theorem dX9_asked_32 : decode cX9_asked 32 = .ok (.ireturn, 1) := by decide +kernel
theorem dX9_asked_33 : decode cX9_asked 33 = .ok (.iconst 0, 1) := by decide +kernel
theorem dX9_asked_34 : decode cX9_asked 34 = .ok (.istore_n 2, 1) := by decide +kernel
theorem dX9_asked_35 : decode cX9_asked 35 = .ok (.iconst 0, 1) := by decide +kernel
theorem dX9_asked_36 : decode cX9_asked 36 = .ok (.istore_n 3, 1) := by decide +kernel
theorem dX9_asked_37 : decode cX9_asked 37 = .ok (.iload_n 3, 1) := by decide +kernel
theorem dX9_asked_38 : decode cX9_asked 38 = .ok (.aload_n 0, 1) := by decide +kernel
theorem dX9_asked_39 : decode cX9_asked 39 = .ok (.invokevirtual 60, 3) := by decide +kernel
theorem dX9_asked_42 : decode cX9_asked 42 = .ok (.if_icmp .ge 40, 3) := by decide +kernel
theorem dX9_asked_45 : decode cX9_asked 45 = .ok (.iload_n 3, 1) := by decide +kernel
theorem dX9_asked_46 : decode cX9_asked 46 = .ok (.invokestatic 63, 3) := by decide +kernel
theorem dX9_asked_49 : decode cX9_asked 49 = .ok (.aload_n 0, 1) := by decide +kernel
theorem dX9_asked_50 : decode cX9_asked 50 = .ok (.invokevirtual 67, 3) := by decide +kernel
theorem dX9_asked_53 : decode cX9_asked 53 = .ok (.iconst 1, 1) := by decide +kernel
theorem dX9_asked_54 : decode cX9_asked 54 = .ok (.iadd, 1) := by decide +kernel
theorem dX9_asked_55 : decode cX9_asked 55 = .ok (.if_icmp .ne 21, 3) := by decide +kernel
theorem dX9_asked_58 : decode cX9_asked 58 = .ok (.iload_n 2, 1) := by decide +kernel
theorem dX9_asked_59 : decode cX9_asked 59 = .ok (.aload_n 0, 1) := by decide +kernel
theorem dX9_asked_60 : decode cX9_asked 60 = .ok (.iload_n 1, 1) := by decide +kernel
theorem dX9_asked_61 : decode cX9_asked 61 = .ok (.iload_n 3, 1) := by decide +kernel
theorem dX9_asked_62 : decode cX9_asked 62 = .ok (.invokevirtual 229, 3) := by decide +kernel
theorem dX9_asked_65 : decode cX9_asked 65 = .ok (.iconst 1, 1) := by decide +kernel
theorem dX9_asked_66 : decode cX9_asked 66 = .ok (.if_icmp .ne 7, 3) := by decide +kernel
theorem dX9_asked_69 : decode cX9_asked 69 = .ok (.iconst 1, 1) := by decide +kernel
theorem dX9_asked_70 : decode cX9_asked 70 = .ok (.goto 4, 3) := by decide +kernel
theorem dX9_asked_73 : decode cX9_asked 73 = .ok (.iconst (-1), 1) := by decide +kernel
theorem dX9_asked_74 : decode cX9_asked 74 = .ok (.iadd, 1) := by decide +kernel
theorem dX9_asked_75 : decode cX9_asked 75 = .ok (.istore_n 2, 1) := by decide +kernel
theorem dX9_asked_76 : decode cX9_asked 76 = .ok (.iinc 3 1, 3) := by decide +kernel
theorem dX9_asked_79 : decode cX9_asked 79 = .ok (.goto (-42), 3) := by decide +kernel
theorem dX9_asked_82 : decode cX9_asked 82 = .ok (.iload_n 2, 1) := by decide +kernel
theorem dX9_asked_83 : decode cX9_asked 83 = .ok (.ifCond .le 7, 3) := by decide +kernel
theorem dX9_asked_86 : decode cX9_asked 86 = .ok (.iconst 1, 1) := by decide +kernel
theorem dX9_asked_87 : decode cX9_asked 87 = .ok (.goto 4, 3) := by decide +kernel
theorem dX9_asked_90 : decode cX9_asked 90 = .ok (.iconst 0, 1) := by decide +kernel
theorem dX9_asked_91 : decode cX9_asked 91 = .ok (.ireturn, 1) := by decide +kernel
set_option maxRecDepth 20000 in
theorem ggX9_type_X9_in : GoodIn wsX9_type wsX9_in := goodIn_r _ [7] (by decide +kernel) (by decide +kernel)
set_option maxRecDepth 20000 in
theorem gX9_type_X9_in : GoodIn wsX9_type (va_wsS RX9 83 yX9_in wsX9_in) := goodIn_app (goodIn_of _ (by decide +kernel)) ggX9_type_X9_in
set_option maxRecDepth 20000 in
theorem ggX9_type_X9_bad : GoodIn wsX9_type wsX9_bad := goodIn_r _ [11, 12, 17, 18, 19, 20, 21, 22, 23, 24, 25, 26, 27, 28, 29, 30, 31, 32, 33, 34, 35, 36, 37, 38, 39, 40, 41, 42, 43] (by decide +kernel) (by decide +kernel)
set_option maxRecDepth 20000 in
theorem gX9_type_X9_bad : GoodIn wsX9_type (wsV RX9 90 RX9 yX9_bad wsX9_bad) := goodIn_app (goodIn_of _ (by decide +kernel)) ggX9_type_X9_bad
set_option maxRecDepth 20000 in
theorem ggX9_type_X9_full : GoodIn wsX9_type wsX9_full := goodIn_r _ [16, 12, 17, 18, 19, 20, 21, 22, 23, 24, 25, 26, 27, 28, 29, 30, 31, 32, 33, 34, 35, 36, 37, 38, 39, 40, 41, 42, 43] (by decide +kernel) (by decide +kernel)
set_option maxRecDepth 20000 in
theorem gX9_type_X9_full : GoodIn wsX9_type (wsV RX9 237 RX9 yX9_full wsX9_full) := goodIn_app (goodIn_of _ (by decide +kernel)) ggX9_type_X9_full
theorem dX9_type_0 : decode cX9_type 0 = .ok (.iload_n 1, 1) := by decide +kernel
theorem dX9_type_1 : decode cX9_type 1 = .ok (.i2l, 1) := by decide +kernel
theorem dX9_type_2 : decode cX9_type 2 = .ok (.lconst 0, 1) := by decide +kernel
theorem dX9_type_3 : decode cX9_type 3 = .ok (.ldc2_w 232, 3) := by decide +kernel
theorem dX9_type_6 : decode cX9_type 6 = .ok (.invokestatic 83, 3) := by decide +kernel
theorem dX9_type_9 : decode cX9_type 9 = .ok (.ifCond .ne 10, 3) := by decide +kernel
theorem dX9_type_12 : decode cX9_type 12 = .ok (.aload_n 0, 1) := by decide +kernel
theorem dX9_type_13 : decode cX9_type 13 = .ok (.bipush (-2), 2) := by decide +kernel
theorem dX9_type_15 : decode cX9_type 15 = .ok (.invokevirtual 90, 3) := by decide +kernel
theorem dX9_type_18 : decode cX9_type 18 = .ok (.ireturn, 1) := by decide +kernel
theorem dX9_type_19 : decode cX9_type 19 = .ok (.aload_n 0, 1) := by decide +kernel
theorem dX9_type_20 : decode cX9_type 20 = .ok (.getfield 234, 3) := by decide +kernel
theorem dX9_type_23 : decode cX9_type 23 = .ok (.bipush 120, 2) := by decide +kernel
theorem dX9_type_25 : decode cX9_type 25 = .ok (.if_icmp .ne 8, 3) := by decide +kernel
theorem dX9_type_28 : decode cX9_type 28 = .ok (.aload_n 0, 1) := by decide +kernel
theorem dX9_type_29 : decode cX9_type 29 = .ok (.invokevirtual 237, 3) := by decide +kernel
theorem dX9_type_32 : decode cX9_type 32 = .ok (.ireturn, 1) := by decide +kernel
theorem dX9_type_33 : decode cX9_type 33 = .ok (.aload_n 0, 1) := by decide +kernel
theorem dX9_type_34 : decode cX9_type 34 = .ok (.getfield 40, 3) := by decide +kernel
theorem dX9_type_37 : decode cX9_type 37 = .ok (.aload_n 0, 1) := by decide +kernel
theorem dX9_type_38 : decode cX9_type 38 = .ok (.getfield 234, 3) := by decide +kernel
theorem dX9_type_41 : decode cX9_type 41 = .ok (.iload_n 1, 1) := by decide +kernel
theorem dX9_type_42 : decode cX9_type 42 = .ok (.iastore, 1) := by decide +kernel
theorem dX9_type_43 : decode cX9_type 43 = .ok (.aload_n 0, 1) := by decide +kernel
theorem dX9_type_44 : decode cX9_type 44 = .ok (.dup, 1) := by decide +kernel
theorem dX9_type_45 : decode cX9_type 45 = .ok (.getfield 234, 3) := by decide +kernel
theorem dX9_type_48 : decode cX9_type 48 = .ok (.iconst 1, 1) := by decide +kernel
theorem dX9_type_49 : decode cX9_type 49 = .ok (.iadd, 1) := by decide +kernel
theorem dX9_type_50 : decode cX9_type 50 = .ok (.putfield 234, 3) := by decide +kernel
theorem dX9_type_53 : decode cX9_type 53 = .ok (.aload_n 0, 1) := by decide +kernel
theorem dX9_type_54 : decode cX9_type 54 = .ok (.getfield 234, 3) := by decide +kernel
theorem dX9_type_57 : decode cX9_type 57 = .ok (.ireturn, 1) := by decide +kernel
theorem dX9_clear_0 : decode cX9_clear 0 = .ok (.aload_n 0, 1) := by decide +kernel
theorem dX9_clear_1 : decode cX9_clear 1 = .ok (.getfield 234, 3) := by decide +kernel
theorem dX9_clear_4 : decode cX9_clear 4 = .ok (.istore_n 1, 1) := by decide +kernel
theorem dX9_clear_5 : decode cX9_clear 5 = .ok (.aload_n 0, 1) := by decide +kernel
theorem dX9_clear_6 : decode cX9_clear 6 = .ok (.iconst 0, 1) := by decide +kernel
theorem dX9_clear_7 : decode cX9_clear 7 = .ok (.putfield 234, 3) := by decide +kernel
theorem dX9_clear_10 : decode cX9_clear 10 = .ok (.iload_n 1, 1) := by decide +kernel
theorem dX9_clear_11 : decode cX9_clear 11 = .ok (.ireturn, 1) := by decide +kernel
theorem dX9_here_0 : decode cX9_here 0 = .ok (.aload_n 0, 1) := by decide +kernel
theorem dX9_here_1 : decode cX9_here 1 = .ok (.getfield 240, 3) := by decide +kernel
theorem dX9_here_4 : decode cX9_here 4 = .ok (.aload_n 0, 1) := by decide +kernel
theorem dX9_here_5 : decode cX9_here 5 = .ok (.getfield 234, 3) := by decide +kernel
theorem dX9_here_8 : decode cX9_here 8 = .ok (.if_icmp .ge 30, 3) := by decide +kernel
theorem dX9_here_11 : decode cX9_here 11 = .ok (.aload_n 0, 1) := by decide +kernel
theorem dX9_here_12 : decode cX9_here 12 = .ok (.getfield 40, 3) := by decide +kernel
theorem dX9_here_15 : decode cX9_here 15 = .ok (.aload_n 0, 1) := by decide +kernel
theorem dX9_here_16 : decode cX9_here 16 = .ok (.getfield 240, 3) := by decide +kernel
theorem dX9_here_19 : decode cX9_here 19 = .ok (.iaload, 1) := by decide +kernel
theorem dX9_here_20 : decode cX9_here 20 = .ok (.bipush 32, 2) := by decide +kernel
theorem dX9_here_22 : decode cX9_here 22 = .ok (.if_icmp .ne 16, 3) := by decide +kernel
theorem dX9_here_25 : decode cX9_here 25 = .ok (.aload_n 0, 1) := by decide +kernel
theorem dX9_here_26 : decode cX9_here 26 = .ok (.dup, 1) := by decide +kernel
theorem dX9_here_27 : decode cX9_here 27 = .ok (.getfield 240, 3) := by decide +kernel
theorem dX9_here_30 : decode cX9_here 30 = .ok (.iconst 1, 1) := by decide +kernel
theorem dX9_here_31 : decode cX9_here 31 = .ok (.iadd, 1) := by decide +kernel
theorem dX9_here_32 : decode cX9_here 32 = .ok (.putfield 240, 3) := by decide +kernel
theorem dX9_here_35 : decode cX9_here 35 = .ok (.goto (-35), 3) := by decide +kernel
theorem dX9_here_38 : decode cX9_here 38 = .ok (.aload_n 0, 1) := by decide +kernel
theorem dX9_here_39 : decode cX9_here 39 = .ok (.getfield 240, 3) := by decide +kernel
theorem dX9_here_42 : decode cX9_here 42 = .ok (.aload_n 0, 1) := by decide +kernel
theorem dX9_here_43 : decode cX9_here 43 = .ok (.getfield 234, 3) := by decide +kernel
theorem dX9_here_46 : decode cX9_here 46 = .ok (.if_icmp .ge 15, 3) := by decide +kernel
theorem dX9_here_49 : decode cX9_here 49 = .ok (.aload_n 0, 1) := by decide +kernel
theorem dX9_here_50 : decode cX9_here 50 = .ok (.getfield 40, 3) := by decide +kernel
theorem dX9_here_53 : decode cX9_here 53 = .ok (.aload_n 0, 1) := by decide +kernel
theorem dX9_here_54 : decode cX9_here 54 = .ok (.getfield 240, 3) := by decide +kernel
theorem dX9_here_57 : decode cX9_here 57 = .ok (.iaload, 1) := by decide +kernel
theorem dX9_here_58 : decode cX9_here 58 = .ok (.goto 4, 3) := by decide +kernel
theorem dX9_here_61 : decode cX9_here 61 = .ok (.iconst (-1), 1) := by decide +kernel
theorem dX9_here_62 : decode cX9_here 62 = .ok (.ireturn, 1) := by decide +kernel
set_option maxRecDepth 20000 in
theorem ggX9_isFigure_X9_in : GoodIn wsX9_isFigure wsX9_in := goodIn_r _ [8] (by decide +kernel) (by decide +kernel)
set_option maxRecDepth 20000 in
theorem gX9_isFigure_X9_in : GoodIn wsX9_isFigure (va_wsS RX9 83 yX9_in wsX9_in) := goodIn_app (goodIn_of _ (by decide +kernel)) ggX9_isFigure_X9_in
theorem dX9_isFigure_0 : decode cX9_isFigure 0 = .ok (.iload_n 1, 1) := by decide +kernel
theorem dX9_isFigure_1 : decode cX9_isFigure 1 = .ok (.aload_n 0, 1) := by decide +kernel
theorem dX9_isFigure_2 : decode cX9_isFigure 2 = .ok (.getfield 234, 3) := by decide +kernel
theorem dX9_isFigure_5 : decode cX9_isFigure 5 = .ok (.if_icmp .ge 26, 3) := by decide +kernel
theorem dX9_isFigure_8 : decode cX9_isFigure 8 = .ok (.aload_n 0, 1) := by decide +kernel
theorem dX9_isFigure_9 : decode cX9_isFigure 9 = .ok (.getfield 40, 3) := by decide +kernel
theorem dX9_isFigure_12 : decode cX9_isFigure 12 = .ok (.iload_n 1, 1) := by decide +kernel
theorem dX9_isFigure_13 : decode cX9_isFigure 13 = .ok (.iaload, 1) := by decide +kernel
theorem dX9_isFigure_14 : decode cX9_isFigure 14 = .ok (.i2l, 1) := by decide +kernel
theorem dX9_isFigure_15 : decode cX9_isFigure 15 = .ok (.ldc2_w 243, 3) := by decide +kernel
theorem dX9_isFigure_18 : decode cX9_isFigure 18 = .ok (.ldc2_w 245, 3) := by decide +kernel
theorem dX9_isFigure_21 : decode cX9_isFigure 21 = .ok (.invokestatic 83, 3) := by decide +kernel
theorem dX9_isFigure_24 : decode cX9_isFigure 24 = .ok (.ifCond .eq 7, 3) := by decide +kernel
theorem dX9_isFigure_27 : decode cX9_isFigure 27 = .ok (.iconst 1, 1) := by decide +kernel
theorem dX9_isFigure_28 : decode cX9_isFigure 28 = .ok (.goto 4, 3) := by decide +kernel
theorem dX9_isFigure_31 : decode cX9_isFigure 31 = .ok (.iconst 0, 1) := by decide +kernel
theorem dX9_isFigure_32 : decode cX9_isFigure 32 = .ok (.ireturn, 1) := by decide +kernel
set_option maxRecDepth 20000 in
theorem ggX9_takes_X9_here : GoodIn wsX9_takes wsX9_here := goodIn_r _ [9, 1, 10, 2, 20, 21, 22, 23, 24, 25, 26, 27, 28, 29, 30, 31, 32, 33, 34, 35, 36, 37, 38, 39, 40, 41, 42, 43, 44, 45, 46] (by decide +kernel) (by decide +kernel)
set_option maxRecDepth 20000 in
theorem gX9_takes_X9_here : GoodIn wsX9_takes (wsV RX9 247 RX9 yX9_here wsX9_here) := goodIn_app (goodIn_of _ (by decide +kernel)) ggX9_takes_X9_here
set_option maxRecDepth 20000 in
theorem ggX9_takes_X9_isFigure : GoodIn wsX9_takes wsX9_isFigure := goodIn_r _ [14, 10, 2, 15, 16, 17, 18, 8, 19, 20, 21, 22, 23, 24, 25, 26, 27, 28, 29, 30, 31, 32, 33, 34, 35, 36, 37, 38, 39, 40, 41, 42, 43, 44, 45, 46] (by decide +kernel) (by decide +kernel)
set_option maxRecDepth 20000 in
theorem gX9_takes_X9_isFigure : GoodIn wsX9_takes (wsV RX9 250 RX9 yX9_isFigure wsX9_isFigure) := goodIn_app (goodIn_of _ (by decide +kernel)) ggX9_takes_X9_isFigure
set_option maxRecDepth 20000 in
theorem ggX9_takes_X9_in : GoodIn wsX9_takes wsX9_in := goodIn_r _ [19] (by decide +kernel) (by decide +kernel)
set_option maxRecDepth 20000 in
theorem gX9_takes_X9_in : GoodIn wsX9_takes (va_wsS RX9 83 yX9_in wsX9_in) := goodIn_app (goodIn_of _ (by decide +kernel)) ggX9_takes_X9_in
theorem dX9_takes_0 : decode cX9_takes 0 = .ok (.aload_n 0, 1) := by decide +kernel
theorem dX9_takes_1 : decode cX9_takes 1 = .ok (.invokevirtual 247, 3) := by decide +kernel
theorem dX9_takes_4 : decode cX9_takes 4 = .ok (.bipush 45, 2) := by decide +kernel
theorem dX9_takes_6 : decode cX9_takes 6 = .ok (.if_icmp .ne 11, 3) := by decide +kernel
theorem dX9_takes_9 : decode cX9_takes 9 = .ok (.iload_n 1, 1) := by decide +kernel
theorem dX9_takes_10 : decode cX9_takes 10 = .ok (.ifCond .ge 7, 3) := by decide +kernel
theorem dX9_takes_13 : decode cX9_takes 13 = .ok (.iconst 1, 1) := by decide +kernel
theorem dX9_takes_14 : decode cX9_takes 14 = .ok (.goto 4, 3) := by decide +kernel
theorem dX9_takes_17 : decode cX9_takes 17 = .ok (.iconst 0, 1) := by decide +kernel
theorem dX9_takes_18 : decode cX9_takes 18 = .ok (.istore_n 3, 1) := by decide +kernel
theorem dX9_takes_19 : decode cX9_takes 19 = .ok (.aload_n 0, 1) := by decide +kernel
theorem dX9_takes_20 : decode cX9_takes 20 = .ok (.getfield 240, 3) := by decide +kernel
theorem dX9_takes_23 : decode cX9_takes 23 = .ok (.iload_n 3, 1) := by decide +kernel
theorem dX9_takes_24 : decode cX9_takes 24 = .ok (.ifCond .eq 7, 3) := by decide +kernel
theorem dX9_takes_27 : decode cX9_takes 27 = .ok (.iconst 1, 1) := by decide +kernel
theorem dX9_takes_28 : decode cX9_takes 28 = .ok (.goto 4, 3) := by decide +kernel
theorem dX9_takes_31 : decode cX9_takes 31 = .ok (.iconst 0, 1) := by decide +kernel
theorem dX9_takes_32 : decode cX9_takes 32 = .ok (.iadd, 1) := by decide +kernel
theorem dX9_takes_33 : decode cX9_takes 33 = .ok (.istore 4, 2) := by decide +kernel
theorem dX9_takes_35 : decode cX9_takes 35 = .ok (.iload 4, 2) := by decide +kernel
theorem dX9_takes_37 : decode cX9_takes 37 = .ok (.istore 5, 2) := by decide +kernel
theorem dX9_takes_39 : decode cX9_takes 39 = .ok (.iconst 0, 1) := by decide +kernel
theorem dX9_takes_40 : decode cX9_takes 40 = .ok (.istore 6, 2) := by decide +kernel
theorem dX9_takes_42 : decode cX9_takes 42 = .ok (.aload_n 0, 1) := by decide +kernel
theorem dX9_takes_43 : decode cX9_takes 43 = .ok (.iload 4, 2) := by decide +kernel
theorem dX9_takes_45 : decode cX9_takes 45 = .ok (.invokevirtual 250, 3) := by decide +kernel
theorem dX9_takes_48 : decode cX9_takes 48 = .ok (.ifCond .eq 36, 3) := by decide +kernel
theorem dX9_takes_51 : decode cX9_takes 51 = .ok (.iload 4, 2) := by decide +kernel
theorem dX9_takes_53 : decode cX9_takes 53 = .ok (.iload 5, 2) := by decide +kernel
theorem dX9_takes_55 : decode cX9_takes 55 = .ok (.isub, 1) := by decide +kernel
theorem dX9_takes_56 : decode cX9_takes 56 = .ok (.iconst 3, 1) := by decide +kernel
theorem dX9_takes_57 : decode cX9_takes 57 = .ok (.if_icmp .ge 27, 3) := by decide +kernel
theorem dX9_takes_60 : decode cX9_takes 60 = .ok (.bipush 10, 2) := by decide +kernel
theorem dX9_takes_62 : decode cX9_takes 62 = .ok (.iload 6, 2) := by decide +kernel
theorem dX9_takes_64 : decode cX9_takes 64 = .ok (.imul, 1) := by decide +kernel
theorem dX9_takes_65 : decode cX9_takes 65 = .ok (.aload_n 0, 1) := by decide +kernel
theorem dX9_takes_66 : decode cX9_takes 66 = .ok (.getfield 40, 3) := by decide +kernel
theorem dX9_takes_69 : decode cX9_takes 69 = .ok (.iload 4, 2) := by decide +kernel
theorem dX9_takes_71 : decode cX9_takes 71 = .ok (.iaload, 1) := by decide +kernel
theorem dX9_takes_72 : decode cX9_takes 72 = .ok (.iadd, 1) := by decide +kernel
theorem dX9_takes_73 : decode cX9_takes 73 = .ok (.bipush 48, 2) := by decide +kernel
theorem dX9_takes_75 : decode cX9_takes 75 = .ok (.isub, 1) := by decide +kernel
theorem dX9_takes_76 : decode cX9_takes 76 = .ok (.istore 6, 2) := by decide +kernel
theorem dX9_takes_78 : decode cX9_takes 78 = .ok (.iinc 4 1, 3) := by decide +kernel
theorem dX9_takes_81 : decode cX9_takes 81 = .ok (.goto (-39), 3) := by decide +kernel
theorem dX9_takes_84 : decode cX9_takes 84 = .ok (.aload_n 0, 1) := by decide +kernel
theorem dX9_takes_85 : decode cX9_takes 85 = .ok (.iload_n 3, 1) := by decide +kernel
theorem dX9_takes_86 : decode cX9_takes 86 = .ok (.ifCond .eq 9, 3) := by decide +kernel
theorem dX9_takes_89 : decode cX9_takes 89 = .ok (.iload 6, 2) := by decide +kernel
theorem dX9_takes_91 : decode cX9_takes 91 = .ok (.ineg, 1) := by decide +kernel
theorem dX9_takes_92 : decode cX9_takes 92 = .ok (.goto 5, 3) := by decide +kernel
theorem dX9_takes_95 : decode cX9_takes 95 = .ok (.iload 6, 2) := by decide +kernel
theorem dX9_takes_97 : decode cX9_takes 97 = .ok (.putfield 253, 3) := by decide +kernel
theorem dX9_takes_100 : decode cX9_takes 100 = .ok (.iload 4, 2) := by decide +kernel
theorem dX9_takes_102 : decode cX9_takes 102 = .ok (.iload 5, 2) := by decide +kernel
theorem dX9_takes_104 : decode cX9_takes 104 = .ok (.isub, 1) := by decide +kernel
theorem dX9_takes_105 : decode cX9_takes 105 = .ok (.i2l, 1) := by decide +kernel
theorem dX9_takes_106 : decode cX9_takes 106 = .ok (.lconst 1, 1) := by decide +kernel
theorem dX9_takes_107 : decode cX9_takes 107 = .ok (.ldc2_w 171, 3) := by decide +kernel
theorem dX9_takes_110 : decode cX9_takes 110 = .ok (.invokestatic 83, 3) := by decide +kernel
theorem dX9_takes_113 : decode cX9_takes 113 = .ok (.ifCond .eq 22, 3) := by decide +kernel
theorem dX9_takes_116 : decode cX9_takes 116 = .ok (.aload_n 0, 1) := by decide +kernel
theorem dX9_takes_117 : decode cX9_takes 117 = .ok (.getfield 253, 3) := by decide +kernel
theorem dX9_takes_120 : decode cX9_takes 120 = .ok (.i2l, 1) := by decide +kernel
theorem dX9_takes_121 : decode cX9_takes 121 = .ok (.iload_n 1, 1) := by decide +kernel
theorem dX9_takes_122 : decode cX9_takes 122 = .ok (.i2l, 1) := by decide +kernel
theorem dX9_takes_123 : decode cX9_takes 123 = .ok (.iload_n 2, 1) := by decide +kernel
theorem dX9_takes_124 : decode cX9_takes 124 = .ok (.i2l, 1) := by decide +kernel
theorem dX9_takes_125 : decode cX9_takes 125 = .ok (.invokestatic 83, 3) := by decide +kernel
theorem dX9_takes_128 : decode cX9_takes 128 = .ok (.ifCond .eq 7, 3) := by decide +kernel
theorem dX9_takes_131 : decode cX9_takes 131 = .ok (.iconst 1, 1) := by decide +kernel
theorem dX9_takes_132 : decode cX9_takes 132 = .ok (.goto 4, 3) := by decide +kernel
theorem dX9_takes_135 : decode cX9_takes 135 = .ok (.iconst 0, 1) := by decide +kernel
theorem dX9_takes_136 : decode cX9_takes 136 = .ok (.istore 7, 2) := by decide +kernel
theorem dX9_takes_138 : decode cX9_takes 138 = .ok (.aload_n 0, 1) := by decide +kernel
theorem dX9_takes_139 : decode cX9_takes 139 = .ok (.iload 7, 2) := by decide +kernel
theorem dX9_takes_141 : decode cX9_takes 141 = .ok (.ifCond .eq 8, 3) := by decide +kernel
theorem dX9_takes_144 : decode cX9_takes 144 = .ok (.iload 4, 2) := by decide +kernel
theorem dX9_takes_146 : decode cX9_takes 146 = .ok (.goto 7, 3) := by decide +kernel
theorem dX9_takes_149 : decode cX9_takes 149 = .ok (.aload_n 0, 1) := by decide +kernel
theorem dX9_takes_150 : decode cX9_takes 150 = .ok (.getfield 240, 3) := by decide +kernel
theorem dX9_takes_153 : decode cX9_takes 153 = .ok (.putfield 240, 3) := by decide +kernel
theorem dX9_takes_156 : decode cX9_takes 156 = .ok (.iload 7, 2) := by decide +kernel
theorem dX9_takes_158 : decode cX9_takes 158 = .ok (.ireturn, 1) := by decide +kernel
set_option maxRecDepth 20000 in
theorem ggX9_hexAt_X9_in : GoodIn wsX9_hexAt wsX9_in := goodIn_r _ [10] (by decide +kernel) (by decide +kernel)
set_option maxRecDepth 20000 in
theorem gX9_hexAt_X9_in : GoodIn wsX9_hexAt (va_wsS RX9 83 yX9_in wsX9_in) := goodIn_app (goodIn_of _ (by decide +kernel)) ggX9_hexAt_X9_in
theorem dX9_hexAt_0 : decode cX9_hexAt 0 = .ok (.iload_n 1, 1) := by decide +kernel
theorem dX9_hexAt_1 : decode cX9_hexAt 1 = .ok (.aload_n 0, 1) := by decide +kernel
theorem dX9_hexAt_2 : decode cX9_hexAt 2 = .ok (.getfield 234, 3) := by decide +kernel
theorem dX9_hexAt_5 : decode cX9_hexAt 5 = .ok (.if_icmp .ge 12, 3) := by decide +kernel
theorem dX9_hexAt_8 : decode cX9_hexAt 8 = .ok (.aload_n 0, 1) := by decide +kernel
theorem dX9_hexAt_9 : decode cX9_hexAt 9 = .ok (.getfield 40, 3) := by decide +kernel
theorem dX9_hexAt_12 : decode cX9_hexAt 12 = .ok (.iload_n 1, 1) := by decide +kernel
theorem dX9_hexAt_13 : decode cX9_hexAt 13 = .ok (.iaload, 1) := by decide +kernel
theorem dX9_hexAt_14 : decode cX9_hexAt 14 = .ok (.goto 4, 3) := by decide +kernel
theorem dX9_hexAt_17 : decode cX9_hexAt 17 = .ok (.iconst 0, 1) := by decide +kernel
theorem dX9_hexAt_18 : decode cX9_hexAt 18 = .ok (.istore_n 2, 1) := by decide +kernel
theorem dX9_hexAt_19 : decode cX9_hexAt 19 = .ok (.iload_n 2, 1) := by decide +kernel
theorem dX9_hexAt_20 : decode cX9_hexAt 20 = .ok (.i2l, 1) := by decide +kernel
theorem dX9_hexAt_21 : decode cX9_hexAt 21 = .ok (.ldc2_w 243, 3) := by decide +kernel
theorem dX9_hexAt_24 : decode cX9_hexAt 24 = .ok (.ldc2_w 245, 3) := by decide +kernel
theorem dX9_hexAt_27 : decode cX9_hexAt 27 = .ok (.invokestatic 83, 3) := by decide +kernel
theorem dX9_hexAt_30 : decode cX9_hexAt 30 = .ok (.ifCond .eq 10, 3) := by decide +kernel
theorem dX9_hexAt_33 : decode cX9_hexAt 33 = .ok (.iload_n 2, 1) := by decide +kernel
theorem dX9_hexAt_34 : decode cX9_hexAt 34 = .ok (.bipush 48, 2) := by decide +kernel
theorem dX9_hexAt_36 : decode cX9_hexAt 36 = .ok (.isub, 1) := by decide +kernel
theorem dX9_hexAt_37 : decode cX9_hexAt 37 = .ok (.goto 28, 3) := by decide +kernel
theorem dX9_hexAt_40 : decode cX9_hexAt 40 = .ok (.iload_n 2, 1) := by decide +kernel
theorem dX9_hexAt_41 : decode cX9_hexAt 41 = .ok (.i2l, 1) := by decide +kernel
theorem dX9_hexAt_42 : decode cX9_hexAt 42 = .ok (.ldc2_w 256, 3) := by decide +kernel
theorem dX9_hexAt_45 : decode cX9_hexAt 45 = .ok (.ldc2_w 258, 3) := by decide +kernel
theorem dX9_hexAt_48 : decode cX9_hexAt 48 = .ok (.invokestatic 83, 3) := by decide +kernel
theorem dX9_hexAt_51 : decode cX9_hexAt 51 = .ok (.ifCond .eq 13, 3) := by decide +kernel
theorem dX9_hexAt_54 : decode cX9_hexAt 54 = .ok (.iload_n 2, 1) := by decide +kernel
theorem dX9_hexAt_55 : decode cX9_hexAt 55 = .ok (.bipush 97, 2) := by decide +kernel
theorem dX9_hexAt_57 : decode cX9_hexAt 57 = .ok (.isub, 1) := by decide +kernel
theorem dX9_hexAt_58 : decode cX9_hexAt 58 = .ok (.bipush 10, 2) := by decide +kernel
theorem dX9_hexAt_60 : decode cX9_hexAt 60 = .ok (.iadd, 1) := by decide +kernel
theorem dX9_hexAt_61 : decode cX9_hexAt 61 = .ok (.goto 4, 3) := by decide +kernel
theorem dX9_hexAt_64 : decode cX9_hexAt 64 = .ok (.iconst (-1), 1) := by decide +kernel
theorem dX9_hexAt_65 : decode cX9_hexAt 65 = .ok (.ireturn, 1) := by decide +kernel
set_option maxRecDepth 20000 in
theorem ggX9_takesHex_X9_here : GoodIn wsX9_takesHex wsX9_here := goodIn_r _ [8, 1, 9, 10, 29, 30, 31, 32, 33, 34, 35, 36, 37, 38, 39, 40, 41, 42, 43, 44, 45, 46, 47, 48, 49, 50, 51, 52, 53, 54, 55] (by decide +kernel) (by decide +kernel)
set_option maxRecDepth 20000 in
theorem gX9_takesHex_X9_here : GoodIn wsX9_takesHex (wsV RX9 247 RX9 yX9_here wsX9_here) := goodIn_app (goodIn_of _ (by decide +kernel)) ggX9_takesHex_X9_here
set_option maxRecDepth 20000 in
theorem ggX9_takesHex_X9_hexAt : GoodIn wsX9_takesHex wsX9_hexAt := goodIn_r _ [14, 9, 10, 15, 16, 17, 18, 19, 20, 7, 21, 29, 30, 31, 32, 33, 34, 35, 36, 37, 38, 39, 40, 41, 42, 43, 44, 45, 46, 47, 48, 49, 50, 51, 52, 53, 54, 55] (by decide +kernel) (by decide +kernel)
set_option maxRecDepth 20000 in
theorem gX9_takesHex_X9_hexAt : GoodIn wsX9_takesHex (wsV RX9 260 RX9 yX9_hexAt wsX9_hexAt) := goodIn_app (goodIn_of _ (by decide +kernel)) ggX9_takesHex_X9_hexAt
set_option maxRecDepth 20000 in
theorem ggX9_takesHex_X9_in : GoodIn wsX9_takesHex wsX9_in := goodIn_r _ [21] (by decide +kernel) (by decide +kernel)
set_option maxRecDepth 20000 in
theorem gX9_takesHex_X9_in : GoodIn wsX9_takesHex (va_wsS RX9 83 yX9_in wsX9_in) := goodIn_app (goodIn_of _ (by decide +kernel)) ggX9_takesHex_X9_in
set_option maxRecDepth 20000 in
theorem ggX9_takesHex_X9_isWithin : GoodIn wsX9_takesHex wsX9_isWithin := goodIn_r _ [25, 26, 27, 7, 28] (by decide +kernel) (by decide +kernel)
set_option maxRecDepth 20000 in
theorem gX9_takesHex_X9_isWithin : GoodIn wsX9_takesHex (wsV RX9 109 RX9 yX9_isWithin wsX9_isWithin) := goodIn_app (goodIn_of _ (by decide +kernel)) ggX9_takesHex_X9_isWithin
theorem dX9_takesHex_0 : decode cX9_takesHex 0 = .ok (.aload_n 0, 1) := by decide +kernel
theorem dX9_takesHex_1 : decode cX9_takesHex 1 = .ok (.invokevirtual 247, 3) := by decide +kernel
theorem dX9_takesHex_4 : decode cX9_takesHex 4 = .ok (.istore_n 2, 1) := by decide +kernel
theorem dX9_takesHex_5 : decode cX9_takesHex 5 = .ok (.aload_n 0, 1) := by decide +kernel
theorem dX9_takesHex_6 : decode cX9_takesHex 6 = .ok (.getfield 240, 3) := by decide +kernel
theorem dX9_takesHex_9 : decode cX9_takesHex 9 = .ok (.istore_n 3, 1) := by decide +kernel
theorem dX9_takesHex_10 : decode cX9_takesHex 10 = .ok (.aload_n 0, 1) := by decide +kernel
theorem dX9_takesHex_11 : decode cX9_takesHex 11 = .ok (.iconst 0, 1) := by decide +kernel
theorem dX9_takesHex_12 : decode cX9_takesHex 12 = .ok (.putfield 253, 3) := by decide +kernel
theorem dX9_takesHex_15 : decode cX9_takesHex 15 = .ok (.aload_n 0, 1) := by decide +kernel
theorem dX9_takesHex_16 : decode cX9_takesHex 16 = .ok (.iload_n 3, 1) := by decide +kernel
theorem dX9_takesHex_17 : decode cX9_takesHex 17 = .ok (.invokevirtual 260, 3) := by decide +kernel
theorem dX9_takesHex_20 : decode cX9_takesHex 20 = .ok (.iconst (-1), 1) := by decide +kernel
theorem dX9_takesHex_21 : decode cX9_takesHex 21 = .ok (.if_icmp .eq 37, 3) := by decide +kernel
theorem dX9_takesHex_24 : decode cX9_takesHex 24 = .ok (.iload_n 3, 1) := by decide +kernel
theorem dX9_takesHex_25 : decode cX9_takesHex 25 = .ok (.aload_n 0, 1) := by decide +kernel
theorem dX9_takesHex_26 : decode cX9_takesHex 26 = .ok (.getfield 240, 3) := by decide +kernel
theorem dX9_takesHex_29 : decode cX9_takesHex 29 = .ok (.isub, 1) := by decide +kernel
theorem dX9_takesHex_30 : decode cX9_takesHex 30 = .ok (.bipush 9, 2) := by decide +kernel
theorem dX9_takesHex_32 : decode cX9_takesHex 32 = .ok (.if_icmp .ge 26, 3) := by decide +kernel
theorem dX9_takesHex_35 : decode cX9_takesHex 35 = .ok (.aload_n 0, 1) := by decide +kernel
theorem dX9_takesHex_36 : decode cX9_takesHex 36 = .ok (.bipush 16, 2) := by decide +kernel
theorem dX9_takesHex_38 : decode cX9_takesHex 38 = .ok (.aload_n 0, 1) := by decide +kernel
theorem dX9_takesHex_39 : decode cX9_takesHex 39 = .ok (.getfield 253, 3) := by decide +kernel
theorem dX9_takesHex_42 : decode cX9_takesHex 42 = .ok (.imul, 1) := by decide +kernel
theorem dX9_takesHex_43 : decode cX9_takesHex 43 = .ok (.aload_n 0, 1) := by decide +kernel
theorem dX9_takesHex_44 : decode cX9_takesHex 44 = .ok (.iload_n 3, 1) := by decide +kernel
theorem dX9_takesHex_45 : decode cX9_takesHex 45 = .ok (.invokevirtual 260, 3) := by decide +kernel
theorem dX9_takesHex_48 : decode cX9_takesHex 48 = .ok (.iadd, 1) := by decide +kernel
theorem dX9_takesHex_49 : decode cX9_takesHex 49 = .ok (.putfield 253, 3) := by decide +kernel
theorem dX9_takesHex_52 : decode cX9_takesHex 52 = .ok (.iinc 3 1, 3) := by decide +kernel
theorem dX9_takesHex_55 : decode cX9_takesHex 55 = .ok (.goto (-40), 3) := by decide +kernel
theorem dX9_takesHex_58 : decode cX9_takesHex 58 = .ok (.iload_n 3, 1) := by decide +kernel
theorem dX9_takesHex_59 : decode cX9_takesHex 59 = .ok (.aload_n 0, 1) := by decide +kernel
theorem dX9_takesHex_60 : decode cX9_takesHex 60 = .ok (.getfield 240, 3) := by decide +kernel
theorem dX9_takesHex_63 : decode cX9_takesHex 63 = .ok (.isub, 1) := by decide +kernel
theorem dX9_takesHex_64 : decode cX9_takesHex 64 = .ok (.i2l, 1) := by decide +kernel
theorem dX9_takesHex_65 : decode cX9_takesHex 65 = .ok (.lconst 1, 1) := by decide +kernel
theorem dX9_takesHex_66 : decode cX9_takesHex 66 = .ok (.ldc2_w 263, 3) := by decide +kernel
theorem dX9_takesHex_69 : decode cX9_takesHex 69 = .ok (.invokestatic 83, 3) := by decide +kernel
theorem dX9_takesHex_72 : decode cX9_takesHex 72 = .ok (.ifCond .eq 19, 3) := by decide +kernel
theorem dX9_takesHex_75 : decode cX9_takesHex 75 = .ok (.aload_n 0, 1) := by decide +kernel
theorem dX9_takesHex_76 : decode cX9_takesHex 76 = .ok (.aload_n 0, 1) := by decide +kernel
theorem dX9_takesHex_77 : decode cX9_takesHex 77 = .ok (.getfield 253, 3) := by decide +kernel
theorem dX9_takesHex_80 : decode cX9_takesHex 80 = .ok (.iload_n 1, 1) := by decide +kernel
theorem dX9_takesHex_81 : decode cX9_takesHex 81 = .ok (.invokevirtual 109, 3) := by decide +kernel
theorem dX9_takesHex_84 : decode cX9_takesHex 84 = .ok (.ifCond .eq 7, 3) := by decide +kernel
theorem dX9_takesHex_87 : decode cX9_takesHex 87 = .ok (.iconst 1, 1) := by decide +kernel
theorem dX9_takesHex_88 : decode cX9_takesHex 88 = .ok (.goto 4, 3) := by decide +kernel
theorem dX9_takesHex_91 : decode cX9_takesHex 91 = .ok (.iconst 0, 1) := by decide +kernel
theorem dX9_takesHex_92 : decode cX9_takesHex 92 = .ok (.istore 4, 2) := by decide +kernel
theorem dX9_takesHex_94 : decode cX9_takesHex 94 = .ok (.aload_n 0, 1) := by decide +kernel
theorem dX9_takesHex_95 : decode cX9_takesHex 95 = .ok (.iload 4, 2) := by decide +kernel
theorem dX9_takesHex_97 : decode cX9_takesHex 97 = .ok (.ifCond .eq 7, 3) := by decide +kernel
theorem dX9_takesHex_100 : decode cX9_takesHex 100 = .ok (.iload_n 3, 1) := by decide +kernel
theorem dX9_takesHex_101 : decode cX9_takesHex 101 = .ok (.goto 7, 3) := by decide +kernel
theorem dX9_takesHex_104 : decode cX9_takesHex 104 = .ok (.aload_n 0, 1) := by decide +kernel
theorem dX9_takesHex_105 : decode cX9_takesHex 105 = .ok (.getfield 240, 3) := by decide +kernel
theorem dX9_takesHex_108 : decode cX9_takesHex 108 = .ok (.putfield 240, 3) := by decide +kernel
theorem dX9_takesHex_111 : decode cX9_takesHex 111 = .ok (.iload 4, 2) := by decide +kernel
theorem dX9_takesHex_113 : decode cX9_takesHex 113 = .ok (.ireturn, 1) := by decide +kernel
set_option maxRecDepth 20000 in
theorem ggX9_readsOne_X9_here : GoodIn wsX9_readsOne wsX9_here := goodIn_r _ [8, 1, 9, 10, 148, 149, 150, 151, 152, 153, 154, 155, 156, 157, 158, 159, 160, 161, 162, 163, 164, 165, 166, 167, 168, 169, 170, 171, 172, 173, 174] (by decide +kernel) (by decide +kernel)
set_option maxRecDepth 20000 in
theorem gX9_readsOne_X9_here : GoodIn wsX9_readsOne (wsV RX9 247 RX9 yX9_here wsX9_here) := goodIn_app (goodIn_of _ (by decide +kernel)) ggX9_readsOne_X9_here
set_option maxRecDepth 20000 in
theorem ggX9_readsOne_X9_takes : GoodIn wsX9_readsOne wsX9_takes := goodIn_r _ [14, 1, 10, 2, 15, 4, 5, 6, 7, 8, 9, 16, 17, 18, 19, 20, 21, 22, 23, 24, 148, 149, 150, 151, 152, 153, 154, 155, 156, 157, 158, 159, 160, 161, 162, 163, 164, 165, 166, 167, 168, 169, 170, 171, 172, 173, 174] (by decide +kernel) (by decide +kernel)
set_option maxRecDepth 20000 in
theorem gX9_readsOne_X9_takes : GoodIn wsX9_readsOne (wsV RX9 265 RX9 yX9_takes wsX9_takes) := goodIn_app (goodIn_of _ (by decide +kernel)) ggX9_readsOne_X9_takes
set_option maxRecDepth 20000 in
theorem ggX9_readsOne_X9_many : GoodIn wsX9_readsOne wsX9_many := goodIn_r _ [28, 29, 30, 31, 32, 7, 33, 34, 35, 36, 37, 38, 39, 40, 41, 42, 43, 44, 45, 46, 47, 48, 49, 50, 148, 149, 150, 151, 152, 153, 154, 155, 156, 157, 158, 159, 160, 161, 162, 163, 164, 165, 166, 167, 168, 169, 170, 171, 172, 173, 174] (by decide +kernel) (by decide +kernel)
set_option maxRecDepth 20000 in
theorem gX9_readsOne_X9_many : GoodIn wsX9_readsOne (wsV RX9 100 RX9 yX9_many wsX9_many) := goodIn_app (goodIn_of _ (by decide +kernel)) ggX9_readsOne_X9_many
set_option maxRecDepth 20000 in
theorem ggX9_readsOne_X9_places : GoodIn wsX9_readsOne wsX9_places := goodIn_r _ [43, 44, 45, 46, 7, 47, 34, 148, 149, 150, 151, 152, 153, 154, 155, 156, 157, 158, 159, 160, 161, 162, 163, 164, 165, 166, 167, 168, 169, 170, 171, 172, 173, 174] (by decide +kernel) (by decide +kernel)
set_option maxRecDepth 20000 in
theorem gX9_readsOne_X9_places : GoodIn wsX9_readsOne (wsV RX9 60 RX9 yX9_places wsX9_places) := goodIn_app (goodIn_of _ (by decide +kernel)) ggX9_readsOne_X9_places
set_option maxRecDepth 20000 in
theorem ggX9_readsOne_X9_takesHex : GoodIn wsX9_readsOne wsX9_takesHex := goodIn_r _ [54, 1, 2, 55, 4, 5, 6, 7, 8, 9, 10, 56, 57, 58, 59, 20, 21, 60, 61, 22, 23, 24, 62, 63, 64, 65, 66, 67, 68, 148, 149, 150, 151, 152, 153, 154, 155, 156, 157, 158, 159, 160, 161, 162, 163, 164, 165, 166, 167, 168, 169, 170, 171, 172, 173, 174] (by decide +kernel) (by decide +kernel)
set_option maxRecDepth 20000 in
theorem gX9_readsOne_X9_takesHex : GoodIn wsX9_readsOne (wsV RX9 271 RX9 yX9_takesHex wsX9_takesHex) := goodIn_app (goodIn_of _ (by decide +kernel)) ggX9_readsOne_X9_takesHex
set_option maxRecDepth 20000 in
theorem ggX9_readsOne_X9_doesOne : GoodIn wsX9_readsOne wsX9_doesOne := goodIn_r _ [72, 3, 2, 34, 73, 74, 75, 7, 76, 77, 78, 79, 80, 25, 26, 27, 28, 29, 30, 31, 32, 33, 35, 36, 37, 38, 39, 40, 41, 42, 43, 44, 45, 46, 47, 48, 49, 50, 81, 82, 83, 84, 85, 86, 87, 88, 89, 90, 91, 92, 93, 94, 95, 96, 97, 98, 99, 100, 101, 102, 103, 104, 105, 106, 107, 108, 109, 110, 111, 112, 113, 114, 115, 116, 117, 118, 119, 120, 121, 122, 123, 124, 125, 126, 127, 128, 129, 130, 131, 132, 133, 134, 135, 136, 137, 138, 139, 140, 141, 66, 67, 68, 142, 143, 144, 145, 146, 147, 148, 149, 150, 151, 152, 153, 154, 155, 156, 157, 158, 159, 160, 161, 162, 163, 164, 165, 166, 167, 168, 169, 170, 171, 172, 173, 174] (by decide +kernel) (by decide +kernel)
set_option maxRecDepth 20000 in
theorem gX9_readsOne_X9_doesOne : GoodIn wsX9_readsOne (wsV RX9 274 RX9 yX9_doesOne wsX9_doesOne) := goodIn_app (goodIn_of _ (by decide +kernel)) ggX9_readsOne_X9_doesOne
theorem dX9_readsOne_0 : decode cX9_readsOne 0 = .ok (.aload_n 0, 1) := by decide +kernel
theorem dX9_readsOne_1 : decode cX9_readsOne 1 = .ok (.invokevirtual 247, 3) := by decide +kernel
theorem dX9_readsOne_4 : decode cX9_readsOne 4 = .ok (.istore_n 1, 1) := by decide +kernel
theorem dX9_readsOne_5 : decode cX9_readsOne 5 = .ok (.iload_n 1, 1) := by decide +kernel
theorem dX9_readsOne_6 : decode cX9_readsOne 6 = .ok (.bipush 99, 2) := by decide +kernel
theorem dX9_readsOne_8 : decode cX9_readsOne 8 = .ok (.if_icmp .eq 41, 3) := by decide +kernel
theorem dX9_readsOne_11 : decode cX9_readsOne 11 = .ok (.iload_n 1, 1) := by decide +kernel
theorem dX9_readsOne_12 : decode cX9_readsOne 12 = .ok (.bipush 109, 2) := by decide +kernel
theorem dX9_readsOne_14 : decode cX9_readsOne 14 = .ok (.if_icmp .eq 35, 3) := by decide +kernel
theorem dX9_readsOne_17 : decode cX9_readsOne 17 = .ok (.iload_n 1, 1) := by decide +kernel
theorem dX9_readsOne_18 : decode cX9_readsOne 18 = .ok (.bipush 119, 2) := by decide +kernel
theorem dX9_readsOne_20 : decode cX9_readsOne 20 = .ok (.if_icmp .eq 29, 3) := by decide +kernel
theorem dX9_readsOne_23 : decode cX9_readsOne 23 = .ok (.iload_n 1, 1) := by decide +kernel
theorem dX9_readsOne_24 : decode cX9_readsOne 24 = .ok (.bipush 102, 2) := by decide +kernel
theorem dX9_readsOne_26 : decode cX9_readsOne 26 = .ok (.if_icmp .eq 23, 3) := by decide +kernel
theorem dX9_readsOne_29 : decode cX9_readsOne 29 = .ok (.iload_n 1, 1) := by decide +kernel
theorem dX9_readsOne_30 : decode cX9_readsOne 30 = .ok (.bipush 118, 2) := by decide +kernel
theorem dX9_readsOne_32 : decode cX9_readsOne 32 = .ok (.if_icmp .eq 17, 3) := by decide +kernel
theorem dX9_readsOne_35 : decode cX9_readsOne 35 = .ok (.iload_n 1, 1) := by decide +kernel
theorem dX9_readsOne_36 : decode cX9_readsOne 36 = .ok (.bipush 115, 2) := by decide +kernel
theorem dX9_readsOne_38 : decode cX9_readsOne 38 = .ok (.if_icmp .eq 11, 3) := by decide +kernel
theorem dX9_readsOne_41 : decode cX9_readsOne 41 = .ok (.iload_n 1, 1) := by decide +kernel
theorem dX9_readsOne_42 : decode cX9_readsOne 42 = .ok (.bipush 104, 2) := by decide +kernel
theorem dX9_readsOne_44 : decode cX9_readsOne 44 = .ok (.if_icmp .eq 5, 3) := by decide +kernel
theorem dX9_readsOne_47 : decode cX9_readsOne 47 = .ok (.iconst 0, 1) := by decide +kernel
theorem dX9_readsOne_48 : decode cX9_readsOne 48 = .ok (.ireturn, 1) := by decide +kernel
theorem dX9_readsOne_49 : decode cX9_readsOne 49 = .ok (.aload_n 0, 1) := by decide +kernel
theorem dX9_readsOne_50 : decode cX9_readsOne 50 = .ok (.dup, 1) := by decide +kernel
theorem dX9_readsOne_51 : decode cX9_readsOne 51 = .ok (.getfield 240, 3) := by decide +kernel
theorem dX9_readsOne_54 : decode cX9_readsOne 54 = .ok (.iconst 1, 1) := by decide +kernel
theorem dX9_readsOne_55 : decode cX9_readsOne 55 = .ok (.iadd, 1) := by decide +kernel
theorem dX9_readsOne_56 : decode cX9_readsOne 56 = .ok (.putfield 240, 3) := by decide +kernel
theorem dX9_readsOne_59 : decode cX9_readsOne 59 = .ok (.iconst 1, 1) := by decide +kernel
theorem dX9_readsOne_60 : decode cX9_readsOne 60 = .ok (.istore_n 2, 1) := by decide +kernel
theorem dX9_readsOne_61 : decode cX9_readsOne 61 = .ok (.iload_n 1, 1) := by decide +kernel
theorem dX9_readsOne_62 : decode cX9_readsOne 62 = .ok (.bipush 99, 2) := by decide +kernel
theorem dX9_readsOne_64 : decode cX9_readsOne 64 = .ok (.if_icmp .ne 43, 3) := by decide +kernel
theorem dX9_readsOne_67 : decode cX9_readsOne 67 = .ok (.aload_n 0, 1) := by decide +kernel
theorem dX9_readsOne_68 : decode cX9_readsOne 68 = .ok (.iconst 0, 1) := by decide +kernel
theorem dX9_readsOne_69 : decode cX9_readsOne 69 = .ok (.iconst 5, 1) := by decide +kernel
theorem dX9_readsOne_70 : decode cX9_readsOne 70 = .ok (.invokevirtual 265, 3) := by decide +kernel
theorem dX9_readsOne_73 : decode cX9_readsOne 73 = .ok (.istore_n 2, 1) := by decide +kernel
theorem dX9_readsOne_74 : decode cX9_readsOne 74 = .ok (.aload_n 0, 1) := by decide +kernel
theorem dX9_readsOne_75 : decode cX9_readsOne 75 = .ok (.aload_n 0, 1) := by decide +kernel
theorem dX9_readsOne_76 : decode cX9_readsOne 76 = .ok (.getfield 253, 3) := by decide +kernel
theorem dX9_readsOne_79 : decode cX9_readsOne 79 = .ok (.putfield 268, 3) := by decide +kernel
theorem dX9_readsOne_82 : decode cX9_readsOne 82 = .ok (.iload_n 2, 1) := by decide +kernel
theorem dX9_readsOne_83 : decode cX9_readsOne 83 = .ok (.ifCond .eq 19, 3) := by decide +kernel
theorem dX9_readsOne_86 : decode cX9_readsOne 86 = .ok (.aload_n 0, 1) := by decide +kernel
theorem dX9_readsOne_87 : decode cX9_readsOne 87 = .ok (.aload_n 0, 1) := by decide +kernel
theorem dX9_readsOne_88 : decode cX9_readsOne 88 = .ok (.getfield 268, 3) := by decide +kernel
theorem dX9_readsOne_91 : decode cX9_readsOne 91 = .ok (.iconst 5, 1) := by decide +kernel
theorem dX9_readsOne_92 : decode cX9_readsOne 92 = .ok (.invokevirtual 265, 3) := by decide +kernel
theorem dX9_readsOne_95 : decode cX9_readsOne 95 = .ok (.ifCond .eq 7, 3) := by decide +kernel
theorem dX9_readsOne_98 : decode cX9_readsOne 98 = .ok (.iconst 1, 1) := by decide +kernel
theorem dX9_readsOne_99 : decode cX9_readsOne 99 = .ok (.goto 4, 3) := by decide +kernel
theorem dX9_readsOne_102 : decode cX9_readsOne 102 = .ok (.iconst 0, 1) := by decide +kernel
theorem dX9_readsOne_103 : decode cX9_readsOne 103 = .ok (.istore_n 2, 1) := by decide +kernel
theorem dX9_readsOne_104 : decode cX9_readsOne 104 = .ok (.goto 99, 3) := by decide +kernel
theorem dX9_readsOne_107 : decode cX9_readsOne 107 = .ok (.iload_n 1, 1) := by decide +kernel
theorem dX9_readsOne_108 : decode cX9_readsOne 108 = .ok (.bipush 109, 2) := by decide +kernel
theorem dX9_readsOne_110 : decode cX9_readsOne 110 = .ok (.if_icmp .eq 9, 3) := by decide +kernel
theorem dX9_readsOne_113 : decode cX9_readsOne 113 = .ok (.iload_n 1, 1) := by decide +kernel
theorem dX9_readsOne_114 : decode cX9_readsOne 114 = .ok (.bipush 119, 2) := by decide +kernel
theorem dX9_readsOne_116 : decode cX9_readsOne 116 = .ok (.if_icmp .ne 28, 3) := by decide +kernel
theorem dX9_readsOne_119 : decode cX9_readsOne 119 = .ok (.aload_n 0, 1) := by decide +kernel
theorem dX9_readsOne_120 : decode cX9_readsOne 120 = .ok (.iload_n 1, 1) := by decide +kernel
theorem dX9_readsOne_121 : decode cX9_readsOne 121 = .ok (.bipush 109, 2) := by decide +kernel
theorem dX9_readsOne_123 : decode cX9_readsOne 123 = .ok (.if_icmp .ne 10, 3) := by decide +kernel
theorem dX9_readsOne_126 : decode cX9_readsOne 126 = .ok (.aload_n 0, 1) := by decide +kernel
theorem dX9_readsOne_127 : decode cX9_readsOne 127 = .ok (.invokevirtual 100, 3) := by decide +kernel
theorem dX9_readsOne_130 : decode cX9_readsOne 130 = .ok (.goto 7, 3) := by decide +kernel
theorem dX9_readsOne_133 : decode cX9_readsOne 133 = .ok (.aload_n 0, 1) := by decide +kernel
theorem dX9_readsOne_134 : decode cX9_readsOne 134 = .ok (.invokevirtual 60, 3) := by decide +kernel
theorem dX9_readsOne_137 : decode cX9_readsOne 137 = .ok (.invokevirtual 271, 3) := by decide +kernel
theorem dX9_readsOne_140 : decode cX9_readsOne 140 = .ok (.istore_n 2, 1) := by decide +kernel
theorem dX9_readsOne_141 : decode cX9_readsOne 141 = .ok (.goto 62, 3) := by decide +kernel
theorem dX9_readsOne_144 : decode cX9_readsOne 144 = .ok (.iload_n 1, 1) := by decide +kernel
theorem dX9_readsOne_145 : decode cX9_readsOne 145 = .ok (.bipush 102, 2) := by decide +kernel
theorem dX9_readsOne_147 : decode cX9_readsOne 147 = .ok (.if_icmp .eq 9, 3) := by decide +kernel
theorem dX9_readsOne_150 : decode cX9_readsOne 150 = .ok (.iload_n 1, 1) := by decide +kernel
theorem dX9_readsOne_151 : decode cX9_readsOne 151 = .ok (.bipush 115, 2) := by decide +kernel
theorem dX9_readsOne_153 : decode cX9_readsOne 153 = .ok (.if_icmp .ne 50, 3) := by decide +kernel
theorem dX9_readsOne_156 : decode cX9_readsOne 156 = .ok (.aload_n 0, 1) := by decide +kernel
theorem dX9_readsOne_157 : decode cX9_readsOne 157 = .ok (.iconst 0, 1) := by decide +kernel
theorem dX9_readsOne_158 : decode cX9_readsOne 158 = .ok (.aload_n 0, 1) := by decide +kernel
theorem dX9_readsOne_159 : decode cX9_readsOne 159 = .ok (.invokevirtual 60, 3) := by decide +kernel
theorem dX9_readsOne_162 : decode cX9_readsOne 162 = .ok (.iconst 1, 1) := by decide +kernel
theorem dX9_readsOne_163 : decode cX9_readsOne 163 = .ok (.isub, 1) := by decide +kernel
theorem dX9_readsOne_164 : decode cX9_readsOne 164 = .ok (.invokevirtual 265, 3) := by decide +kernel
theorem dX9_readsOne_167 : decode cX9_readsOne 167 = .ok (.istore_n 2, 1) := by decide +kernel
theorem dX9_readsOne_168 : decode cX9_readsOne 168 = .ok (.aload_n 0, 1) := by decide +kernel
theorem dX9_readsOne_169 : decode cX9_readsOne 169 = .ok (.aload_n 0, 1) := by decide +kernel
theorem dX9_readsOne_170 : decode cX9_readsOne 170 = .ok (.getfield 253, 3) := by decide +kernel
theorem dX9_readsOne_173 : decode cX9_readsOne 173 = .ok (.putfield 268, 3) := by decide +kernel
theorem dX9_readsOne_176 : decode cX9_readsOne 176 = .ok (.iload_n 2, 1) := by decide +kernel
theorem dX9_readsOne_177 : decode cX9_readsOne 177 = .ok (.ifCond .eq 24, 3) := by decide +kernel
theorem dX9_readsOne_180 : decode cX9_readsOne 180 = .ok (.iload_n 1, 1) := by decide +kernel
theorem dX9_readsOne_181 : decode cX9_readsOne 181 = .ok (.bipush 102, 2) := by decide +kernel
theorem dX9_readsOne_183 : decode cX9_readsOne 183 = .ok (.if_icmp .eq 14, 3) := by decide +kernel
theorem dX9_readsOne_186 : decode cX9_readsOne 186 = .ok (.aload_n 0, 1) := by decide +kernel
theorem dX9_readsOne_187 : decode cX9_readsOne 187 = .ok (.bipush (-99), 2) := by decide +kernel
theorem dX9_readsOne_189 : decode cX9_readsOne 189 = .ok (.bipush 99, 2) := by decide +kernel
theorem dX9_readsOne_191 : decode cX9_readsOne 191 = .ok (.invokevirtual 265, 3) := by decide +kernel
theorem dX9_readsOne_194 : decode cX9_readsOne 194 = .ok (.ifCond .eq 7, 3) := by decide +kernel
theorem dX9_readsOne_197 : decode cX9_readsOne 197 = .ok (.iconst 1, 1) := by decide +kernel
theorem dX9_readsOne_198 : decode cX9_readsOne 198 = .ok (.goto 4, 3) := by decide +kernel
theorem dX9_readsOne_201 : decode cX9_readsOne 201 = .ok (.iconst 0, 1) := by decide +kernel
theorem dX9_readsOne_202 : decode cX9_readsOne 202 = .ok (.istore_n 2, 1) := by decide +kernel
theorem dX9_readsOne_203 : decode cX9_readsOne 203 = .ok (.iload_n 2, 1) := by decide +kernel
theorem dX9_readsOne_204 : decode cX9_readsOne 204 = .ok (.ifCond .eq 12, 3) := by decide +kernel
theorem dX9_readsOne_207 : decode cX9_readsOne 207 = .ok (.aload_n 0, 1) := by decide +kernel
theorem dX9_readsOne_208 : decode cX9_readsOne 208 = .ok (.invokevirtual 247, 3) := by decide +kernel
theorem dX9_readsOne_211 : decode cX9_readsOne 211 = .ok (.bipush 59, 2) := by decide +kernel
theorem dX9_readsOne_213 : decode cX9_readsOne 213 = .ok (.if_icmp .eq 5, 3) := by decide +kernel
theorem dX9_readsOne_216 : decode cX9_readsOne 216 = .ok (.iconst 0, 1) := by decide +kernel
theorem dX9_readsOne_217 : decode cX9_readsOne 217 = .ok (.ireturn, 1) := by decide +kernel
theorem dX9_readsOne_218 : decode cX9_readsOne 218 = .ok (.aload_n 0, 1) := by decide +kernel
theorem dX9_readsOne_219 : decode cX9_readsOne 219 = .ok (.dup, 1) := by decide +kernel
theorem dX9_readsOne_220 : decode cX9_readsOne 220 = .ok (.getfield 240, 3) := by decide +kernel
theorem dX9_readsOne_223 : decode cX9_readsOne 223 = .ok (.iconst 1, 1) := by decide +kernel
theorem dX9_readsOne_224 : decode cX9_readsOne 224 = .ok (.iadd, 1) := by decide +kernel
theorem dX9_readsOne_225 : decode cX9_readsOne 225 = .ok (.putfield 240, 3) := by decide +kernel
theorem dX9_readsOne_228 : decode cX9_readsOne 228 = .ok (.aload_n 0, 1) := by decide +kernel
theorem dX9_readsOne_229 : decode cX9_readsOne 229 = .ok (.iload_n 1, 1) := by decide +kernel
theorem dX9_readsOne_230 : decode cX9_readsOne 230 = .ok (.invokevirtual 274, 3) := by decide +kernel
theorem dX9_readsOne_233 : decode cX9_readsOne 233 = .ok (.iconst 1, 1) := by decide +kernel
theorem dX9_readsOne_234 : decode cX9_readsOne 234 = .ok (.ireturn, 1) := by decide +kernel
set_option maxRecDepth 20000 in
theorem ggX9_doesOne_X9_becomesCode : GoodIn wsX9_doesOne wsX9_becomesCode := goodIn_r _ [8, 3, 108, 109, 110, 111, 112, 113, 114, 115, 116, 117, 118, 119, 120, 121, 122, 123, 124, 125, 126, 127, 128, 129, 130, 131, 132, 133, 134] (by decide +kernel) (by decide +kernel)
set_option maxRecDepth 20000 in
theorem gX9_doesOne_X9_becomesCode : GoodIn wsX9_doesOne (wsV RX9 96 RX9 yX9_becomesCode wsX9_becomesCode) := goodIn_app (goodIn_of _ (by decide +kernel)) ggX9_doesOne_X9_becomesCode
set_option maxRecDepth 20000 in
theorem ggX9_doesOne_X9_encodes : GoodIn wsX9_doesOne wsX9_encodes := goodIn_r _ [12, 3, 13, 14, 15, 7, 16, 17, 18, 19, 20, 21, 22, 23, 24, 25, 26, 27, 28, 29, 30, 31, 32, 33, 34, 35, 36, 37, 38, 39, 40, 41, 42, 43, 44, 45, 46, 47, 48, 49, 50, 51, 52, 108, 109, 110, 111, 112, 113, 114, 115, 116, 117, 118, 119, 120, 121, 122, 123, 124, 125, 126, 127, 128, 129, 130, 131, 132, 133, 134] (by decide +kernel) (by decide +kernel)
set_option maxRecDepth 20000 in
theorem gX9_doesOne_X9_encodes : GoodIn wsX9_doesOne (wsV RX9 119 RX9 yX9_encodes wsX9_encodes) := goodIn_app (goodIn_of _ (by decide +kernel)) ggX9_doesOne_X9_encodes
set_option maxRecDepth 20000 in
theorem ggX9_doesOne_X9_flips : GoodIn wsX9_doesOne wsX9_flips := goodIn_r _ [56, 3, 49, 50, 51, 7, 52, 42, 43, 44, 108, 109, 110, 111, 112, 113, 114, 115, 116, 117, 118, 119, 120, 121, 122, 123, 124, 125, 126, 127, 128, 129, 130, 131, 132, 133, 134] (by decide +kernel) (by decide +kernel)
set_option maxRecDepth 20000 in
theorem gX9_doesOne_X9_flips : GoodIn wsX9_doesOne (wsV RX9 126 RX9 yX9_flips wsX9_flips) := goodIn_app (goodIn_of _ (by decide +kernel)) ggX9_doesOne_X9_flips
set_option maxRecDepth 20000 in
theorem ggX9_doesOne_X9_mendsNow : GoodIn wsX9_doesOne wsX9_mendsNow := goodIn_r _ [60, 61, 3, 62, 63, 64, 7, 65, 66, 67, 68, 69, 26, 49, 50, 51, 52, 13, 14, 15, 16, 17, 18, 19, 20, 21, 22, 23, 24, 25, 27, 28, 29, 30, 31, 32, 33, 34, 35, 36, 37, 70, 71, 72, 73, 45, 46, 47, 48, 38, 39, 40, 41, 42, 43, 44, 108, 109, 110, 111, 112, 113, 114, 115, 116, 117, 118, 119, 120, 121, 122, 123, 124, 125, 126, 127, 128, 129, 130, 131, 132, 133, 134] (by decide +kernel) (by decide +kernel)
set_option maxRecDepth 20000 in
theorem gX9_doesOne_X9_mendsNow : GoodIn wsX9_doesOne (wsV RX9 165 RX9 yX9_mendsNow wsX9_mendsNow) := goodIn_app (goodIn_of _ (by decide +kernel)) ggX9_doesOne_X9_mendsNow
set_option maxRecDepth 20000 in
theorem ggX9_doesOne_X9_softens : GoodIn wsX9_doesOne wsX9_softens := goodIn_r _ [77, 3, 78, 79, 80, 7, 81, 108, 109, 110, 111, 112, 113, 114, 115, 116, 117, 118, 119, 120, 121, 122, 123, 124, 125, 126, 127, 128, 129, 130, 131, 132, 133, 134] (by decide +kernel) (by decide +kernel)
set_option maxRecDepth 20000 in
theorem gX9_doesOne_X9_softens : GoodIn wsX9_doesOne (wsV RX9 205 RX9 yX9_softens wsX9_softens) := goodIn_app (goodIn_of _ (by decide +kernel)) ggX9_doesOne_X9_softens
set_option maxRecDepth 20000 in
theorem ggX9_doesOne_X9_halvesOf : GoodIn wsX9_doesOne wsX9_halvesOf := goodIn_r _ [85, 86, 87, 88, 89, 90, 18, 19, 20, 7, 21, 3, 31, 32, 33, 34, 91, 92, 93, 94, 27, 28, 29, 30, 78, 79, 80, 81, 95, 96, 97, 98, 99, 100, 101, 102, 103, 104, 105, 106, 107, 42, 43, 44, 108, 109, 110, 111, 112, 113, 114, 115, 116, 117, 118, 119, 120, 121, 122, 123, 124, 125, 126, 127, 128, 129, 130, 131, 132, 133, 134] (by decide +kernel) (by decide +kernel)
set_option maxRecDepth 20000 in
theorem gX9_doesOne_X9_halvesOf : GoodIn wsX9_doesOne (wsV RX9 218 RX9 yX9_halvesOf wsX9_halvesOf) := goodIn_app (goodIn_of _ (by decide +kernel)) ggX9_doesOne_X9_halvesOf
theorem dX9_doesOne_0 : decode cX9_doesOne 0 = .ok (.iload_n 1, 1) := by decide +kernel
theorem dX9_doesOne_1 : decode cX9_doesOne 1 = .ok (.lookupswitch 137 #[(99, 59), (102, 99), (109, 74), (115, 120), (118, 111), (119, 86)], 59) := by decide +kernel
theorem dX9_doesOne_60 : decode cX9_doesOne 60 = .ok (.aload_n 0, 1) := by decide +kernel
theorem dX9_doesOne_61 : decode cX9_doesOne 61 = .ok (.aload_n 0, 1) := by decide +kernel
theorem dX9_doesOne_62 : decode cX9_doesOne 62 = .ok (.getfield 268, 3) := by decide +kernel
theorem dX9_doesOne_65 : decode cX9_doesOne 65 = .ok (.aload_n 0, 1) := by decide +kernel
theorem dX9_doesOne_66 : decode cX9_doesOne 66 = .ok (.getfield 253, 3) := by decide +kernel
theorem dX9_doesOne_69 : decode cX9_doesOne 69 = .ok (.invokevirtual 96, 3) := by decide +kernel
theorem dX9_doesOne_72 : decode cX9_doesOne 72 = .ok (.goto 76, 3) := by decide +kernel
theorem dX9_doesOne_75 : decode cX9_doesOne 75 = .ok (.aload_n 0, 1) := by decide +kernel
theorem dX9_doesOne_76 : decode cX9_doesOne 76 = .ok (.aload_n 0, 1) := by decide +kernel
theorem dX9_doesOne_77 : decode cX9_doesOne 77 = .ok (.getfield 253, 3) := by decide +kernel
theorem dX9_doesOne_80 : decode cX9_doesOne 80 = .ok (.invokevirtual 119, 3) := by decide +kernel
theorem dX9_doesOne_83 : decode cX9_doesOne 83 = .ok (.istore_n 2, 1) := by decide +kernel
theorem dX9_doesOne_84 : decode cX9_doesOne 84 = .ok (.goto 64, 3) := by decide +kernel
theorem dX9_doesOne_87 : decode cX9_doesOne 87 = .ok (.aload_n 0, 1) := by decide +kernel
theorem dX9_doesOne_88 : decode cX9_doesOne 88 = .ok (.getfield 7, 3) := by decide +kernel
theorem dX9_doesOne_91 : decode cX9_doesOne 91 = .ok (.iconst 2, 1) := by decide +kernel
theorem dX9_doesOne_92 : decode cX9_doesOne 92 = .ok (.aload_n 0, 1) := by decide +kernel
theorem dX9_doesOne_93 : decode cX9_doesOne 93 = .ok (.getfield 253, 3) := by decide +kernel
theorem dX9_doesOne_96 : decode cX9_doesOne 96 = .ok (.iastore, 1) := by decide +kernel
theorem dX9_doesOne_97 : decode cX9_doesOne 97 = .ok (.goto 51, 3) := by decide +kernel
theorem dX9_doesOne_100 : decode cX9_doesOne 100 = .ok (.aload_n 0, 1) := by decide +kernel
theorem dX9_doesOne_101 : decode cX9_doesOne 101 = .ok (.aload_n 0, 1) := by decide +kernel
theorem dX9_doesOne_102 : decode cX9_doesOne 102 = .ok (.getfield 268, 3) := by decide +kernel
theorem dX9_doesOne_105 : decode cX9_doesOne 105 = .ok (.invokevirtual 126, 3) := by decide +kernel
theorem dX9_doesOne_108 : decode cX9_doesOne 108 = .ok (.istore_n 3, 1) := by decide +kernel
theorem dX9_doesOne_109 : decode cX9_doesOne 109 = .ok (.goto 39, 3) := by decide +kernel
theorem dX9_doesOne_112 : decode cX9_doesOne 112 = .ok (.aload_n 0, 1) := by decide +kernel
theorem dX9_doesOne_113 : decode cX9_doesOne 113 = .ok (.invokevirtual 165, 3) := by decide +kernel
theorem dX9_doesOne_116 : decode cX9_doesOne 116 = .ok (.istore 4, 2) := by decide +kernel
theorem dX9_doesOne_118 : decode cX9_doesOne 118 = .ok (.goto 30, 3) := by decide +kernel
theorem dX9_doesOne_121 : decode cX9_doesOne 121 = .ok (.aload_n 0, 1) := by decide +kernel
theorem dX9_doesOne_122 : decode cX9_doesOne 122 = .ok (.aload_n 0, 1) := by decide +kernel
theorem dX9_doesOne_123 : decode cX9_doesOne 123 = .ok (.getfield 268, 3) := by decide +kernel
theorem dX9_doesOne_126 : decode cX9_doesOne 126 = .ok (.aload_n 0, 1) := by decide +kernel
theorem dX9_doesOne_127 : decode cX9_doesOne 127 = .ok (.getfield 253, 3) := by decide +kernel
theorem dX9_doesOne_130 : decode cX9_doesOne 130 = .ok (.invokevirtual 205, 3) := by decide +kernel
theorem dX9_doesOne_133 : decode cX9_doesOne 133 = .ok (.istore 5, 2) := by decide +kernel
theorem dX9_doesOne_135 : decode cX9_doesOne 135 = .ok (.goto 13, 3) := by decide +kernel
theorem dX9_doesOne_138 : decode cX9_doesOne 138 = .ok (.aload_n 0, 1) := by decide +kernel
theorem dX9_doesOne_139 : decode cX9_doesOne 139 = .ok (.getfield 7, 3) := by decide +kernel
theorem dX9_doesOne_142 : decode cX9_doesOne 142 = .ok (.iconst 2, 1) := by decide +kernel
theorem dX9_doesOne_143 : decode cX9_doesOne 143 = .ok (.aload_n 0, 1) := by decide +kernel
theorem dX9_doesOne_144 : decode cX9_doesOne 144 = .ok (.invokevirtual 218, 3) := by decide +kernel
theorem dX9_doesOne_147 : decode cX9_doesOne 147 = .ok (.iastore, 1) := by decide +kernel
theorem dX9_doesOne_148 : decode cX9_doesOne 148 = .ok (.return_, 1) := by decide +kernel
set_option maxRecDepth 20000 in
theorem ggX9_does_X9_readsOne : GoodIn wsX9_does wsX9_readsOne := goodIn_r _ [8, 3, 9, 10, 11, 12, 13, 7, 14, 15, 16, 17, 18, 19, 20, 21, 22, 23, 24, 25, 26, 27, 28, 29, 30, 31, 32, 33, 34, 35, 36, 37, 38, 39, 2, 40, 41, 42, 43, 44, 45, 46, 47, 48, 49, 50, 51, 52, 53, 54, 55, 56, 57, 58, 59, 60, 61, 62, 63, 64, 65, 66, 67, 68, 69, 70, 71, 72, 73, 74, 75, 76, 77, 78, 79, 80, 81, 82, 83, 84, 85, 86, 87, 88, 89, 90, 91, 92, 93, 94, 95, 96, 97, 98, 99, 100, 101, 102, 103, 104, 105, 106, 107, 108, 109, 110, 111, 112, 113, 114, 115, 116, 117, 118, 119, 120, 121, 122, 123, 124, 125, 126, 127, 128, 129, 130, 131, 132, 133, 134, 135, 136, 137, 138, 139, 140, 141, 142, 143, 144, 145, 146, 147, 148, 149, 150, 151, 152, 164, 165, 166, 167, 168, 169, 170, 171, 172, 173, 174, 175, 176, 177, 178, 179, 180, 181, 182, 183, 184, 185, 186, 187, 188, 189, 190] (by decide +kernel) (by decide +kernel)
set_option maxRecDepth 20000 in
theorem gX9_does_X9_readsOne : GoodIn wsX9_does (wsV RX9 277 RX9 yX9_readsOne wsX9_readsOne) := goodIn_app (goodIn_of _ (by decide +kernel)) ggX9_does_X9_readsOne
set_option maxRecDepth 20000 in
theorem ggX9_does_X9_here : GoodIn wsX9_does wsX9_here := goodIn_r _ [14, 3, 15, 16, 164, 165, 166, 167, 168, 169, 170, 171, 172, 173, 174, 175, 176, 177, 178, 179, 180, 181, 182, 183, 184, 185, 186, 187, 188, 189, 190] (by decide +kernel) (by decide +kernel)
set_option maxRecDepth 20000 in
theorem gX9_does_X9_here : GoodIn wsX9_does (wsV RX9 247 RX9 yX9_here wsX9_here) := goodIn_app (goodIn_of _ (by decide +kernel)) ggX9_does_X9_here
set_option maxRecDepth 20000 in
theorem ggX9_does_X9_keepsAside : GoodIn wsX9_does wsX9_keepsAside := goodIn_r _ [156, 157, 2, 1, 158, 159, 160, 7, 161, 162, 163, 164, 165, 166, 167, 168, 169, 170, 171, 172, 173, 174, 175, 176, 177, 178, 179, 180, 181, 182, 183, 184, 185, 186, 187, 188, 189, 190] (by decide +kernel) (by decide +kernel)
set_option maxRecDepth 20000 in
theorem gX9_does_X9_keepsAside : GoodIn wsX9_does (wsV RX9 280 RX9 yX9_keepsAside wsX9_keepsAside) := goodIn_app (goodIn_of _ (by decide +kernel)) ggX9_does_X9_keepsAside
theorem dX9_does_0 : decode cX9_does 0 = .ok (.iconst 0, 1) := by decide +kernel
theorem dX9_does_1 : decode cX9_does 1 = .ok (.istore_n 1, 1) := by decide +kernel
theorem dX9_does_2 : decode cX9_does 2 = .ok (.iconst 1, 1) := by decide +kernel
theorem dX9_does_3 : decode cX9_does 3 = .ok (.istore_n 2, 1) := by decide +kernel
theorem dX9_does_4 : decode cX9_does 4 = .ok (.iconst 0, 1) := by decide +kernel
theorem dX9_does_5 : decode cX9_does 5 = .ok (.istore_n 3, 1) := by decide +kernel
theorem dX9_does_6 : decode cX9_does 6 = .ok (.iload_n 3, 1) := by decide +kernel
theorem dX9_does_7 : decode cX9_does 7 = .ok (.bipush 35, 2) := by decide +kernel
theorem dX9_does_9 : decode cX9_does 9 = .ok (.if_icmp .ge 21, 3) := by decide +kernel
theorem dX9_does_12 : decode cX9_does 12 = .ok (.aload_n 0, 1) := by decide +kernel
theorem dX9_does_13 : decode cX9_does 13 = .ok (.getfield 43, 3) := by decide +kernel
theorem dX9_does_16 : decode cX9_does 16 = .ok (.iload_n 3, 1) := by decide +kernel
theorem dX9_does_17 : decode cX9_does 17 = .ok (.aload_n 0, 1) := by decide +kernel
theorem dX9_does_18 : decode cX9_does 18 = .ok (.getfield 7, 3) := by decide +kernel
theorem dX9_does_21 : decode cX9_does 21 = .ok (.iload_n 3, 1) := by decide +kernel
theorem dX9_does_22 : decode cX9_does 22 = .ok (.iaload, 1) := by decide +kernel
theorem dX9_does_23 : decode cX9_does 23 = .ok (.iastore, 1) := by decide +kernel
theorem dX9_does_24 : decode cX9_does 24 = .ok (.iinc 3 1, 3) := by decide +kernel
theorem dX9_does_27 : decode cX9_does 27 = .ok (.goto (-21), 3) := by decide +kernel
theorem dX9_does_30 : decode cX9_does 30 = .ok (.aload_n 0, 1) := by decide +kernel
theorem dX9_does_31 : decode cX9_does 31 = .ok (.iconst 0, 1) := by decide +kernel
theorem dX9_does_32 : decode cX9_does 32 = .ok (.putfield 240, 3) := by decide +kernel
theorem dX9_does_35 : decode cX9_does 35 = .ok (.iload_n 2, 1) := by decide +kernel
theorem dX9_does_36 : decode cX9_does 36 = .ok (.ifCond .eq 64, 3) := by decide +kernel
theorem dX9_does_39 : decode cX9_does 39 = .ok (.aload_n 0, 1) := by decide +kernel
theorem dX9_does_40 : decode cX9_does 40 = .ok (.invokevirtual 277, 3) := by decide +kernel
theorem dX9_does_43 : decode cX9_does 43 = .ok (.ifCond .ne 37, 3) := by decide +kernel
theorem dX9_does_46 : decode cX9_does 46 = .ok (.iconst 0, 1) := by decide +kernel
theorem dX9_does_47 : decode cX9_does 47 = .ok (.istore_n 3, 1) := by decide +kernel
theorem dX9_does_48 : decode cX9_does 48 = .ok (.iload_n 3, 1) := by decide +kernel
theorem dX9_does_49 : decode cX9_does 49 = .ok (.bipush 35, 2) := by decide +kernel
theorem dX9_does_51 : decode cX9_does 51 = .ok (.if_icmp .ge 21, 3) := by decide +kernel
theorem dX9_does_54 : decode cX9_does 54 = .ok (.aload_n 0, 1) := by decide +kernel
theorem dX9_does_55 : decode cX9_does 55 = .ok (.getfield 7, 3) := by decide +kernel
theorem dX9_does_58 : decode cX9_does 58 = .ok (.iload_n 3, 1) := by decide +kernel
theorem dX9_does_59 : decode cX9_does 59 = .ok (.aload_n 0, 1) := by decide +kernel
theorem dX9_does_60 : decode cX9_does 60 = .ok (.getfield 43, 3) := by decide +kernel
theorem dX9_does_63 : decode cX9_does 63 = .ok (.iload_n 3, 1) := by decide +kernel
theorem dX9_does_64 : decode cX9_does 64 = .ok (.iaload, 1) := by decide +kernel
theorem dX9_does_65 : decode cX9_does 65 = .ok (.iastore, 1) := by decide +kernel
theorem dX9_does_66 : decode cX9_does 66 = .ok (.iinc 3 1, 3) := by decide +kernel
theorem dX9_does_69 : decode cX9_does 69 = .ok (.goto (-21), 3) := by decide +kernel
theorem dX9_does_72 : decode cX9_does 72 = .ok (.bipush (-10), 2) := by decide +kernel
theorem dX9_does_74 : decode cX9_does 74 = .ok (.aload_n 0, 1) := by decide +kernel
theorem dX9_does_75 : decode cX9_does 75 = .ok (.getfield 240, 3) := by decide +kernel
theorem dX9_does_78 : decode cX9_does 78 = .ok (.isub, 1) := by decide +kernel
theorem dX9_does_79 : decode cX9_does 79 = .ok (.ireturn, 1) := by decide +kernel
theorem dX9_does_80 : decode cX9_does 80 = .ok (.iinc 1 1, 3) := by decide +kernel
theorem dX9_does_83 : decode cX9_does 83 = .ok (.aload_n 0, 1) := by decide +kernel
theorem dX9_does_84 : decode cX9_does 84 = .ok (.invokevirtual 247, 3) := by decide +kernel
theorem dX9_does_87 : decode cX9_does 87 = .ok (.iconst (-1), 1) := by decide +kernel
theorem dX9_does_88 : decode cX9_does 88 = .ok (.if_icmp .eq 7, 3) := by decide +kernel
theorem dX9_does_91 : decode cX9_does 91 = .ok (.iconst 1, 1) := by decide +kernel
theorem dX9_does_92 : decode cX9_does 92 = .ok (.goto 4, 3) := by decide +kernel
theorem dX9_does_95 : decode cX9_does 95 = .ok (.iconst 0, 1) := by decide +kernel
theorem dX9_does_96 : decode cX9_does 96 = .ok (.istore_n 2, 1) := by decide +kernel
theorem dX9_does_97 : decode cX9_does 97 = .ok (.goto (-62), 3) := by decide +kernel
theorem dX9_does_100 : decode cX9_does 100 = .ok (.aload_n 0, 1) := by decide +kernel
theorem dX9_does_101 : decode cX9_does 101 = .ok (.invokevirtual 280, 3) := by decide +kernel
theorem dX9_does_104 : decode cX9_does 104 = .ok (.iload_n 1, 1) := by decide +kernel
theorem dX9_does_105 : decode cX9_does 105 = .ok (.ireturn, 1) := by decide +kernel
set_option maxRecDepth 20000 in
theorem ggX9_keepsAside_X9_keep : GoodIn wsX9_keepsAside wsX9_keep := goodIn_r _ [8, 9, 10, 2, 11, 12, 13, 14, 15, 16, 17, 18, 19, 20, 21, 22, 23, 24, 25, 26, 27, 28, 29, 30, 31, 32, 33, 34, 35, 36, 37] (by decide +kernel) (by decide +kernel)
set_option maxRecDepth 20000 in
theorem gX9_keepsAside_X9_keep : GoodIn wsX9_keepsAside (wsV RX9 93 RX9 yX9_keep wsX9_keep) := goodIn_app (goodIn_of _ (by decide +kernel)) ggX9_keepsAside_X9_keep
theorem dX9_keepsAside_0 : decode cX9_keepsAside 0 = .ok (.iconst 0, 1) := by decide +kernel
theorem dX9_keepsAside_1 : decode cX9_keepsAside 1 = .ok (.istore_n 1, 1) := by decide +kernel
theorem dX9_keepsAside_2 : decode cX9_keepsAside 2 = .ok (.iload_n 1, 1) := by decide +kernel
theorem dX9_keepsAside_3 : decode cX9_keepsAside 3 = .ok (.bipush 35, 2) := by decide +kernel
theorem dX9_keepsAside_5 : decode cX9_keepsAside 5 = .ok (.if_icmp .ge 33, 3) := by decide +kernel
theorem dX9_keepsAside_8 : decode cX9_keepsAside 8 = .ok (.aload_n 0, 1) := by decide +kernel
theorem dX9_keepsAside_9 : decode cX9_keepsAside 9 = .ok (.getfield 46, 3) := by decide +kernel
theorem dX9_keepsAside_12 : decode cX9_keepsAside 12 = .ok (.iload_n 1, 1) := by decide +kernel
theorem dX9_keepsAside_13 : decode cX9_keepsAside 13 = .ok (.aload_n 0, 1) := by decide +kernel
theorem dX9_keepsAside_14 : decode cX9_keepsAside 14 = .ok (.getfield 7, 3) := by decide +kernel
theorem dX9_keepsAside_17 : decode cX9_keepsAside 17 = .ok (.iload_n 1, 1) := by decide +kernel
theorem dX9_keepsAside_18 : decode cX9_keepsAside 18 = .ok (.iaload, 1) := by decide +kernel
theorem dX9_keepsAside_19 : decode cX9_keepsAside 19 = .ok (.iastore, 1) := by decide +kernel
theorem dX9_keepsAside_20 : decode cX9_keepsAside 20 = .ok (.aload_n 0, 1) := by decide +kernel
theorem dX9_keepsAside_21 : decode cX9_keepsAside 21 = .ok (.getfield 7, 3) := by decide +kernel
theorem dX9_keepsAside_24 : decode cX9_keepsAside 24 = .ok (.iload_n 1, 1) := by decide +kernel
theorem dX9_keepsAside_25 : decode cX9_keepsAside 25 = .ok (.aload_n 0, 1) := by decide +kernel
theorem dX9_keepsAside_26 : decode cX9_keepsAside 26 = .ok (.getfield 43, 3) := by decide +kernel
theorem dX9_keepsAside_29 : decode cX9_keepsAside 29 = .ok (.iload_n 1, 1) := by decide +kernel
theorem dX9_keepsAside_30 : decode cX9_keepsAside 30 = .ok (.iaload, 1) := by decide +kernel
theorem dX9_keepsAside_31 : decode cX9_keepsAside 31 = .ok (.iastore, 1) := by decide +kernel
theorem dX9_keepsAside_32 : decode cX9_keepsAside 32 = .ok (.iinc 1 1, 3) := by decide +kernel
theorem dX9_keepsAside_35 : decode cX9_keepsAside 35 = .ok (.goto (-33), 3) := by decide +kernel
theorem dX9_keepsAside_38 : decode cX9_keepsAside 38 = .ok (.aload_n 0, 1) := by decide +kernel
theorem dX9_keepsAside_39 : decode cX9_keepsAside 39 = .ok (.invokevirtual 93, 3) := by decide +kernel
theorem dX9_keepsAside_42 : decode cX9_keepsAside 42 = .ok (.iconst 0, 1) := by decide +kernel
theorem dX9_keepsAside_43 : decode cX9_keepsAside 43 = .ok (.istore_n 1, 1) := by decide +kernel
theorem dX9_keepsAside_44 : decode cX9_keepsAside 44 = .ok (.iload_n 1, 1) := by decide +kernel
theorem dX9_keepsAside_45 : decode cX9_keepsAside 45 = .ok (.bipush 35, 2) := by decide +kernel
theorem dX9_keepsAside_47 : decode cX9_keepsAside 47 = .ok (.if_icmp .ge 21, 3) := by decide +kernel
theorem dX9_keepsAside_50 : decode cX9_keepsAside 50 = .ok (.aload_n 0, 1) := by decide +kernel
theorem dX9_keepsAside_51 : decode cX9_keepsAside 51 = .ok (.getfield 7, 3) := by decide +kernel
theorem dX9_keepsAside_54 : decode cX9_keepsAside 54 = .ok (.iload_n 1, 1) := by decide +kernel
theorem dX9_keepsAside_55 : decode cX9_keepsAside 55 = .ok (.aload_n 0, 1) := by decide +kernel
theorem dX9_keepsAside_56 : decode cX9_keepsAside 56 = .ok (.getfield 46, 3) := by decide +kernel
theorem dX9_keepsAside_59 : decode cX9_keepsAside 59 = .ok (.iload_n 1, 1) := by decide +kernel
theorem dX9_keepsAside_60 : decode cX9_keepsAside 60 = .ok (.iaload, 1) := by decide +kernel
theorem dX9_keepsAside_61 : decode cX9_keepsAside 61 = .ok (.iastore, 1) := by decide +kernel
theorem dX9_keepsAside_62 : decode cX9_keepsAside 62 = .ok (.iinc 1 1, 3) := by decide +kernel
theorem dX9_keepsAside_65 : decode cX9_keepsAside 65 = .ok (.goto (-21), 3) := by decide +kernel
theorem dX9_keepsAside_68 : decode cX9_keepsAside 68 = .ok (.return_, 1) := by decide +kernel
set_option maxRecDepth 20000 in
theorem ggX9_back_X9_no : GoodIn wsX9_back wsX9_no := goodIn_r _ [8, 9, 10, 11, 12, 13, 14, 15, 16, 17, 18, 19, 20, 21, 22, 23, 24, 25, 26, 27, 28, 29, 30, 31, 32, 33, 34, 35, 36] (by decide +kernel) (by decide +kernel)
set_option maxRecDepth 20000 in
theorem gX9_back_X9_no : GoodIn wsX9_back (wsV RX9 192 RX9 yX9_no wsX9_no) := goodIn_app (goodIn_of _ (by decide +kernel)) ggX9_back_X9_no
theorem dX9_back_0 : decode cX9_back 0 = .ok (.aload_n 0, 1) := by decide +kernel
theorem dX9_back_1 : decode cX9_back 1 = .ok (.getfield 53, 3) := by decide +kernel
theorem dX9_back_4 : decode cX9_back 4 = .ok (.ifCond .ne 10, 3) := by decide +kernel
theorem dX9_back_7 : decode cX9_back 7 = .ok (.aload_n 0, 1) := by decide +kernel
theorem dX9_back_8 : decode cX9_back 8 = .ok (.bipush (-3), 2) := by decide +kernel
theorem dX9_back_10 : decode cX9_back 10 = .ok (.invokevirtual 192, 3) := by decide +kernel
theorem dX9_back_13 : decode cX9_back 13 = .ok (.ireturn, 1) := by decide +kernel
theorem dX9_back_14 : decode cX9_back 14 = .ok (.aload_n 0, 1) := by decide +kernel
theorem dX9_back_15 : decode cX9_back 15 = .ok (.dup, 1) := by decide +kernel
theorem dX9_back_16 : decode cX9_back 16 = .ok (.getfield 53, 3) := by decide +kernel
theorem dX9_back_19 : decode cX9_back 19 = .ok (.iconst 1, 1) := by decide +kernel
theorem dX9_back_20 : decode cX9_back 20 = .ok (.isub, 1) := by decide +kernel
theorem dX9_back_21 : decode cX9_back 21 = .ok (.putfield 53, 3) := by decide +kernel
theorem dX9_back_24 : decode cX9_back 24 = .ok (.iconst 0, 1) := by decide +kernel
theorem dX9_back_25 : decode cX9_back 25 = .ok (.istore_n 1, 1) := by decide +kernel
theorem dX9_back_26 : decode cX9_back 26 = .ok (.iload_n 1, 1) := by decide +kernel
theorem dX9_back_27 : decode cX9_back 27 = .ok (.bipush 35, 2) := by decide +kernel
theorem dX9_back_29 : decode cX9_back 29 = .ok (.if_icmp .ge 29, 3) := by decide +kernel
theorem dX9_back_32 : decode cX9_back 32 = .ok (.aload_n 0, 1) := by decide +kernel
theorem dX9_back_33 : decode cX9_back 33 = .ok (.getfield 7, 3) := by decide +kernel
theorem dX9_back_36 : decode cX9_back 36 = .ok (.iload_n 1, 1) := by decide +kernel
theorem dX9_back_37 : decode cX9_back 37 = .ok (.aload_n 0, 1) := by decide +kernel
theorem dX9_back_38 : decode cX9_back 38 = .ok (.getfield 13, 3) := by decide +kernel
theorem dX9_back_41 : decode cX9_back 41 = .ok (.bipush 35, 2) := by decide +kernel
theorem dX9_back_43 : decode cX9_back 43 = .ok (.aload_n 0, 1) := by decide +kernel
theorem dX9_back_44 : decode cX9_back 44 = .ok (.getfield 53, 3) := by decide +kernel
theorem dX9_back_47 : decode cX9_back 47 = .ok (.imul, 1) := by decide +kernel
theorem dX9_back_48 : decode cX9_back 48 = .ok (.iload_n 1, 1) := by decide +kernel
theorem dX9_back_49 : decode cX9_back 49 = .ok (.iadd, 1) := by decide +kernel
theorem dX9_back_50 : decode cX9_back 50 = .ok (.iaload, 1) := by decide +kernel
theorem dX9_back_51 : decode cX9_back 51 = .ok (.iastore, 1) := by decide +kernel
theorem dX9_back_52 : decode cX9_back 52 = .ok (.iinc 1 1, 3) := by decide +kernel
theorem dX9_back_55 : decode cX9_back 55 = .ok (.goto (-29), 3) := by decide +kernel
theorem dX9_back_58 : decode cX9_back 58 = .ok (.aload_n 0, 1) := by decide +kernel
theorem dX9_back_59 : decode cX9_back 59 = .ok (.getfield 53, 3) := by decide +kernel
theorem dX9_back_62 : decode cX9_back 62 = .ok (.ireturn, 1) := by decide +kernel
theorem dX9_toldOf_0 : decode cX9_toldOf 0 = .ok (.iload_n 1, 1) := by decide +kernel
theorem dX9_toldOf_1 : decode cX9_toldOf 1 = .ok (.iconst 3, 1) := by decide +kernel
theorem dX9_toldOf_2 : decode cX9_toldOf 2 = .ok (.if_icmp .ge 12, 3) := by decide +kernel
theorem dX9_toldOf_5 : decode cX9_toldOf 5 = .ok (.aload_n 0, 1) := by decide +kernel
theorem dX9_toldOf_6 : decode cX9_toldOf 6 = .ok (.getfield 16, 3) := by decide +kernel
theorem dX9_toldOf_9 : decode cX9_toldOf 9 = .ok (.iload_n 1, 1) := by decide +kernel
theorem dX9_toldOf_10 : decode cX9_toldOf 10 = .ok (.iaload, 1) := by decide +kernel
theorem dX9_toldOf_11 : decode cX9_toldOf 11 = .ok (.goto 19, 3) := by decide +kernel
theorem dX9_toldOf_14 : decode cX9_toldOf 14 = .ok (.iload_n 1, 1) := by decide +kernel
theorem dX9_toldOf_15 : decode cX9_toldOf 15 = .ok (.iconst 3, 1) := by decide +kernel
theorem dX9_toldOf_16 : decode cX9_toldOf 16 = .ok (.if_icmp .ne 10, 3) := by decide +kernel
theorem dX9_toldOf_19 : decode cX9_toldOf 19 = .ok (.aload_n 0, 1) := by decide +kernel
theorem dX9_toldOf_20 : decode cX9_toldOf 20 = .ok (.getfield 234, 3) := by decide +kernel
theorem dX9_toldOf_23 : decode cX9_toldOf 23 = .ok (.goto 7, 3) := by decide +kernel
theorem dX9_toldOf_26 : decode cX9_toldOf 26 = .ok (.aload_n 0, 1) := by decide +kernel
theorem dX9_toldOf_27 : decode cX9_toldOf 27 = .ok (.getfield 53, 3) := by decide +kernel
theorem dX9_toldOf_30 : decode cX9_toldOf 30 = .ok (.ireturn, 1) := by decide +kernel
set_option maxRecDepth 20000 in
theorem ggX9_told_X9_in : GoodIn wsX9_told wsX9_in := goodIn_r _ [5] (by decide +kernel) (by decide +kernel)
set_option maxRecDepth 20000 in
theorem gX9_told_X9_in : GoodIn wsX9_told (va_wsS RX9 83 yX9_in wsX9_in) := goodIn_app (goodIn_of _ (by decide +kernel)) ggX9_told_X9_in
set_option maxRecDepth 20000 in
theorem ggX9_told_X9_toldOf : GoodIn wsX9_told wsX9_toldOf := goodIn_r _ [9, 10, 11, 12, 17, 18, 19, 20, 21, 22, 23, 24, 25, 26, 27, 28, 29, 30, 31, 32, 33, 34, 35, 36, 37, 38, 39, 40, 41, 42, 43] (by decide +kernel) (by decide +kernel)
set_option maxRecDepth 20000 in
theorem gX9_told_X9_toldOf : GoodIn wsX9_told (wsV RX9 285 RX9 yX9_toldOf wsX9_toldOf) := goodIn_app (goodIn_of _ (by decide +kernel)) ggX9_told_X9_toldOf
set_option maxRecDepth 20000 in
theorem ggX9_told_X9_bad : GoodIn wsX9_told wsX9_bad := goodIn_r _ [16, 10, 17, 18, 19, 20, 21, 22, 23, 24, 25, 26, 27, 28, 29, 30, 31, 32, 33, 34, 35, 36, 37, 38, 39, 40, 41, 42, 43] (by decide +kernel) (by decide +kernel)
set_option maxRecDepth 20000 in
theorem gX9_told_X9_bad : GoodIn wsX9_told (wsV RX9 90 RX9 yX9_bad wsX9_bad) := goodIn_app (goodIn_of _ (by decide +kernel)) ggX9_told_X9_bad
theorem dX9_told_0 : decode cX9_told 0 = .ok (.iload_n 1, 1) := by decide +kernel
theorem dX9_told_1 : decode cX9_told 1 = .ok (.i2l, 1) := by decide +kernel
theorem dX9_told_2 : decode cX9_told 2 = .ok (.lconst 0, 1) := by decide +kernel
theorem dX9_told_3 : decode cX9_told 3 = .ok (.ldc2_w 283, 3) := by decide +kernel
theorem dX9_told_6 : decode cX9_told 6 = .ok (.invokestatic 83, 3) := by decide +kernel
theorem dX9_told_9 : decode cX9_told 9 = .ok (.ifCond .eq 11, 3) := by decide +kernel
theorem dX9_told_12 : decode cX9_told 12 = .ok (.aload_n 0, 1) := by decide +kernel
theorem dX9_told_13 : decode cX9_told 13 = .ok (.iload_n 1, 1) := by decide +kernel
theorem dX9_told_14 : decode cX9_told 14 = .ok (.invokevirtual 285, 3) := by decide +kernel
theorem dX9_told_17 : decode cX9_told 17 = .ok (.goto 9, 3) := by decide +kernel
theorem dX9_told_20 : decode cX9_told 20 = .ok (.aload_n 0, 1) := by decide +kernel
theorem dX9_told_21 : decode cX9_told 21 = .ok (.bipush (-2), 2) := by decide +kernel
theorem dX9_told_23 : decode cX9_told 23 = .ok (.invokevirtual 90, 3) := by decide +kernel
theorem dX9_told_26 : decode cX9_told 26 = .ok (.ireturn, 1) := by decide +kernel
set_option maxRecDepth 20000 in
theorem ggX9_digest_X9_toldOf : GoodIn wsX9_digest wsX9_toldOf := goodIn_r _ [8, 9, 10, 11, 99, 100, 101, 102, 103, 104, 105, 106, 107, 108, 109, 110, 111, 112, 113, 114, 115, 116, 117, 118, 119, 120, 121, 122, 123, 124, 125] (by decide +kernel) (by decide +kernel)
set_option maxRecDepth 20000 in
theorem gX9_digest_X9_toldOf : GoodIn wsX9_digest (wsV RX9 285 RX9 yX9_toldOf wsX9_toldOf) := goodIn_app (goodIn_of _ (by decide +kernel)) ggX9_digest_X9_toldOf
set_option maxRecDepth 20000 in
theorem ggX9_digest_X9_places : GoodIn wsX9_digest wsX9_places := goodIn_r _ [15, 16, 17, 18, 7, 19, 3, 99, 100, 101, 102, 103, 104, 105, 106, 107, 108, 109, 110, 111, 112, 113, 114, 115, 116, 117, 118, 119, 120, 121, 122, 123, 124, 125] (by decide +kernel) (by decide +kernel)
set_option maxRecDepth 20000 in
theorem gX9_digest_X9_places : GoodIn wsX9_digest (wsV RX9 60 RX9 yX9_places wsX9_places) := goodIn_app (goodIn_of _ (by decide +kernel)) ggX9_digest_X9_places
set_option maxRecDepth 20000 in
theorem ggX9_digest_X9_votes : GoodIn wsX9_digest wsX9_votes := goodIn_r _ [23, 24, 25, 26, 27, 7, 28, 29, 30, 31, 32, 33, 34, 35, 36, 37, 3, 38, 39, 40, 41, 42, 43, 44, 45, 46, 47, 48, 49, 50, 12, 13, 14, 15, 16, 17, 18, 19, 51, 52, 53, 54, 55, 56, 57, 58, 59, 60, 61, 62, 63, 64, 65, 66, 67, 68, 99, 100, 101, 102, 103, 104, 105, 106, 107, 108, 109, 110, 111, 112, 113, 114, 115, 116, 117, 118, 119, 120, 121, 122, 123, 124, 125] (by decide +kernel) (by decide +kernel)
set_option maxRecDepth 20000 in
theorem gX9_digest_X9_votes : GoodIn wsX9_digest (wsV RX9 292 RX9 yX9_votes wsX9_votes) := goodIn_app (goodIn_of _ (by decide +kernel)) ggX9_digest_X9_votes
set_option maxRecDepth 20000 in
theorem ggX9_digest_X9_halvesOf : GoodIn wsX9_digest wsX9_halvesOf := goodIn_r _ [72, 73, 74, 75, 76, 77, 43, 44, 45, 7, 46, 3, 16, 17, 18, 19, 78, 79, 80, 81, 12, 13, 14, 15, 82, 83, 84, 85, 86, 87, 88, 89, 90, 91, 92, 93, 94, 95, 96, 97, 98, 66, 67, 68, 99, 100, 101, 102, 103, 104, 105, 106, 107, 108, 109, 110, 111, 112, 113, 114, 115, 116, 117, 118, 119, 120, 121, 122, 123, 124, 125] (by decide +kernel) (by decide +kernel)
set_option maxRecDepth 20000 in
theorem gX9_digest_X9_halvesOf : GoodIn wsX9_digest (wsV RX9 218 RX9 yX9_halvesOf wsX9_halvesOf) := goodIn_app (goodIn_of _ (by decide +kernel)) ggX9_digest_X9_halvesOf
theorem dX9_digest_0 : decode cX9_digest 0 = .ok (.ldc2_w 288, 3) := by decide +kernel
theorem dX9_digest_3 : decode cX9_digest 3 = .ok (.lstore_n 1, 1) := by decide +kernel
theorem dX9_digest_4 : decode cX9_digest 4 = .ok (.iconst 0, 1) := by decide +kernel
theorem dX9_digest_5 : decode cX9_digest 5 = .ok (.istore_n 3, 1) := by decide +kernel
theorem dX9_digest_6 : decode cX9_digest 6 = .ok (.iload_n 3, 1) := by decide +kernel
theorem dX9_digest_7 : decode cX9_digest 7 = .ok (.iconst 5, 1) := by decide +kernel
theorem dX9_digest_8 : decode cX9_digest 8 = .ok (.if_icmp .ge 22, 3) := by decide +kernel
theorem dX9_digest_11 : decode cX9_digest 11 = .ok (.ldc2_w 290, 3) := by decide +kernel
theorem dX9_digest_14 : decode cX9_digest 14 = .ok (.lload_n 1, 1) := by decide +kernel
theorem dX9_digest_15 : decode cX9_digest 15 = .ok (.lmul, 1) := by decide +kernel
theorem dX9_digest_16 : decode cX9_digest 16 = .ok (.aload_n 0, 1) := by decide +kernel
theorem dX9_digest_17 : decode cX9_digest 17 = .ok (.iload_n 3, 1) := by decide +kernel
theorem dX9_digest_18 : decode cX9_digest 18 = .ok (.invokevirtual 285, 3) := by decide +kernel
theorem dX9_digest_21 : decode cX9_digest 21 = .ok (.i2l, 1) := by decide +kernel
theorem dX9_digest_22 : decode cX9_digest 22 = .ok (.ladd, 1) := by decide +kernel
theorem dX9_digest_23 : decode cX9_digest 23 = .ok (.lstore_n 1, 1) := by decide +kernel
theorem dX9_digest_24 : decode cX9_digest 24 = .ok (.iinc 3 1, 3) := by decide +kernel
theorem dX9_digest_27 : decode cX9_digest 27 = .ok (.goto (-21), 3) := by decide +kernel
theorem dX9_digest_30 : decode cX9_digest 30 = .ok (.iconst 0, 1) := by decide +kernel
theorem dX9_digest_31 : decode cX9_digest 31 = .ok (.istore_n 3, 1) := by decide +kernel
theorem dX9_digest_32 : decode cX9_digest 32 = .ok (.iload_n 3, 1) := by decide +kernel
theorem dX9_digest_33 : decode cX9_digest 33 = .ok (.iconst 3, 1) := by decide +kernel
theorem dX9_digest_34 : decode cX9_digest 34 = .ok (.aload_n 0, 1) := by decide +kernel
theorem dX9_digest_35 : decode cX9_digest 35 = .ok (.invokevirtual 60, 3) := by decide +kernel
theorem dX9_digest_38 : decode cX9_digest 38 = .ok (.iadd, 1) := by decide +kernel
theorem dX9_digest_39 : decode cX9_digest 39 = .ok (.if_icmp .ge 23, 3) := by decide +kernel
theorem dX9_digest_42 : decode cX9_digest 42 = .ok (.ldc2_w 290, 3) := by decide +kernel
theorem dX9_digest_45 : decode cX9_digest 45 = .ok (.lload_n 1, 1) := by decide +kernel
theorem dX9_digest_46 : decode cX9_digest 46 = .ok (.lmul, 1) := by decide +kernel
theorem dX9_digest_47 : decode cX9_digest 47 = .ok (.aload_n 0, 1) := by decide +kernel
theorem dX9_digest_48 : decode cX9_digest 48 = .ok (.getfield 7, 3) := by decide +kernel
theorem dX9_digest_51 : decode cX9_digest 51 = .ok (.iload_n 3, 1) := by decide +kernel
theorem dX9_digest_52 : decode cX9_digest 52 = .ok (.iaload, 1) := by decide +kernel
theorem dX9_digest_53 : decode cX9_digest 53 = .ok (.i2l, 1) := by decide +kernel
theorem dX9_digest_54 : decode cX9_digest 54 = .ok (.ladd, 1) := by decide +kernel
theorem dX9_digest_55 : decode cX9_digest 55 = .ok (.lstore_n 1, 1) := by decide +kernel
theorem dX9_digest_56 : decode cX9_digest 56 = .ok (.iinc 3 1, 3) := by decide +kernel
theorem dX9_digest_59 : decode cX9_digest 59 = .ok (.goto (-27), 3) := by decide +kernel
theorem dX9_digest_62 : decode cX9_digest 62 = .ok (.aload_n 0, 1) := by decide +kernel
theorem dX9_digest_63 : decode cX9_digest 63 = .ok (.invokevirtual 292, 3) := by decide +kernel
theorem dX9_digest_66 : decode cX9_digest 66 = .ok (.istore_n 3, 1) := by decide +kernel
theorem dX9_digest_67 : decode cX9_digest 67 = .ok (.ldc2_w 290, 3) := by decide +kernel
theorem dX9_digest_70 : decode cX9_digest 70 = .ok (.ldc2_w 290, 3) := by decide +kernel
theorem dX9_digest_73 : decode cX9_digest 73 = .ok (.lload_n 1, 1) := by decide +kernel
theorem dX9_digest_74 : decode cX9_digest 74 = .ok (.lmul, 1) := by decide +kernel
theorem dX9_digest_75 : decode cX9_digest 75 = .ok (.iload_n 3, 1) := by decide +kernel
theorem dX9_digest_76 : decode cX9_digest 76 = .ok (.i2l, 1) := by decide +kernel
theorem dX9_digest_77 : decode cX9_digest 77 = .ok (.ladd, 1) := by decide +kernel
theorem dX9_digest_78 : decode cX9_digest 78 = .ok (.lmul, 1) := by decide +kernel
theorem dX9_digest_79 : decode cX9_digest 79 = .ok (.aload_n 0, 1) := by decide +kernel
theorem dX9_digest_80 : decode cX9_digest 80 = .ok (.invokevirtual 218, 3) := by decide +kernel
theorem dX9_digest_83 : decode cX9_digest 83 = .ok (.i2l, 1) := by decide +kernel
theorem dX9_digest_84 : decode cX9_digest 84 = .ok (.ladd, 1) := by decide +kernel
theorem dX9_digest_85 : decode cX9_digest 85 = .ok (.lreturn, 1) := by decide +kernel
end
section
/-! ===== the frame of these rows: a world of N numbered cells at the addresses ad; all that may change in it is σ : cell, slot ===== -/
abbrev wx_Z : Type := Nat → Nat → Int32
def wx_up (σ : wx_Z) (c k : Nat) (v : Int32) : wx_Z := va_up σ c (upd (σ c) k v)
def wx_us (x y : Int32) : Int32 := (x.toUInt32 >>> (y.toUInt32 &&& Int32.toUInt32 31)).toInt32
def wx_uL (x : Int64) (y : Int32) : Int64 := (x.toUInt64 >>> (y.toInt64.toUInt64 &&& Int64.toUInt64 63)).toInt64
def wx_w (N : Nat) (E : Nat → (Nat → Int32) → va_E) (ad : Nat → Nat) (σ : wx_Z) : va_W := (List.range N).map (fun q => (ad q, E q (σ q)))
theorem wx_at {N : Nat} {E : Nat → (Nat → Int32) → va_E} {ad : Nat → Nat} {σ : wx_Z} {q : Nat} (h : q < N) : (wx_w N E ad σ)[q]? = some (ad q, E q (σ q)) := by
  unfold wx_w
  rw [List.getElem?_map, List.getElem?_range h]
  rfl
theorem wx_len {N : Nat} {E : Nat → (Nat → Int32) → va_E} {ad : Nat → Nat} {σ : wx_Z} : (wx_w N E ad σ).length = N := by simp [wx_w]
theorem wx_set {N : Nat} {E : Nat → (Nat → Int32) → va_E} {ad : Nat → Nat} {σ : wx_Z} {q : Nat} (h : q < N) (r : Nat → Int32) {e : va_E} (he : E q r = e) : (wx_w N E ad σ).set q (ad q, e) = wx_w N E ad (va_up σ q r) := by
  subst he
  apply List.ext_getElem?
  intro i
  by_cases hi : i = q
  · subst hi
    rw [List.getElem?_set_self (by rw [wx_len]; exact h), wx_at h]
    simp [va_up]
  · rw [List.getElem?_set_ne (fun z => hi z.symm)]
    by_cases hN : i < N
    · rw [wx_at hN, wx_at hN]
      simp [va_up, hi]
    · rw [List.getElem?_eq_none (by rw [wx_len]; omega), List.getElem?_eq_none (by rw [wx_len]; omega)]
theorem wx_adr {N : Nat} {E : Nat → (Nat → Int32) → va_E} {ad : Nat → Nat} {σ σ' : wx_Z} {sz q : Nat} (h : va_A (wx_w N E ad σ) sz q) : va_A (wx_w N E ad σ') sz q := by
  rcases h with ⟨k, e, h⟩ | h
  · have hk : k < N := by
      have := (List.getElem?_eq_some_iff.mp h).1
      rw [wx_len] at this
      exact this
    rw [wx_at hk] at h
    cases h
    exact Or.inl ⟨k, E k (σ' k), wx_at hk⟩
  · exact Or.inr h
theorem wx_free {N : Nat} {E : Nat → (Nat → Int32) → va_E} {ad : Nat → Nat} {σ : wx_Z} {A : Nat → Prop} {H0 H : Heap} {locs : List Loc} (hD : va_D A (wx_w N E ad σ)) (hS : va_S A H0 H locs) (hA : ∀ q, H0.size ≤ q → A q) : ∀ q, va_A (wx_w N E ad σ) H.size q → A q := by
  intro q h
  rcases h with ⟨k, e, h⟩ | h
  · exact hD.2 k (q, e) h
  · exact hA q (Nat.le_trans hS.1 h)
/-- what nobody writes: it goes along with every call -/
def wx_RoT (RO : (Nat → Prop) → State → Heap → Prop) : Prop :=
  (∀ (A A' : Nat → Prop) (s U : State) (H : Heap) (locs : List Loc), RO A s s.heap → va_S A s.heap H locs → (∀ q, A' q → A q) → U.heap = H → s.WarmedH U.vm → RO A' U U.heap) ∧
  ∀ (A : Nat → Prop) (U : State) (g : JFrame) (mk : MethodId) (a : Array Value), RO A U U.heap → RO A (U.calling g mk a) (U.calling g mk a).heap
def wx_Pre (D : va_G) (tys : List (ClassId × FieldType)) (RO : (Nat → Prop) → State → Heap → Prop) (N : Nat) (E : Nat → (Nat → Int32) → va_E) (ad : Nat → Nat) (σ : wx_Z) (sz : Nat) (av : List Value) : Array Value → State → Prop :=
  va_Pc av (fun U => U.heap.size = sz ∧ va_P D vwCl (wx_w N E ad σ) U.heap ∧ va_K D vwCl tys U ∧ va_D (fun _ => True) (wx_w N E ad σ) ∧ RO (va_A (wx_w N E ad σ) sz) U U.heap)
def wx_B (D : va_G) (tys : List (ClassId × FieldType)) (N : Nat) (E : Nat → (Nat → Int32) → va_E) (ad : Nat → Nat) (A : Nat → Prop) : wx_Z → State → Prop := fun σ t => va_P D vwCl (wx_w N E ad σ) t.heap ∧ va_K D vwCl tys t ∧ va_D A (wx_w N E ad σ)
theorem wx_blind {D : va_G} {tys : List (ClassId × FieldType)} {RO : (Nat → Prop) → State → Heap → Prop} {N : Nat} {E : Nat → (Nat → Int32) → va_E} {ad : Nat → Nat} {σ : wx_Z} {sz : Nat} {av : List Value} (hRO : wx_RoT RO) : FrameBlind (wx_Pre D tys RO N E ad σ sz av) := fun a U g mk q => by
  obtain ⟨q0, q1, qP, qK, qD, qR⟩ := q
  exact ⟨q0, q1, qP, va_K.moved (u := U) (U := U.calling g mk a) (Vm.Alike.refl U.vm) qK, qD, hRO.2 _ _ _ _ _ qR⟩
def wx_C (p : Program) (s : State) (m : MethodId) (args : Array Value) (c : Code) (cc : ByteArray) (nL : Nat) (own : String) (Ts : List Cond) (D : va_G) (tys : List (ClassId × FieldType)) (RO : (Nat → Prop) → State → Heap → Prop) (A : Nat → Prop) : Prop :=
  CallFix p m c cc nL s args Ts own ∧ (∀ q : Nat, s.heap.size ≤ q → A q) ∧ va_K D vwCl tys s ∧ wx_RoT RO ∧ RO A s s.heap
section WXA
variable {p : Program} {l : Launch} {e : Env} {R : Room} {s : State} {m : MethodId} {args : Array Value} {below : List Frame} {meth : Method} {c : Code} {H : Heap} {locs : List Loc} {Q : State → Prop}
variable {cc : ByteArray} {nL pc : Nat} {own : String} {Ts : List Cond} {D : va_G} {tys : List (ClassId × FieldType)} {RO : (Nat → Prop) → State → Heap → Prop} {A : Nat → Prop} {N : Nat} {E : Nat → (Nat → Int32) → va_E} {ad : Nat → Nat} {σ : wx_Z} {ls : Array Slot} {rest : List Value}
def wx_Ri (p : Program) (l : Launch) (e : Env) (R : Room) (s : State) (m : MethodId) (args : Array Value) (below : List Frame) (meth : Method) (c : Code) (cc : ByteArray) (D : va_G) (N : Nat) (E : Nat → (Nat → Int32) → va_E) (ad : Nat → Nat) (A : Nat → Prop) (K : Int32 → wx_Z → Prop) (Q : State → Prop) : Prop :=
  ∀ (v : Int32) (σ : wx_Z) (H : Heap) (locs : List Loc) (pc : Nat) (ls : Array Slot), K v σ → va_P D vwCl (wx_w N E ad σ) H → va_D A (wx_w N E ad σ) → va_S A s.heap H locs → decode cc pc = .ok (.ireturn, 1) → W p l e R s m args below meth c H locs 0 0 Q (F0 m pc ls [.int v])
def wx_Rz (ty : FieldType) (p : Program) (l : Launch) (e : Env) (R : Room) (s : State) (m : MethodId) (args : Array Value) (below : List Frame) (meth : Method) (c : Code) (cc : ByteArray) (D : va_G) (N : Nat) (E : Nat → (Nat → Int32) → va_E) (ad : Nat → Nat) (A : Nat → Prop) (K : Int32 → wx_Z → Prop) (Q : State → Prop) : Prop :=
  ∀ (v : Int32) (σ : wx_Z) (H : Heap) (locs : List Loc) (pc : Nat) (ls : Array Slot), narrow ty (.int v) = .int v → K v σ → va_P D vwCl (wx_w N E ad σ) H → va_D A (wx_w N E ad σ) → va_S A s.heap H locs → decode cc pc = .ok (.ireturn, 1) → W p l e R s m args below meth c H locs 0 0 Q (F0 m pc ls [.int v])
def wx_Rl (p : Program) (l : Launch) (e : Env) (R : Room) (s : State) (m : MethodId) (args : Array Value) (below : List Frame) (meth : Method) (c : Code) (cc : ByteArray) (D : va_G) (N : Nat) (E : Nat → (Nat → Int32) → va_E) (ad : Nat → Nat) (A : Nat → Prop) (K : Int64 → wx_Z → Prop) (Q : State → Prop) : Prop :=
  ∀ (v : Int64) (σ : wx_Z) (H : Heap) (locs : List Loc) (pc : Nat) (ls : Array Slot), K v σ → va_P D vwCl (wx_w N E ad σ) H → va_D A (wx_w N E ad σ) → va_S A s.heap H locs → decode cc pc = .ok (.lreturn, 1) → W p l e R s m args below meth c H locs 0 0 Q (F0 m pc ls [.long v])
def wx_Rv (p : Program) (l : Launch) (e : Env) (R : Room) (s : State) (m : MethodId) (args : Array Value) (below : List Frame) (meth : Method) (c : Code) (cc : ByteArray) (D : va_G) (N : Nat) (E : Nat → (Nat → Int32) → va_E) (ad : Nat → Nat) (A : Nat → Prop) (K : wx_Z → Prop) (Q : State → Prop) : Prop :=
  ∀ (σ : wx_Z) (H : Heap) (locs : List Loc) (pc : Nat) (ls : Array Slot), K σ → va_P D vwCl (wx_w N E ad σ) H → va_D A (wx_w N E ad σ) → va_S A s.heap H locs → decode cc pc = .ok (.return_, 1) → W p l e R s m args below meth c H locs 0 0 Q (F0 m pc ls [])
theorem wx_pv (C : wx_C p s m args c cc nL own Ts D tys RO A) (hP : va_P D vwCl (wx_w N E ad σ) H) (hD : va_D A (wx_w N E ad σ)) (hS : va_S A s.heap H locs) {q ci : Nat} {fs : List Value} {r : vw_C} (hq : q < N) (he : E q (σ q) = .inr (ci, fs)) (hc : vwCl[ci]? = some r) {As : List Value} : PreV s H r.1 (ad q) (wx_Pre D tys RO N E ad σ H.size (.ref (ad q) :: As)) As := by
  obtain ⟨-, hA, hK, hRO, hro⟩ := C
  refine ⟨wx_blind hRO, va_recv hK hP hc (q0 := q) (ci := ci) (fs := fs) (by rw [wx_at hq, he]), fun U hU hW => ⟨rfl, by rw [hU], by rw [hU]; exact hP, va_K.moved hW.alike hK, hD.weaken (fun _ _ _ _ => trivial), ?_⟩⟩
  exact hRO.1 A (va_A (wx_w N E ad σ) H.size) s U H locs hro hS (wx_free hD hS hA) hU hW
theorem wx_px (C : wx_C p s m args c cc nL own Ts D tys RO A) (hP : va_P D vwCl (wx_w N E ad σ) H) (hD : va_D A (wx_w N E ad σ)) (hS : va_S A s.heap H locs) {b : Nat} {Cn : String} (hr : ∃ cell : Cell, H[b]? = some cell ∧ cell.vm.isStatics = false ∧ s.vm.findClass Cn = some cell.cls) {As : List Value} : PreV s H Cn b (wx_Pre D tys RO N E ad σ H.size (.ref b :: As)) As := by
  obtain ⟨-, hA, hK, hRO, hro⟩ := C
  refine ⟨wx_blind hRO, hr, fun U hU hW => ⟨rfl, by rw [hU], by rw [hU]; exact hP, va_K.moved hW.alike hK, hD.weaken (fun _ _ _ _ => trivial), ?_⟩⟩
  exact hRO.1 A (va_A (wx_w N E ad σ) H.size) s U H locs hro hS (wx_free hD hS hA) hU hW
theorem wx_ps (C : wx_C p s m args c cc nL own Ts D tys RO A) (hP : va_P D vwCl (wx_w N E ad σ) H) (hD : va_D A (wx_w N E ad σ)) (hS : va_S A s.heap H locs) {As : List Value} : PreS s H (wx_Pre D tys RO N E ad σ H.size As) As := by
  obtain ⟨-, hA, hK, hRO, hro⟩ := C
  refine ⟨wx_blind hRO, fun U hU hW => ⟨rfl, by rw [hU], by rw [hU]; exact hP, va_K.moved hW.alike hK, hD.weaken (fun _ _ _ _ => trivial), ?_⟩⟩
  exact hRO.1 A (va_A (wx_w N E ad σ) H.size) s U H locs hro hS (wx_free hD hS hA) hU hW
theorem wx_ci (C : wx_C p s m args c cc nL own Ts D tys RO A) (hD : va_D A (wx_w N E ad σ)) (hS : va_S A s.heap H locs) {K' : Int32 → wx_Z → Prop} {a : Array Value} {st0 : List Value} (hr : va_Run p l e R s m args below meth c H locs 0 0 0 0 (F0 m pc ls st0) rest (va_Qi K' (wx_B D tys N E ad (va_A (wx_w N E ad σ) H.size)) (va_A (wx_w N E ad σ) H.size) a) (va_A (wx_w N E ad σ) H.size))
    (kk : ∀ (r : Int32) (σ' : wx_Z) (H1 : Heap) (locs1 : List Loc), K' r σ' → va_P D vwCl (wx_w N E ad σ') H1 → va_D A (wx_w N E ad σ') → va_S A s.heap H1 locs1 → W p l e R s m args below meth c H1 locs1 0 0 Q (F0 m (pc + 3) ls (.int r :: rest))) : W p l e R s m args below meth c H locs 0 0 Q (F0 m pc ls st0) := by
  have hF := wx_free hD hS C.2.1
  refine va_calli hr hS (fun q _ h => hF q h) hF (fun r u t H1 locs1 ht hvm hw hB hz1 hk1 hS1 => ?_)
  obtain ⟨hP1, hK1, hD1⟩ := hB
  rw [ht] at hP1
  exact kk r u H1 locs1 hw hP1 (hD1.weaken (fun _ q _ h => hF q.1 h)) hS1
theorem wx_cl (C : wx_C p s m args c cc nL own Ts D tys RO A) (hD : va_D A (wx_w N E ad σ)) (hS : va_S A s.heap H locs) {K' : Int64 → wx_Z → Prop} {a : Array Value} {st0 : List Value} (hr : va_Run p l e R s m args below meth c H locs 0 0 0 0 (F0 m pc ls st0) rest (va_Ql K' (wx_B D tys N E ad (va_A (wx_w N E ad σ) H.size)) (va_A (wx_w N E ad σ) H.size) a) (va_A (wx_w N E ad σ) H.size))
    (kk : ∀ (r : Int64) (σ' : wx_Z) (H1 : Heap) (locs1 : List Loc), K' r σ' → va_P D vwCl (wx_w N E ad σ') H1 → va_D A (wx_w N E ad σ') → va_S A s.heap H1 locs1 → W p l e R s m args below meth c H1 locs1 0 0 Q (F0 m (pc + 3) ls (.long r :: rest))) : W p l e R s m args below meth c H locs 0 0 Q (F0 m pc ls st0) := by
  have hF := wx_free hD hS C.2.1
  refine va_calll hr hS (fun q _ h => hF q h) hF (fun r u t H1 locs1 ht hvm hw hB hz1 hk1 hS1 => ?_)
  obtain ⟨hP1, hK1, hD1⟩ := hB
  rw [ht] at hP1
  exact kk r u H1 locs1 hw hP1 (hD1.weaken (fun _ q _ h => hF q.1 h)) hS1
theorem wx_cv (C : wx_C p s m args c cc nL own Ts D tys RO A) (hD : va_D A (wx_w N E ad σ)) (hS : va_S A s.heap H locs) {K' : wx_Z → Prop} {a : Array Value} {st0 : List Value} (hr : va_Run p l e R s m args below meth c H locs 0 0 0 0 (F0 m pc ls st0) rest (va_Qv K' (wx_B D tys N E ad (va_A (wx_w N E ad σ) H.size)) (va_A (wx_w N E ad σ) H.size) a) (va_A (wx_w N E ad σ) H.size))
    (kk : ∀ (σ' : wx_Z) (H1 : Heap) (locs1 : List Loc), K' σ' → va_P D vwCl (wx_w N E ad σ') H1 → va_D A (wx_w N E ad σ') → va_S A s.heap H1 locs1 → W p l e R s m args below meth c H1 locs1 0 0 Q (F0 m (pc + 3) ls rest)) : W p l e R s m args below meth c H locs 0 0 Q (F0 m pc ls st0) := by
  have hF := wx_free hD hS C.2.1
  refine va_callv hr hS (fun q _ h => hF q h) hF (fun u t H1 locs1 ht hvm hw hB hz1 hk1 hS1 => ?_)
  obtain ⟨hP1, hK1, hD1⟩ := hB
  rw [ht] at hP1
  exact kk u H1 locs1 hw hP1 (hD1.weaken (fun _ q _ h => hF q.1 h)) hS1
theorem wx_get (C : wx_C p s m args c cc nL own Ts D tys RO A) (hP : va_P D vwCl (wx_w N E ad σ) H) {q : Nat} (hq : q < N) {ci : Nat} {fs : List Value} (he : E q (σ q) = .inr (ci, fs)) {Cn : String} {T : u_T} {Nf : Nat} (hc : vwCl[ci]? = some (Cn, T, Nf)) (hin : ∀ w ∈ u_ws Cn T Nf, w ∈ Ts) (k : Nat) (hk : k < Nf) {index : Nat} (hlink : Cond.fieldLink own index (T k).1 (T k).2.1 (T k).2.2.1 ∈ Ts) {v : Value} (hv : fs[k]? = some v) (hdg : decode cc pc = .ok (.getfield index, 3))
    (kk : W p l e R s m args below meth c H locs 0 0 Q (F0 m (pc + 3) ls (v :: rest))) : W p l e R s m args below meth c H locs 0 0 Q (F0 m pc ls (.ref (ad q) :: rest)) :=
  va_get (D := D) (ci := ci) C.1.1 C.1.2.1 C.1.2.2.2.2 hin C.1.2.2.2.1 C.2.2.1 hP q (by rw [wx_at hq, he]) hc k hk (C.1.2.2.2.2 _ hlink) (fun _ h9 => h9) hv hdg kk
theorem wx_put (C : wx_C p s m args c cc nL own Ts D tys RO A) (hP : va_P D vwCl (wx_w N E ad σ) H) (hD : va_D A (wx_w N E ad σ)) (hS : va_S A s.heap H locs) {q : Nat} (hq : q < N) {ci : Nat} {fs : List Value} (he : E q (σ q) = .inr (ci, fs)) {Cn : String} {T : u_T} {Nf : Nat} (hc : vwCl[ci]? = some (Cn, T, Nf)) (hin : ∀ w ∈ u_ws Cn T Nf, w ∈ Ts) (ty0 : Nat → FieldType) (hty : ∀ k, k < Nf → parseFieldDescriptor (T k).2.2.1 = some (ty0 k)) (hnm : ∀ a, a < Nf → ∀ b, b < Nf → a ≠ b → (T a).2.1 ≠ (T b).2.1) (k : Nat) (hk : k < Nf) {index : Nat} (hlink : Cond.fieldLink own index (T k).1 (T k).2.1 (T k).2.2.1 ∈ Ts) (hfin : (T k).2.2.2 = false) (hd : ty0 k = .int) (hl : k < fs.length) {v : Int32} (hE : E q (upd (σ q) k v) = .inr (ci, fs.set k (.int v))) (hdg : decode cc pc = .ok (.putfield index, 3))
    (kk : ∀ (H1 : Heap) (locs1 : List Loc), va_P D vwCl (wx_w N E ad (wx_up σ q k v)) H1 → va_D A (wx_w N E ad (wx_up σ q k v)) → va_S A s.heap H1 locs1 → W p l e R s m args below meth c H1 locs1 0 0 Q (F0 m (pc + 3) ls rest)) : W p l e R s m args below meth c H locs 0 0 Q (F0 m pc ls (.int v :: .ref (ad q) :: rest)) := by
  refine va_put (D := D) (ci := ci) (v := .int v) (ty := .int) C.1.1 C.1.2.1 C.1.2.2.2.2 hin ty0 hty hnm C.1.2.2.2.1 C.2.2.1 hP hD hS q (by rw [wx_at hq, he]) hc k hk (C.1.2.2.2.2 _ hlink) (fun _ h9 => h9) hfin (by rw [hty k hk, hd]) rfl rfl hl hdg (fun H1 locs1 hP1 hD1 hS1 => ?_)
  rw [wx_set hq _ hE] at hP1 hD1
  exact kk H1 locs1 hP1 hD1 hS1
theorem wx_ild (C : wx_C p s m args c cc nL own Ts D tys RO A) (hP : va_P D vwCl (wx_w N E ad σ) H) {q : Nat} (hq : q < N) {cA : ClassId} {n : Nat} (hE : ∀ r, E q r = .inl (cA, n, .inl r)) (t0 : Nat) (ht : tys[t0]? = some (cA, .int)) {i : Int32} (hin : vp_in i n) (hdg : decode cc pc = .ok (.iaload, 1))
    (kk : W p l e R s m args below meth c H locs 0 0 Q (F0 m (pc + 1) ls (.int (σ q i.toNatClampNeg) :: rest))) : W p l e R s m args below meth c H locs 0 0 Q (F0 m pc ls (.int i :: .ref (ad q) :: rest)) :=
  va_iald C.1.1 C.1.2.1 C.2.2.1 hP q t0 (by rw [wx_at hq, hE]) ht hin hdg kk
theorem wx_ist (C : wx_C p s m args c cc nL own Ts D tys RO A) (hP : va_P D vwCl (wx_w N E ad σ) H) (hD : va_D A (wx_w N E ad σ)) (hS : va_S A s.heap H locs) {q : Nat} (hq : q < N) {cA : ClassId} {n : Nat} (hE : ∀ r, E q r = .inl (cA, n, .inl r)) (t0 : Nat) (ht : tys[t0]? = some (cA, .int)) {i x : Int32} (hin : vp_in i n) (hdg : decode cc pc = .ok (.iastore, 1))
    (kk : ∀ (H1 : Heap) (locs1 : List Loc), va_P D vwCl (wx_w N E ad (wx_up σ q i.toNatClampNeg x)) H1 → va_D A (wx_w N E ad (wx_up σ q i.toNatClampNeg x)) → va_S A s.heap H1 locs1 → W p l e R s m args below meth c H1 locs1 0 0 Q (F0 m (pc + 1) ls rest)) : W p l e R s m args below meth c H locs 0 0 Q (F0 m pc ls (.int x :: .int i :: .ref (ad q) :: rest)) := by
  refine va_iast C.1.1 C.1.2.1 C.2.2.1 hP hD hS q t0 (by rw [wx_at hq, hE]) ht hin hdg (fun H1 locs1 hP1 hD1 hS1 => ?_)
  rw [wx_set hq _ (hE _)] at hP1 hD1
  exact kk H1 locs1 hP1 hD1 hS1
theorem wx_bld (C : wx_C p s m args c cc nL own Ts D tys RO A) (hP : va_P D vwCl (wx_w N E ad σ) H) {q : Nat} (hq : q < N) {cA : ClassId} {n : Nat} (hE : ∀ r, E q r = .inl (cA, n, .inl r)) (t0 : Nat) (ht : tys[t0]? = some (cA, .byte)) {i : Int32} (hin : vp_in i n) (hdg : decode cc pc = .ok (.baload, 1))
    (kk : W p l e R s m args below meth c H locs 0 0 Q (F0 m (pc + 1) ls (.int (σ q i.toNatClampNeg) :: rest))) : W p l e R s m args below meth c H locs 0 0 Q (F0 m pc ls (.int i :: .ref (ad q) :: rest)) :=
  va_bald C.1.1 C.1.2.1 C.2.2.1 hP q t0 (by rw [wx_at hq, hE]) ht hin hdg kk
theorem wx_bst (C : wx_C p s m args c cc nL own Ts D tys RO A) (hP : va_P D vwCl (wx_w N E ad σ) H) (hD : va_D A (wx_w N E ad σ)) (hS : va_S A s.heap H locs) {q : Nat} (hq : q < N) {cA : ClassId} {n : Nat} (hE : ∀ r, E q r = .inl (cA, n, .inl r)) (t0 : Nat) (ht : tys[t0]? = some (cA, .byte)) {i x : Int32} (hin : vp_in i n) (hdg : decode cc pc = .ok (.bastore, 1))
    (kk : ∀ (H1 : Heap) (locs1 : List Loc), va_P D vwCl (wx_w N E ad (wx_up σ q i.toNatClampNeg (vp_nar .byte x))) H1 → va_D A (wx_w N E ad (wx_up σ q i.toNatClampNeg (vp_nar .byte x))) → va_S A s.heap H1 locs1 → W p l e R s m args below meth c H1 locs1 0 0 Q (F0 m (pc + 1) ls rest)) : W p l e R s m args below meth c H locs 0 0 Q (F0 m pc ls (.int x :: .int i :: .ref (ad q) :: rest)) := by
  refine va_bast C.1.1 C.1.2.1 C.2.2.1 hP hD hS q t0 (by rw [wx_at hq, hE]) ht hin hdg (fun H1 locs1 hP1 hD1 hS1 => ?_)
  rw [wx_set hq _ (hE _)] at hP1 hD1
  exact kk H1 locs1 hP1 hD1 hS1
theorem wx_ald (C : wx_C p s m args c cc nL own Ts D tys RO A) (hP : va_P D vwCl (wx_w N E ad σ) H) {q : Nat} (hq : q < N) {cA : ClassId} {n : Nat} {f : Nat → Option Nat} (he : E q (σ q) = .inl (cA, n, .inr (.inr (.inr (.inr f))))) (t0 : Nat) {ty : FieldType} (ht : tys[t0]? = some (cA, ty)) (hty : ty.isReference = true) {i : Int32} (hin : vp_in i n) {a : Nat} (ha : f i.toNatClampNeg = some a) (hdg : decode cc pc = .ok (.aaload, 1))
    (kk : W p l e R s m args below meth c H locs 0 0 Q (F0 m (pc + 1) ls (.ref a :: rest))) : W p l e R s m args below meth c H locs 0 0 Q (F0 m pc ls (.int i :: .ref (ad q) :: rest)) := by
  have hlt : i.toNatClampNeg < n := Nat.not_le.mp fun q => hin (Or.inr q)
  have hk2 : W p l e R s m args below meth c H locs 0 0 Q (F0 m (pc + 1) ls (va_rf (f i.toNatClampNeg) :: rest)) := by rw [ha]; exact kk
  exact W.aald (v := va_rf (f i.toNatClampNeg)) (ty := ty) C.1.1 C.1.2.1 (hP q _ (by rw [wx_at hq, he])) ((C.2.2.1.2 t0 _ ht).1 n (fun j => va_rf (f j))) hty (fun q => by cases q) (by show ¬ (i < 0 ∨ (arrV _ _ _).slots.size ≤ _); rw [arrV_size]; exact hin) (by show (arrV _ _ _).slots[_]? = _; rw [arrV_read _ _ hlt]) rfl rfl hdg hk2
theorem wx_cpy (C : wx_C p s m args c cc nL own Ts D tys RO A) (hP : va_P D vwCl (wx_w N E ad σ) H) (hD : va_D A (wx_w N E ad σ)) (hS : va_S A s.heap H locs) (hsz : ls.size = nL) {index : Nat} (hlink : Cond.methodLink own index arraycopyName ∈ Ts) (hnat : Cond.native arraycopyName ∈ Ts) (hstat : Cond.static arraycopyName ∈ Ts) (hini : Cond.initialized "java/lang/System" ∈ Ts)
    {q0 q1 : Nat} (hq0 : q0 < N) (hq1 : q1 < N) {cA : ClassId} {n0 n1 : Nat} (hE0 : ∀ r, E q0 r = .inl (cA, n0, .inl r)) (hE1 : ∀ r, E q1 r = .inl (cA, n1, .inl r)) (t0 : Nat) (ht : tys[t0]? = some (cA, .int)) {sp dp n : Int32} (h : ¬ sp < 0 ∧ ¬ dp < 0 ∧ ¬ n < 0 ∧ sp.toNatClampNeg + n.toNatClampNeg ≤ n0 ∧ dp.toNatClampNeg + n.toNatClampNeg ≤ n1)
    (hframes : 1 ≤ R.frames) (hlocals : (rest.map fun v => v.category).sum + (nativeFrameWords "java/lang/System" "arraycopy" 5 + 11) ≤ R.locals) (hdg : decode cc pc = .ok (.invokestatic index, 3))
    (kk : ∀ (H1 : Heap) (locs1 : List Loc), va_P D vwCl (wx_w N E ad (va_up σ q1 (va_cpy (σ q0) (σ q1) sp.toNatClampNeg dp.toNatClampNeg n.toNatClampNeg))) H1 → va_D A (wx_w N E ad (va_up σ q1 (va_cpy (σ q0) (σ q1) sp.toNatClampNeg dp.toNatClampNeg n.toNatClampNeg))) → va_S A s.heap H1 locs1 → W p l e R s m args below meth c H1 locs1 0 0 Q (F0 m (pc + 3) ls rest)) : W p l e R s m args below meth c H locs 0 0 Q (F0 m pc ls (.int n :: .int dp :: .ref (ad q1) :: .int sp :: .ref (ad q0) :: rest)) := by
  have hts := C.1.2.2.2.2
  refine va_copyi C.1.1 C.1.2.1 (C.1.2.2.1.trans hsz.symm) C.1.2.2.2.1 (hts _ hlink) (hts _ hnat) (hts _ hstat) (hts _ hini) C.2.2.1 hP hD hS q0 q1 t0 t0 (ty := .int) (by rw [wx_at hq0, hE0]) (by rw [wx_at hq1, hE1]) ht ht rfl h.1 h.2.1 h.2.2.1 h.2.2.2.1 h.2.2.2.2 (fun _ _ => rfl) hframes hlocals hdg (fun H1 locs1 hP1 hD1 hS1 => ?_)
  rw [wx_set hq1 _ (hE1 _)] at hP1 hD1
  exact kk H1 locs1 hP1 hD1 hS1
end WXA
theorem wx_meti {l : Launch} {y : MethodName} {ws ws' : List Cond} {rm : Room} {cc : ByteArray} {maxL : Nat} {own : String} {D : va_G} {tys : List (ClassId × FieldType)} {RO : (Nat → Prop) → State → Heap → Prop} {N : Nat} {E : Nat → (Nat → Int32) → va_E} {ad : Nat → Nat} {σ : wx_Z} {sz : Nat} {av : List Value} {K : Int32 → wx_Z → Prop} (hown : y.cls = own) (hy : plainName y.cls = true) (hw : ws = Cond.code y cc maxL (some .int) :: ws') (hn : (lg_sl av).length ≤ maxL) (hRO : wx_RoT RO)
    (body : ∀ (p : Program) (e : Env) (s : State) (m : MethodId) (args : Array Value) (below : List Frame) (meth : Method) (c : Code) (A : Nat → Prop) (Q : State → Prop) (ls : Array Slot), wx_C p s m args c cc maxL own ws D tys RO A → wx_Ri p l e rm s m args below meth c cc D N E ad A K Q → va_P D vwCl (wx_w N E ad σ) s.heap → va_D A (wx_w N E ad σ) → va_S A s.heap s.heap [] → lv_has ls maxL (lv_args 0 av) → W p l e rm s m args below meth c s.heap [] 0 0 Q (F0 m 0 ls [])) :
    Met l y ws rm (wx_Pre D tys RO N E ad σ sz av) (va_Qi K (wx_B D tys N E ad (va_A (wx_w N E ad σ) sz)) (va_A (wx_w N E ad σ) sz)) 0 0 (va_A (wx_w N E ad σ) sz) := by
  refine Met.ofW (cc := cc) (maxL := maxL) (ret := some .int) hy hw ?_
  intro p e s m args below meth c s₁ B hml hv
  obtain ⟨rfl, hsz, hP, hK, hD0, hro⟩ := hv
  subst hsz
  have hD := hD0.self (sz := s.heap.size)
  have hl := lv_entry av (n := maxL) hn
  rw [lg_entry_eq]
  refine body p e s m _ below meth c (va_A (wx_w N E ad σ) s.heap.size) _ _ ⟨⟨B.exec, B.bytes, hml, by rw [← hown]; exact findClass_of_methodNamed B.named, atoms_spec (ws := ws) B.pre⟩, fun q h => Or.inr h, hK, hRO, hro⟩ ?_ hP hD va_S.rf hl
  intro v σ' H locs pc ls hk hP' hD' hS' hdg
  exact W.iret (v := v) B.exec B.bytes B.returns (fun t ht hW => ⟨⟨v, σ', rfl, hk, by rw [ht]; exact hP', va_K.moved hW.alike hK, hD'⟩, hS'.F ht⟩) hS'.2.2 hdg
theorem wx_metz {ty : FieldType} {l : Launch} {y : MethodName} {ws ws' : List Cond} {rm : Room} {cc : ByteArray} {maxL : Nat} {own : String} {D : va_G} {tys : List (ClassId × FieldType)} {RO : (Nat → Prop) → State → Heap → Prop} {N : Nat} {E : Nat → (Nat → Int32) → va_E} {ad : Nat → Nat} {σ : wx_Z} {sz : Nat} {av : List Value} {K : Int32 → wx_Z → Prop} (hown : y.cls = own) (hy : plainName y.cls = true) (hw : ws = Cond.code y cc maxL (some ty) :: ws') (hn : (lg_sl av).length ≤ maxL) (hRO : wx_RoT RO)
    (body : ∀ (p : Program) (e : Env) (s : State) (m : MethodId) (args : Array Value) (below : List Frame) (meth : Method) (c : Code) (A : Nat → Prop) (Q : State → Prop) (ls : Array Slot), wx_C p s m args c cc maxL own ws D tys RO A → wx_Rz ty p l e rm s m args below meth c cc D N E ad A K Q → va_P D vwCl (wx_w N E ad σ) s.heap → va_D A (wx_w N E ad σ) → va_S A s.heap s.heap [] → lv_has ls maxL (lv_args 0 av) → W p l e rm s m args below meth c s.heap [] 0 0 Q (F0 m 0 ls [])) :
    Met l y ws rm (wx_Pre D tys RO N E ad σ sz av) (va_Qi K (wx_B D tys N E ad (va_A (wx_w N E ad σ) sz)) (va_A (wx_w N E ad σ) sz)) 0 0 (va_A (wx_w N E ad σ) sz) := by
  refine Met.ofW (cc := cc) (maxL := maxL) (ret := some ty) hy hw ?_
  intro p e s m args below meth c s₁ B hml hv
  obtain ⟨rfl, hsz, hP, hK, hD0, hro⟩ := hv
  subst hsz
  have hD := hD0.self (sz := s.heap.size)
  have hl := lv_entry av (n := maxL) hn
  rw [lg_entry_eq]
  refine body p e s m _ below meth c (va_A (wx_w N E ad σ) s.heap.size) _ _ ⟨⟨B.exec, B.bytes, hml, by rw [← hown]; exact findClass_of_methodNamed B.named, atoms_spec (ws := ws) B.pre⟩, fun q h => Or.inr h, hK, hRO, hro⟩ ?_ hP hD va_S.rf hl
  intro v σ' H locs pc ls hnw hk hP' hD' hS' hdg
  exact W.zret (v := v) (ty := ty) B.exec B.bytes B.returns hnw (fun t ht hW => ⟨⟨v, σ', rfl, hk, by rw [ht]; exact hP', va_K.moved hW.alike hK, hD'⟩, hS'.F ht⟩) hS'.2.2 hdg
theorem wx_metl {l : Launch} {y : MethodName} {ws ws' : List Cond} {rm : Room} {cc : ByteArray} {maxL : Nat} {own : String} {D : va_G} {tys : List (ClassId × FieldType)} {RO : (Nat → Prop) → State → Heap → Prop} {N : Nat} {E : Nat → (Nat → Int32) → va_E} {ad : Nat → Nat} {σ : wx_Z} {sz : Nat} {av : List Value} {K : Int64 → wx_Z → Prop} (hown : y.cls = own) (hy : plainName y.cls = true) (hw : ws = Cond.code y cc maxL (some .long) :: ws') (hn : (lg_sl av).length ≤ maxL) (hRO : wx_RoT RO)
    (body : ∀ (p : Program) (e : Env) (s : State) (m : MethodId) (args : Array Value) (below : List Frame) (meth : Method) (c : Code) (A : Nat → Prop) (Q : State → Prop) (ls : Array Slot), wx_C p s m args c cc maxL own ws D tys RO A → wx_Rl p l e rm s m args below meth c cc D N E ad A K Q → va_P D vwCl (wx_w N E ad σ) s.heap → va_D A (wx_w N E ad σ) → va_S A s.heap s.heap [] → lv_has ls maxL (lv_args 0 av) → W p l e rm s m args below meth c s.heap [] 0 0 Q (F0 m 0 ls [])) :
    Met l y ws rm (wx_Pre D tys RO N E ad σ sz av) (va_Ql K (wx_B D tys N E ad (va_A (wx_w N E ad σ) sz)) (va_A (wx_w N E ad σ) sz)) 0 0 (va_A (wx_w N E ad σ) sz) := by
  refine Met.ofW (cc := cc) (maxL := maxL) (ret := some .long) hy hw ?_
  intro p e s m args below meth c s₁ B hml hv
  obtain ⟨rfl, hsz, hP, hK, hD0, hro⟩ := hv
  subst hsz
  have hD := hD0.self (sz := s.heap.size)
  have hl := lv_entry av (n := maxL) hn
  rw [lg_entry_eq]
  refine body p e s m _ below meth c (va_A (wx_w N E ad σ) s.heap.size) _ _ ⟨⟨B.exec, B.bytes, hml, by rw [← hown]; exact findClass_of_methodNamed B.named, atoms_spec (ws := ws) B.pre⟩, fun q h => Or.inr h, hK, hRO, hro⟩ ?_ hP hD va_S.rf hl
  intro v σ' H locs pc ls hk hP' hD' hS' hdg
  exact W.lret (v := v) B.exec B.bytes B.returns (fun t ht hW => ⟨⟨v, σ', rfl, hk, by rw [ht]; exact hP', va_K.moved hW.alike hK, hD'⟩, hS'.F ht⟩) hS'.2.2 hdg
theorem wx_metv {l : Launch} {y : MethodName} {ws ws' : List Cond} {rm : Room} {cc : ByteArray} {maxL : Nat} {own : String} {D : va_G} {tys : List (ClassId × FieldType)} {RO : (Nat → Prop) → State → Heap → Prop} {N : Nat} {E : Nat → (Nat → Int32) → va_E} {ad : Nat → Nat} {σ : wx_Z} {sz : Nat} {av : List Value} {K : wx_Z → Prop} (hown : y.cls = own) (hy : plainName y.cls = true) (hw : ws = Cond.code y cc maxL none :: ws') (hn : (lg_sl av).length ≤ maxL) (hRO : wx_RoT RO)
    (body : ∀ (p : Program) (e : Env) (s : State) (m : MethodId) (args : Array Value) (below : List Frame) (meth : Method) (c : Code) (A : Nat → Prop) (Q : State → Prop) (ls : Array Slot), wx_C p s m args c cc maxL own ws D tys RO A → wx_Rv p l e rm s m args below meth c cc D N E ad A K Q → va_P D vwCl (wx_w N E ad σ) s.heap → va_D A (wx_w N E ad σ) → va_S A s.heap s.heap [] → lv_has ls maxL (lv_args 0 av) → W p l e rm s m args below meth c s.heap [] 0 0 Q (F0 m 0 ls [])) :
    Met l y ws rm (wx_Pre D tys RO N E ad σ sz av) (va_Qv K (wx_B D tys N E ad (va_A (wx_w N E ad σ) sz)) (va_A (wx_w N E ad σ) sz)) 0 0 (va_A (wx_w N E ad σ) sz) := by
  refine Met.ofW (cc := cc) (maxL := maxL) (ret := none) hy hw ?_
  intro p e s m args below meth c s₁ B hml hv
  obtain ⟨rfl, hsz, hP, hK, hD0, hro⟩ := hv
  subst hsz
  have hD := hD0.self (sz := s.heap.size)
  have hl := lv_entry av (n := maxL) hn
  rw [lg_entry_eq]
  refine body p e s m _ below meth c (va_A (wx_w N E ad σ) s.heap.size) _ _ ⟨⟨B.exec, B.bytes, hml, by rw [← hown]; exact findClass_of_methodNamed B.named, atoms_spec (ws := ws) B.pre⟩, fun q h => Or.inr h, hK, hRO, hro⟩ ?_ hP hD va_S.rf hl
  intro σ' H locs pc ls hk hP' hD' hS' hdg
  exact W.vret B.exec B.bytes B.returns (fun t ht hW => ⟨⟨σ', rfl, hk, by rw [ht]; exact hP', va_K.moved hW.alike hK, hD'⟩, hS'.F ht⟩) hS'.2.2 hdg
def wx_T0 : (Nat → Prop) → State → Heap → Prop := fun _ _ _ => True
theorem wx_T0_ok : wx_RoT wx_T0 := ⟨fun _ _ _ _ _ _ _ _ _ _ _ => trivial, fun _ _ _ _ _ _ => trivial⟩
end
section
/-! ===== the reference's world: cell 0 the object, 1 .. 13 its rows ===== -/
def wM_E (cI : ClassId) (ad : Nat → Nat) (q : Nat) (r : Nat → Int32) : va_E := match q with
  | 0 => .inr (9, [.ref (ad 1), .ref (ad 2), .int (r 2), .ref (ad 3), .ref (ad 4), .int (r 5), .int (r 6), .int (r 7), .int (r 8), .int (r 9), .int (r 10), .ref (ad 5), .int (r 12), .int (r 13), .int (r 14), .ref (ad 6), .ref (ad 7), .ref (ad 8), .ref (ad 9), .ref (ad 10), .ref (ad 11), .int (r 21), .int (r 22), .int (r 23), .int (r 24), .ref (ad 12), .ref (ad 13)])
  | 1 => .inl (cI, 35, .inl r)
  | 2 => .inl (cI, 280, .inl r)
  | 3 => .inl (cI, 3, .inl r)
  | 4 => .inl (cI, 32, .inl r)
  | 5 => .inl (cI, 32, .inl r)
  | 6 => .inl (cI, 192, .inl r)
  | 7 => .inl (cI, 6, .inl r)
  | 8 => .inl (cI, 6, .inl r)
  | 9 => .inl (cI, 6, .inl r)
  | 10 => .inl (cI, 6, .inl r)
  | 11 => .inl (cI, 120, .inl r)
  | 12 => .inl (cI, 35, .inl r)
  | _ => .inl (cI, 35, .inl r)
theorem eM_0 (cI : ClassId) (ad : Nat → Nat) (r : Nat → Int32) : wM_E cI ad 0 r = .inr (9, [.ref (ad 1), .ref (ad 2), .int (r 2), .ref (ad 3), .ref (ad 4), .int (r 5), .int (r 6), .int (r 7), .int (r 8), .int (r 9), .int (r 10), .ref (ad 5), .int (r 12), .int (r 13), .int (r 14), .ref (ad 6), .ref (ad 7), .ref (ad 8), .ref (ad 9), .ref (ad 10), .ref (ad 11), .int (r 21), .int (r 22), .int (r 23), .int (r 24), .ref (ad 12), .ref (ad 13)]) := rfl

def wpX9_in (σ : wx_Z) (y0 : Int64) (y2 : Int64) (y4 : Int64) (K : Int32 → wx_Z → Prop) : Prop := (((lg_cmp y0 y2) < 0 → K 0 σ) ∧ (¬ ((lg_cmp y0 y2) < 0) → ((0 < (lg_cmp y0 y4) → K 0 σ) ∧ (¬ (0 < (lg_cmp y0 y4)) → K 1 σ))))
def wpX9_bad (σ : wx_Z) (x1 : Int32) (K : Int32 → wx_Z → Prop) : Prop := (vp_in 0 3 ∧ (vp_in 0 3 ∧ (∀ σ9 : wx_Z, σ9 = wx_up σ 3 (Int32.toNatClampNeg 0) ((σ 3 (Int32.toNatClampNeg 0)) + 1) → K x1 σ9)))
def wpX9_no (σ : wx_Z) (x1 : Int32) (K : Int32 → wx_Z → Prop) : Prop := (vp_in 1 3 ∧ (vp_in 1 3 ∧ (∀ σ9 : wx_Z, σ9 = wx_up σ 3 (Int32.toNatClampNeg 1) ((σ 3 (Int32.toNatClampNeg 1)) + 1) → K x1 σ9)))
def wpX9_full (σ : wx_Z) (K : Int32 → wx_Z → Prop) : Prop := (vp_in 2 3 ∧ (vp_in 2 3 ∧ (∀ σ9 : wx_Z, σ9 = wx_up σ 3 (Int32.toNatClampNeg 2) ((σ 3 (Int32.toNatClampNeg 2)) + 1) → K (-4) σ9)))
def wpX9_has (σ : wx_Z) (x0 : Int32) (x1 : Int32) (K : Int32 → wx_Z → Prop) : Prop := ((¬ ((x0 >>> (x1 &&& 31)) &&& 1) = 1 → K 0 σ) ∧ (¬ (¬ ((x0 >>> (x1 &&& 31)) &&& 1) = 1) → K 1 σ))
def wpX9_bits_4 (K : Int32 → wx_Z → Prop) : Nat → wx_Z → Int32 → Int32 → Prop
  | 0, _, _, _ => False
  | n + 1, σ, x1, x2 => ((x2 = 0 → K x1 σ) ∧ (¬ (x2 = 0) → (∀ t8 : Int32, t8 = x1 + 1 → (∀ t16 : Int32, t16 = x2 &&& (x2 - 1) → wpX9_bits_4 K  n σ t8 t16))))
def wpX9_bits (σ : wx_Z) (x0 : Int32) (K : Int32 → wx_Z → Prop) : Prop := (∃ n4 : Nat, wpX9_bits_4 K n4 σ 0 x0)
def wpX9_order (σ : wx_Z) (K : Int32 → wx_Z → Prop) : Prop := (vp_in 0 35 ∧ K (σ 1 (Int32.toNatClampNeg 0)) σ)
def wpX9_length (σ : wx_Z) (K : Int32 → wx_Z → Prop) : Prop := (vp_in 1 35 ∧ K (σ 1 (Int32.toNatClampNeg 1)) σ)
def wpX9_places (σ : wx_Z) (K : Int32 → wx_Z → Prop) : Prop := (wpX9_length σ <| fun r2 σ2 => K (1 <<< (r2 &&& 31)) σ2)
def wpX9_theWord (σ : wx_Z) (K : Int32 → wx_Z → Prop) : Prop := (vp_in 2 35 ∧ K (σ 1 (Int32.toNatClampNeg 2)) σ)
def wpX9_allOf (σ : wx_Z) (x0 : Int32) (K : Int32 → wx_Z → Prop) : Prop := ((x0 < 32 → K ((1 <<< (x0 &&& 31)) - 1) σ) ∧ (¬ (x0 < 32) → K (-1) σ))
def wpX9_keep_51 (K : wx_Z → Prop) : Nat → wx_Z → Int32 → Prop
  | 0, _, _ => False
  | n + 1, σ, x1 => ((35 ≤ x1 → (∀ σ90 : wx_Z, σ90 = wx_up σ 0 2 ((σ 0 2) + 1) → K σ90)) ∧ (¬ (35 ≤ x1) → (vp_in x1 35 ∧ (vp_in ((35 * (σ 0 2)) + x1) 280 ∧ (∀ σ76 : wx_Z, σ76 = wx_up σ 2 (Int32.toNatClampNeg ((35 * (σ 0 2)) + x1)) (σ 1 (Int32.toNatClampNeg x1)) → (∀ t77 : Int32, t77 = x1 + 1 → wpX9_keep_51 K  n σ76 t77))))))
def wpX9_keep_11 (K : wx_Z → Prop) : Nat → wx_Z → Int32 → Prop
  | 0, _, _ => False
  | n + 1, σ, x1 => ((245 ≤ x1 → (∀ σ46 : wx_Z, σ46 = wx_up σ 0 2 ((σ 0 2) - 1) → (∃ n51 : Nat, wpX9_keep_51 K n51 σ46 0))) ∧ (¬ (245 ≤ x1) → (vp_in (x1 + 35) 280 ∧ (vp_in x1 280 ∧ (∀ σ32 : wx_Z, σ32 = wx_up σ 2 (Int32.toNatClampNeg x1) (σ 2 (Int32.toNatClampNeg (x1 + 35))) → (∀ t33 : Int32, t33 = x1 + 1 → wpX9_keep_11 K  n σ32 t33))))))
def wpX9_keep (σ : wx_Z) (K : wx_Z → Prop) : Prop := ((¬ (σ 0 2) = 8 → (∃ n51 : Nat, wpX9_keep_51 K n51 σ 0)) ∧ (¬ (¬ (σ 0 2) = 8) → (∃ n11 : Nat, wpX9_keep_11 K n11 σ 0)))
def wpX9_lays_14 (K : wx_Z → Prop) (C7 : wx_Z → Int32 → Int32 → Prop) : Nat → wx_Z → Int32 → Int32 → Int32 → Prop
  | 0, _, _, _, _ => False
  | n + 1, σ, x1, x2, x3 => (wpX9_places σ <| fun r16 σ16 => ((r16 ≤ x3 → (∀ t56 : Int32, t56 = x2 + 1 → C7 σ16 x1 t56)) ∧ (¬ (r16 ≤ x3) → (wpX9_bits σ16 x3 <| fun r23 σ23 => ((¬ r23 = x2 → (∀ t50 : Int32, t50 = x3 + 1 → wpX9_lays_14 K C7 n σ23 x1 x2 t50)) ∧ (¬ (¬ r23 = x2) → (vp_in (σ23 0 5) 32 ∧ (∀ σ39 : wx_Z, σ39 = wx_up σ23 4 (Int32.toNatClampNeg (σ23 0 5)) x3 → (∀ σ47 : wx_Z, σ47 = wx_up σ39 0 5 ((σ39 0 5) + 1) → (∀ t50_1 : Int32, t50_1 = x3 + 1 → wpX9_lays_14 K C7 n σ47 x1 x2 t50_1))))))))))
def wpX9_lays_7 (K : wx_Z → Prop) : Nat → wx_Z → Int32 → Int32 → Prop
  | 0, _, _, _ => False
  | n + 1, σ, x1, x2 => ((x1 < x2 → K σ) ∧ (¬ (x1 < x2) → (∃ n14 : Nat, wpX9_lays_14 K (wpX9_lays_7 K  n) n14 σ x1 x2 0)))
def wpX9_lays (σ : wx_Z) (x1 : Int32) (K : wx_Z → Prop) : Prop := (∀ σ2 : wx_Z, σ2 = wx_up σ 0 5 0 → (∃ n7 : Nat, wpX9_lays_7 K n7 σ2 x1 0))
def wpX9_many (σ : wx_Z) (K : Int32 → wx_Z → Prop) : Prop := (wpX9_order σ <| fun r2 σ2 => (wpX9_lays σ2 r2 <| fun σ5 => K (σ5 0 5) σ5))
def wpX9_wordOf_4 (K : Int32 → wx_Z → Prop) : Nat → wx_Z → Int32 → Int32 → Int32 → Prop
  | 0, _, _, _, _ => False
  | n + 1, σ, x1, x2, x3 => (wpX9_places σ <| fun r6 σ6 => ((r6 ≤ x3 → K x2 σ6) ∧ (¬ (r6 ≤ x3) → ((¬ (x3 &&& x1) = x1 → (∀ t28 : Int32, t28 = x2 ||| 0 → (∀ t29 : Int32, t29 = x3 + 1 → wpX9_wordOf_4 K  n σ6 x1 t28 t29))) ∧ (¬ (¬ (x3 &&& x1) = x1) → (∀ t28_1 : Int32, t28_1 = x2 ||| (1 <<< (x3 &&& 31)) → (∀ t29_1 : Int32, t29_1 = x3 + 1 → wpX9_wordOf_4 K  n σ6 x1 t28_1 t29_1)))))))
def wpX9_wordOf (σ : wx_Z) (x1 : Int32) (K : Int32 → wx_Z → Prop) : Prop := (∃ n4 : Nat, wpX9_wordOf_4 K n4 σ x1 0 0)
def wpX9_sumOf_5 (K : Int32 → wx_Z → Prop) : Nat → wx_Z → Int32 → Int32 → Int32 → Int32 → Prop
  | 0, _, _, _, _, _ => False
  | n + 1, σ, x1, x2, x3, x4 => ((x2 ≤ x4 → K x3 σ) ∧ (¬ (x2 ≤ x4) → (wpX9_has σ x1 x4 <| fun r15 σ15 => ((r15 = 0 → (∀ t37 : Int32, t37 = x3 ^^^ 0 → (∀ t38 : Int32, t38 = x4 + 1 → wpX9_sumOf_5 K  n σ15 x1 x2 t37 t38))) ∧ (¬ (r15 = 0) → (vp_in x4 32 ∧ (wpX9_wordOf σ15 (σ15 4 (Int32.toNatClampNeg x4)) <| fun r29 σ29 => (∀ t37_1 : Int32, t37_1 = x3 ^^^ r29 → (∀ t38_1 : Int32, t38_1 = x4 + 1 → wpX9_sumOf_5 K  n σ29 x1 x2 t37_1 t38_1)))))))))
def wpX9_sumOf (σ : wx_Z) (x1 : Int32) (x2 : Int32) (K : Int32 → wx_Z → Prop) : Prop := (∃ n5 : Nat, wpX9_sumOf_5 K n5 σ x1 x2 0 0)
def wpX9_isCode (σ : wx_Z) (x1 : Int32) (x2 : Int32) (K : Int32 → wx_Z → Prop) : Prop := (wpX9_in σ (Int32.toInt64 x2) 0 5 <| fun r6 σ6 => ((r6 = 0 → K 0 σ6) ∧ (¬ (r6 = 0) → (wpX9_in σ6 (Int32.toInt64 x1) 0 (Int32.toInt64 x2) <| fun r17 σ17 => ((r17 = 0 → K 0 σ17) ∧ (¬ (r17 = 0) → K 1 σ17))))))
def wpX9_becomesCode_2 (K : wx_Z → Prop) : Nat → wx_Z → Int32 → Int32 → Int32 → Prop
  | 0, _, _, _, _ => False
  | n + 1, σ, x1, x2, x3 => ((35 ≤ x3 → (vp_in 0 35 ∧ (∀ σ27 : wx_Z, σ27 = wx_up σ 1 (Int32.toNatClampNeg 0) x1 → (vp_in 1 35 ∧ (∀ σ34 : wx_Z, σ34 = wx_up σ27 1 (Int32.toNatClampNeg 1) x2 → K σ34))))) ∧ (¬ (35 ≤ x3) → (vp_in x3 35 ∧ (∀ σ14 : wx_Z, σ14 = wx_up σ 1 (Int32.toNatClampNeg x3) 0 → (∀ t15 : Int32, t15 = x3 + 1 → wpX9_becomesCode_2 K  n σ14 x1 x2 t15)))))
def wpX9_becomesCode (σ : wx_Z) (x1 : Int32) (x2 : Int32) (K : wx_Z → Prop) : Prop := (∃ n2 : Nat, wpX9_becomesCode_2 K n2 σ x1 x2 0)
def wpX9_code (σ : wx_Z) (x1 : Int32) (x2 : Int32) (K : Int32 → wx_Z → Prop) : Prop := (wpX9_isCode σ x1 x2 <| fun r3 σ3 => ((¬ r3 = 0 → (wpX9_keep σ3 <| fun σ17 => (wpX9_becomesCode σ17 x1 x2 <| fun σ23 => (wpX9_many σ23 <| fun r27 σ27 => K r27 σ27)))) ∧ (¬ (¬ r3 = 0) → (wpX9_bad σ3 (-2) <| fun r12 σ12 => K r12 σ12))))
def wpX9_distance (σ : wx_Z) (K : Int32 → wx_Z → Prop) : Prop := (wpX9_length σ <| fun r2 σ2 => (wpX9_order σ2 <| fun r6 σ6 => K (1 <<< ((r2 - r6) &&& 31)) σ6))
def wpX9_of (σ : wx_Z) (x1 : Int32) (K : Int32 → wx_Z → Prop) : Prop := (wpX9_in σ (Int32.toInt64 x1) 0 5 <| fun r6 σ6 => ((¬ r6 = 0 → ((¬ x1 = 0 → ((¬ x1 = 1 → ((¬ x1 = 2 → ((¬ x1 = 3 → ((¬ x1 = 4 → (wpX9_distance σ6 <| fun r79 σ79 => (¬ 2 = 0 ∧ K ((r79 - 1) / 2) σ79))) ∧ (¬ (¬ x1 = 4) → (wpX9_places σ6 <| fun r72 σ72 => K r72 σ72)))) ∧ (¬ (¬ x1 = 3) → (wpX9_distance σ6 <| fun r60 σ60 => K r60 σ60)))) ∧ (¬ (¬ x1 = 2) → (wpX9_many σ6 <| fun r48 σ48 => K r48 σ48)))) ∧ (¬ (¬ x1 = 1) → (wpX9_length σ6 <| fun r36 σ36 => K r36 σ36)))) ∧ (¬ (¬ x1 = 0) → (wpX9_order σ6 <| fun r24 σ24 => K r24 σ24)))) ∧ (¬ (¬ r6 = 0) → (wpX9_bad σ6 (-2) <| fun r15 σ15 => K r15 σ15))))
def wpX9_term (σ : wx_Z) (x1 : Int32) (K : Int32 → wx_Z → Prop) : Prop := ((0 ≤ x1 → (wpX9_many σ <| fun r13 σ13 => ((r13 ≤ x1 → K (-1) σ13) ∧ (¬ (r13 ≤ x1) → (vp_in x1 32 ∧ K (σ13 4 (Int32.toNatClampNeg x1)) σ13))))) ∧ (¬ (0 ≤ x1) → (wpX9_bad σ (-2) <| fun r7 σ7 => K r7 σ7)))
def wpX9_isWithin (σ : wx_Z) (x1 : Int32) (x2 : Int32) (K : Int32 → wx_Z → Prop) : Prop := (wpX9_allOf σ x2 <| fun r2 σ2 => ((¬ (x1 &&& (r2 ^^^ (-1))) = 0 → K 0 σ2) ∧ (¬ (¬ (x1 &&& (r2 ^^^ (-1))) = 0) → K 1 σ2)))
def wpX9_word (σ : wx_Z) (x1 : Int32) (K : Int32 → wx_Z → Prop) : Prop := (wpX9_places σ <| fun r3 σ3 => (wpX9_isWithin σ3 x1 r3 <| fun r6 σ6 => ((¬ r6 = 0 → (wpX9_keep σ6 <| fun σ20 => (vp_in 2 35 ∧ (∀ σ29 : wx_Z, σ29 = wx_up σ20 1 (Int32.toNatClampNeg 2) x1 → K 1 σ29)))) ∧ (¬ (¬ r6 = 0) → (wpX9_bad σ6 (-2) <| fun r15 σ15 => K r15 σ15)))))
def wpX9_encodes (σ : wx_Z) (x1 : Int32) (K : Int32 → wx_Z → Prop) : Prop := (wpX9_many σ <| fun r1 σ1 => (wpX9_sumOf σ1 x1 r1 <| fun r13 σ13 => (vp_in 2 35 ∧ (∀ σ16 : wx_Z, σ16 = wx_up σ13 1 (Int32.toNatClampNeg 2) r13 → (wpX9_theWord σ16 <| fun r18 σ18 => (wpX9_bits σ18 r18 <| fun r21 σ21 => K r21 σ21))))))
def wpX9_encode (σ : wx_Z) (x1 : Int32) (K : Int32 → wx_Z → Prop) : Prop := (wpX9_many σ <| fun r3 σ3 => (wpX9_isWithin σ3 x1 r3 <| fun r6 σ6 => ((¬ r6 = 0 → (wpX9_keep σ6 <| fun σ20 => (wpX9_encodes σ20 x1 <| fun r25 σ25 => K r25 σ25))) ∧ (¬ (¬ r6 = 0) → (wpX9_bad σ6 (-2) <| fun r15 σ15 => K r15 σ15)))))
def wpX9_isPlace (σ : wx_Z) (x1 : Int32) (K : Int32 → wx_Z → Prop) : Prop := (wpX9_places σ <| fun r4 σ4 => (wpX9_in σ4 (Int32.toInt64 x1) 0 (Int32.toInt64 (r4 - 1)) <| fun r10 σ10 => (narrow .boolean (.int r10) = .int r10 ∧ K r10 σ10)))
def wpX9_flips (σ : wx_Z) (x1 : Int32) (K : Int32 → wx_Z → Prop) : Prop := (vp_in 2 35 ∧ (vp_in 2 35 ∧ (∀ σ11 : wx_Z, σ11 = wx_up σ 1 (Int32.toNatClampNeg 2) ((σ 1 (Int32.toNatClampNeg 2)) ^^^ (1 <<< (x1 &&& 31))) → (wpX9_theWord σ11 <| fun r13 σ13 => (wpX9_has σ13 r13 x1 <| fun r17 σ17 => ((r17 = 0 → K 0 σ17) ∧ (¬ (r17 = 0) → K 1 σ17)))))))
def wpX9_flip (σ : wx_Z) (x1 : Int32) (K : Int32 → wx_Z → Prop) : Prop := (wpX9_isPlace σ x1 <| fun r2 σ2 => ((¬ r2 = 0 → (wpX9_keep σ2 <| fun σ16 => (wpX9_flips σ16 x1 <| fun r21 σ21 => K r21 σ21))) ∧ (¬ (¬ r2 = 0) → (wpX9_bad σ2 (-2) <| fun r11 σ11 => K r11 σ11))))
def wpX9_hurt_80 (K : Int32 → wx_Z → Prop) (C46 : wx_Z → Int32 → Int64 → Int32 → Int32 → Prop) : Nat → wx_Z → Int32 → Int64 → Int32 → Int32 → Int32 → Prop
  | 0, _, _, _, _, _, _ => False
  | n + 1, σ, x2, y3, x5, x6, x7 => (wpX9_has σ x5 x7 <| fun r84 σ84 => ((r84 = 0 → (∀ t111 : Int32, t111 = x5 ||| (1 <<< (x7 &&& 31)) → (∀ t113 : Int32, t113 = x6 + 1 → C46 σ84 x2 y3 t111 t113))) ∧ (¬ (r84 = 0) → (wpX9_places σ84 <| fun r95 σ95 => (¬ r95 = 0 ∧ (∀ t99 : Int32, t99 = (x7 + 1) - (x7 + 1) / r95 * r95 → wpX9_hurt_80 K C46 n σ95 x2 y3 x5 x6 t99))))))
def wpX9_hurt_46 (K : Int32 → wx_Z → Prop) : Nat → wx_Z → Int32 → Int64 → Int32 → Int32 → Prop
  | 0, _, _, _, _, _ => False
  | n + 1, σ, x2, y3, x5, x6 => ((x2 ≤ x6 → (vp_in 2 35 ∧ (vp_in 2 35 ∧ (∀ σ129 : wx_Z, σ129 = wx_up σ 1 (Int32.toNatClampNeg 2) ((σ 1 (Int32.toNatClampNeg 2)) ^^^ x5) → (wpX9_theWord σ129 <| fun r131 σ131 => (wpX9_bits σ131 r131 <| fun r134 σ134 => K r134 σ134)))))) ∧ (¬ (x2 ≤ x6) → (¬ 2147483648 = 0 ∧ (∀ t65 : Int64, t65 = ((y3 * 1103515245) + 12345) - ((y3 * 1103515245) + 12345) / 2147483648 * 2147483648 → (¬ 65536 = 0 ∧ (wpX9_places σ <| fun r72 σ72 => (¬ (Int32.toInt64 r72) = 0 ∧ (∀ t78 : Int32, t78 = Int64.toInt32 ((t65 / 65536) - (t65 / 65536) / (Int32.toInt64 r72) * (Int32.toInt64 r72)) → (∃ n80 : Nat, wpX9_hurt_80 K (wpX9_hurt_46 K  n) n80 σ72 x2 t65 x5 x6 t78)))))))))
def wpX9_hurt (σ : wx_Z) (x1 : Int32) (x2 : Int32) (K : Int32 → wx_Z → Prop) : Prop := (wpX9_in σ (Int32.toInt64 x1) 0 999999 <| fun r6 σ6 => ((r6 = 0 → (wpX9_bad σ6 (-2) <| fun r29 σ29 => K r29 σ29)) ∧ (¬ (r6 = 0) → (wpX9_places σ6 <| fun r16 σ16 => (wpX9_in σ16 (Int32.toInt64 x2) 0 (Int32.toInt64 r16) <| fun r20 σ20 => ((¬ r20 = 0 → (∀ t35 : Int64, t35 = Int32.toInt64 x1 → (wpX9_keep σ20 <| fun σ40 => (∃ n46 : Nat, wpX9_hurt_46 K n46 σ40 x2 t35 0 0)))) ∧ (¬ (¬ r20 = 0) → (wpX9_bad σ20 (-2) <| fun r29_1 σ29_1 => K r29_1 σ29_1))))))))
def wpX9_now (σ : wx_Z) (K : Int32 → wx_Z → Prop) : Prop := (wpX9_theWord σ <| fun r1 σ1 => K r1 σ1)
def wpX9_at (σ : wx_Z) (x1 : Int32) (K : Int32 → wx_Z → Prop) : Prop := (wpX9_isPlace σ x1 <| fun r2 σ2 => ((r2 = 0 → (wpX9_bad σ2 (-2) <| fun r22 σ22 => K r22 σ22)) ∧ (¬ (r2 = 0) → (wpX9_theWord σ2 <| fun r9 σ9 => K ((r9 >>> (x1 &&& 31)) &&& 1) σ9))))
def wpX9_weight (σ : wx_Z) (K : Int32 → wx_Z → Prop) : Prop := (wpX9_theWord σ <| fun r1 σ1 => (wpX9_bits σ1 r1 <| fun r4 σ4 => K r4 σ4))
def wpX9_coefficientOf_5 (K : Int32 → wx_Z → Prop) : Nat → wx_Z → Int32 → Int32 → Int32 → Int32 → Prop
  | 0, _, _, _, _, _ => False
  | n + 1, σ, x1, x2, x3, x4 => (wpX9_places σ <| fun r8 σ8 => ((r8 ≤ x4 → K x3 σ8) ∧ (¬ (r8 ≤ x4) → ((¬ (x4 &&& x2) = x4 → (∀ t35 : Int32, t35 = x3 ^^^ 0 → (∀ t36 : Int32, t36 = x4 + 1 → wpX9_coefficientOf_5 K  n σ8 x1 x2 t35 t36))) ∧ (¬ (¬ (x4 &&& x2) = x4) → (∀ t35_1 : Int32, t35_1 = x3 ^^^ ((x1 >>> (x4 &&& 31)) &&& 1) → (∀ t36_1 : Int32, t36_1 = x4 + 1 → wpX9_coefficientOf_5 K  n σ8 x1 x2 t35_1 t36_1)))))))
def wpX9_coefficientOf (σ : wx_Z) (x1 : Int32) (x2 : Int32) (K : Int32 → wx_Z → Prop) : Prop := (∃ n5 : Nat, wpX9_coefficientOf_5 K n5 σ x1 x2 0 0)
def wpX9_isWord_4 (K : Int32 → wx_Z → Prop) : Nat → wx_Z → Int32 → Int32 → Prop
  | 0, _, _, _ => False
  | n + 1, σ, x1, x2 => (wpX9_places σ <| fun r6 σ6 => ((r6 ≤ x2 → K x1 σ6) ∧ (¬ (r6 ≤ x2) → (wpX9_bits σ6 x2 <| fun r13 σ13 => (wpX9_order σ13 <| fun r17 σ17 => ((r13 ≤ r17 → (∀ t42 : Int32, t42 = x2 + 1 → wpX9_isWord_4 K  n σ17 x1 t42)) ∧ (¬ (r13 ≤ r17) → (wpX9_theWord σ17 <| fun r25 σ25 => (wpX9_coefficientOf σ25 r25 x2 <| fun r29 σ29 => ((¬ r29 = 1 → (∀ t42_1 : Int32, t42_1 = x2 + 1 → wpX9_isWord_4 K  n σ29 x1 t42_1)) ∧ (¬ (¬ r29 = 1) → (∀ t42_2 : Int32, t42_2 = x2 + 1 → wpX9_isWord_4 K  n σ29 0 t42_2))))))))))))
def wpX9_isWord (σ : wx_Z) (K : Int32 → wx_Z → Prop) : Prop := (∃ n4 : Nat, wpX9_isWord_4 K n4 σ 1 0)
def wpX9_coefficient (σ : wx_Z) (x1 : Int32) (K : Int32 → wx_Z → Prop) : Prop := (wpX9_isPlace σ x1 <| fun r2 σ2 => ((¬ r2 = 0 → (wpX9_length σ2 <| fun r17 σ17 => (wpX9_lays σ17 r17 <| fun σ20 => (wpX9_theWord σ20 <| fun r25 σ25 => (vp_in x1 32 ∧ (wpX9_coefficientOf σ25 r25 (σ25 4 (Int32.toNatClampNeg x1)) <| fun r34 σ34 => K r34 σ34)))))) ∧ (¬ (¬ r2 = 0) → (wpX9_bad σ2 (-2) <| fun r11 σ11 => K r11 σ11))))
def wpX9_voted_27 (K : Int32 → wx_Z → Prop) (C5 : wx_Z → Int32 → Int32 → Int32 → Int32 → Prop) : Nat → wx_Z → Int32 → Int32 → Int32 → Int32 → Int32 → Int32 → Prop
  | 0, _, _, _, _, _, _, _ => False
  | n + 1, σ, x1, x2, x3, x4, x5, x6 => (wpX9_places σ <| fun r30 σ30 => ((r30 ≤ x6 → ((¬ x5 = 1 → (∀ t81 : Int32, t81 = x3 + (-1) → (∀ t82 : Int32, t82 = x4 + 1 → C5 σ30 x1 x2 t81 t82))) ∧ (¬ (¬ x5 = 1) → (∀ t81_1 : Int32, t81_1 = x3 + 1 → (∀ t82_1 : Int32, t82_1 = x4 + 1 → C5 σ30 x1 x2 t81_1 t82_1))))) ∧ (¬ (r30 ≤ x6) → ((¬ (x6 &&& (x2 ^^^ (-1))) = x4 → (∀ t60 : Int32, t60 = x5 ^^^ 0 → (∀ t62 : Int32, t62 = x6 + 1 → wpX9_voted_27 K C5 n σ30 x1 x2 x3 x4 t60 t62))) ∧ (¬ (¬ (x6 &&& (x2 ^^^ (-1))) = x4) → (∀ t60_1 : Int32, t60_1 = x5 ^^^ ((x1 >>> (x6 &&& 31)) &&& 1) → (∀ t62_1 : Int32, t62_1 = x6 + 1 → wpX9_voted_27 K C5 n σ30 x1 x2 x3 x4 t60_1 t62_1)))))))
def wpX9_voted_5 (K : Int32 → wx_Z → Prop) : Nat → wx_Z → Int32 → Int32 → Int32 → Int32 → Prop
  | 0, _, _, _, _, _ => False
  | n + 1, σ, x1, x2, x3, x4 => (wpX9_places σ <| fun r8 σ8 => ((r8 ≤ x4 → K x3 σ8) ∧ (¬ (r8 ≤ x4) → ((¬ (x4 &&& x2) = 0 → (∀ t82 : Int32, t82 = x4 + 1 → wpX9_voted_5 K  n σ8 x1 x2 x3 t82)) ∧ (¬ (¬ (x4 &&& x2) = 0) → (∃ n27 : Nat, wpX9_voted_27 K (wpX9_voted_5 K  n) n27 σ8 x1 x2 x3 x4 0 0))))))
def wpX9_voted (σ : wx_Z) (x1 : Int32) (x2 : Int32) (K : Int32 → wx_Z → Prop) : Prop := (∃ n5 : Nat, wpX9_voted_5 K n5 σ x1 x2 0 0)
def wpX9_votesNow_177 (K : wx_Z → Prop) (C35 : wx_Z → Int32 → Int32 → Int32 → Prop) (C45 : wx_Z → Int32 → Int32 → Int32 → Int32 → Int32 → Prop) (σ : wx_Z) (x1 : Int32) (x2 : Int32) (x3 : Int32) (x4 : Int32) (x5 : Int32) (x7 : Int32) : Prop := (vp_in x5 32 ∧ (∀ σ185 : wx_Z, σ185 = wx_up σ 0 9 (σ 4 (Int32.toNatClampNeg x5)) → (∀ σ191 : wx_Z, σ191 = wx_up σ185 0 10 x7 → (∀ t194 : Int32, t194 = x5 + 1 → C45 σ191 x1 x2 x3 x4 t194))))
def wpX9_votesNow_156 (K : wx_Z → Prop) (C35 : wx_Z → Int32 → Int32 → Int32 → Prop) (C45 : wx_Z → Int32 → Int32 → Int32 → Int32 → Int32 → Prop) (σ : wx_Z) (x1 : Int32) (x2 : Int32) (x3 : Int32) (x4 : Int32) (x5 : Int32) (x7 : Int32) (s1 : Int32) (s2 : Int32) : Prop := (∀ σ157 : wx_Z, σ157 = wx_up σ 0 8 (s1 + s2) → (((σ157 0 9) = (-1) → wpX9_votesNow_177 K C35 C45 σ157 x1 x2 x3 x4 x5 x7) ∧ (¬ ((σ157 0 9) = (-1)) → (((σ157 0 10) ≤ x7 → (∀ t194 : Int32, t194 = x5 + 1 → C45 σ157 x1 x2 x3 x4 t194)) ∧ (¬ ((σ157 0 10) ≤ x7) → wpX9_votesNow_177 K C35 C45 σ157 x1 x2 x3 x4 x5 x7)))))
def wpX9_votesNow_138 (K : wx_Z → Prop) (C35 : wx_Z → Int32 → Int32 → Int32 → Prop) (C45 : wx_Z → Int32 → Int32 → Int32 → Int32 → Int32 → Prop) (σ : wx_Z) (x1 : Int32) (x2 : Int32) (x3 : Int32) (x5 : Int32) (x6 : Int32) (x7 : Int32) (s0 : Int32) (s1 : Int32) : Prop := (∀ t139 : Int32, t139 = s0 ^^^ s1 → ((¬ x6 = 0 → wpX9_votesNow_156 K C35 C45 σ x1 x2 x3 t139 x5 x7 (σ 0 8) 0) ∧ (¬ (¬ x6 = 0) → wpX9_votesNow_156 K C35 C45 σ x1 x2 x3 t139 x5 x7 (σ 0 8) 1)))
def wpX9_votesNow_112 (K : wx_Z → Prop) (C35 : wx_Z → Int32 → Int32 → Int32 → Prop) (C45 : wx_Z → Int32 → Int32 → Int32 → Int32 → Int32 → Prop) (σ : wx_Z) (x1 : Int32) (x2 : Int32) (x3 : Int32) (x4 : Int32) (x5 : Int32) (x6 : Int32) (x7 : Int32) (s1 : Int32) (s2 : Int32) : Prop := (∀ σ113 : wx_Z, σ113 = wx_up σ 0 6 (s1 ||| s2) → ((x6 ≤ 0 → wpX9_votesNow_138 K C35 C45 σ113 x1 x2 x3 x5 x6 x7 x4 0) ∧ (¬ (x6 ≤ 0) → (vp_in x5 32 ∧ (wpX9_wordOf σ113 (σ113 4 (Int32.toNatClampNeg x5)) <| fun r131 σ131 => wpX9_votesNow_138 K C35 C45 σ131 x1 x2 x3 x5 x6 x7 x4 r131)))))
def wpX9_votesNow_92 (K : wx_Z → Prop) (C35 : wx_Z → Int32 → Int32 → Int32 → Prop) (C45 : wx_Z → Int32 → Int32 → Int32 → Int32 → Int32 → Prop) (σ : wx_Z) (x1 : Int32) (x2 : Int32) (x3 : Int32) (x4 : Int32) (x5 : Int32) (x6 : Int32) (s0 : Int32) : Prop := ((x6 ≤ 0 → wpX9_votesNow_112 K C35 C45 σ x1 x2 x3 x4 x5 x6 s0 (σ 0 6) 0) ∧ (¬ (x6 ≤ 0) → wpX9_votesNow_112 K C35 C45 σ x1 x2 x3 x4 x5 x6 s0 (σ 0 6) (1 <<< (x5 &&& 31))))
def wpX9_votesNow_45 (K : wx_Z → Prop) (C35 : wx_Z → Int32 → Int32 → Int32 → Prop) : Nat → wx_Z → Int32 → Int32 → Int32 → Int32 → Int32 → Prop
  | 0, _, _, _, _, _, _ => False
  | n + 1, σ, x1, x2, x3, x4, x5 => ((x2 ≤ x5 → (∀ t204 : Int32, t204 = x1 ^^^ x4 → (∀ t205 : Int32, t205 = x3 + (-1) → C35 σ t204 x2 t205))) ∧ (¬ (x2 ≤ x5) → (vp_in x5 32 ∧ (wpX9_bits σ (σ 4 (Int32.toNatClampNeg x5)) <| fun r58 σ58 => ((¬ r58 = x3 → (∀ t194 : Int32, t194 = x5 + 1 → wpX9_votesNow_45 K C35 n σ58 x1 x2 x3 x4 t194)) ∧ (¬ (¬ r58 = x3) → (vp_in x5 32 ∧ (wpX9_voted σ58 x1 (σ58 4 (Int32.toNatClampNeg x5)) <| fun r74 σ74 => ((0 ≤ r74 → wpX9_votesNow_92 K C35 (wpX9_votesNow_45 K C35 n) σ74 x1 x2 x3 x4 x5 r74 r74) ∧ (¬ (0 ≤ r74) → wpX9_votesNow_92 K C35 (wpX9_votesNow_45 K C35 n) σ74 x1 x2 x3 x4 x5 r74 (-r74)))))))))))
def wpX9_votesNow_35 (K : wx_Z → Prop) : Nat → wx_Z → Int32 → Int32 → Int32 → Prop
  | 0, _, _, _, _ => False
  | n + 1, σ, x1, x2, x3 => ((x3 < 0 → (wpX9_sumOf σ (σ 0 6) x2 <| fun r218 σ218 => (∀ σ221 : wx_Z, σ221 = wx_up σ218 0 7 r218 → K σ221))) ∧ (¬ (x3 < 0) → (∃ n45 : Nat, wpX9_votesNow_45 K (wpX9_votesNow_35 K  n) n45 σ x1 x2 x3 0 0)))
def wpX9_votesNow (σ : wx_Z) (K : wx_Z → Prop) : Prop := (wpX9_theWord σ <| fun r1 σ1 => (wpX9_many σ1 <| fun r6 σ6 => (∀ σ12 : wx_Z, σ12 = wx_up σ6 0 6 0 → (∀ σ17 : wx_Z, σ17 = wx_up σ12 0 8 0 → (∀ σ22 : wx_Z, σ22 = wx_up σ17 0 9 (-1) → (∀ σ27 : wx_Z, σ27 = wx_up σ22 0 10 0 → (wpX9_order σ27 <| fun r31 σ31 => (∃ n35 : Nat, wpX9_votesNow_35 K n35 σ31 r1 r6 r31))))))))
def wpX9_votes (σ : wx_Z) (K : Int32 → wx_Z → Prop) : Prop := (wpX9_votesNow σ <| fun σ1 => K (σ1 0 6) σ1)
def wpX9_vote (σ : wx_Z) (x1 : Int32) (K : Int32 → wx_Z → Prop) : Prop := (wpX9_in σ (Int32.toInt64 x1) 0 3 <| fun r6 σ6 => ((¬ r6 = 0 → (wpX9_votesNow σ6 <| fun σ20 => ((¬ x1 = 0 → ((¬ x1 = 1 → ((¬ x1 = 2 → K (σ20 0 10) σ20) ∧ (¬ (¬ x1 = 2) → K (σ20 0 9) σ20))) ∧ (¬ (¬ x1 = 1) → K (σ20 0 8) σ20))) ∧ (¬ (¬ x1 = 0) → (wpX9_theWord σ20 <| fun r28 σ28 => (wpX9_bits σ28 (r28 ^^^ (σ28 0 7)) <| fun r36 σ36 => K r36 σ36)))))) ∧ (¬ (¬ r6 = 0) → (wpX9_bad σ6 (-2) <| fun r15 σ15 => K r15 σ15))))
def wpX9_mendsNow (σ : wx_Z) (K : Int32 → wx_Z → Prop) : Prop := (wpX9_votesNow σ <| fun σ1 => (wpX9_theWord σ1 <| fun r5 σ5 => (wpX9_bits σ5 (r5 ^^^ (σ5 0 7)) <| fun r13 σ13 => (vp_in 2 35 ∧ (∀ σ26 : wx_Z, σ26 = wx_up σ13 1 (Int32.toNatClampNeg 2) (σ13 0 7) → K r13 σ26)))))
def wpX9_mends (σ : wx_Z) (K : Int32 → wx_Z → Prop) : Prop := (wpX9_keep σ <| fun σ1 => (wpX9_mendsNow σ1 <| fun r5 σ5 => K r5 σ5))
def wpX9_signOf_4 (K : Int32 → wx_Z → Prop) : Nat → wx_Z → Int32 → Int32 → Int32 → Prop
  | 0, _, _, _, _ => False
  | n + 1, σ, x1, x2, x3 => (wpX9_places σ <| fun r6 σ6 => ((r6 ≤ x3 → K x2 σ6) ∧ (¬ (r6 ≤ x3) → (wpX9_theWord σ6 <| fun r14 σ14 => (wpX9_bits σ14 (x1 &&& x3) <| fun r24 σ24 => ((¬ ((r14 >>> (x3 &&& 31)) &&& 1) = (r24 &&& 1) → (∀ t38 : Int32, t38 = x2 + (-1) → (∀ t39 : Int32, t39 = x3 + 1 → wpX9_signOf_4 K  n σ24 x1 t38 t39))) ∧ (¬ (¬ ((r14 >>> (x3 &&& 31)) &&& 1) = (r24 &&& 1)) → (∀ t38_1 : Int32, t38_1 = x2 + 1 → (∀ t39_1 : Int32, t39_1 = x3 + 1 → wpX9_signOf_4 K  n σ24 x1 t38_1 t39_1)))))))))
def wpX9_signOf (σ : wx_Z) (x1 : Int32) (K : Int32 → wx_Z → Prop) : Prop := (∃ n4 : Nat, wpX9_signOf_4 K n4 σ x1 0 0)
def wpX9_sign (σ : wx_Z) (x1 : Int32) (K : Int32 → wx_Z → Prop) : Prop := (wpX9_isPlace σ x1 <| fun r2 σ2 => ((r2 = 0 → (wpX9_bad σ2 1000 <| fun r20 σ20 => K r20 σ20)) ∧ (¬ (r2 = 0) → (wpX9_signOf σ2 x1 <| fun r10 σ10 => K r10 σ10))))
def wpX9_far (σ : wx_Z) (x0 : Int32) (K : Int32 → wx_Z → Prop) : Prop := ((0 ≤ x0 → K x0 σ) ∧ (¬ (0 ≤ x0) → K (-x0) σ))
def wpX9_best_81 (K : Int32 → wx_Z → Prop) (C26 : wx_Z → Int32 → Int32 → Int32 → Int32 → Prop) (σ : wx_Z) (x1 : Int32) (x2 : Int32) (x4 : Int32) (x5 : Int32) (s0 : Int32) : Prop := ((x5 ≤ 0 → (∀ t94 : Int32, t94 = x4 + 1 → C26 σ x1 x2 s0 t94)) ∧ (¬ (x5 ≤ 0) → (∀ t94_1 : Int32, t94_1 = x4 + 1 → C26 σ x1 x4 s0 t94_1)))
def wpX9_best_26 (K : Int32 → wx_Z → Prop) : Nat → wx_Z → Int32 → Int32 → Int32 → Int32 → Prop
  | 0, _, _, _, _, _ => False
  | n + 1, σ, x1, x2, x3, x4 => (wpX9_places σ <| fun r29 σ29 => ((r29 ≤ x4 → ((¬ x1 = 0 → ((¬ x1 = 1 → K x3 σ29) ∧ (¬ (¬ x1 = 1) → (wpX9_signOf σ29 x2 <| fun r115 σ115 => K r115 σ115)))) ∧ (¬ (¬ x1 = 0) → K x2 σ29))) ∧ (¬ (r29 ≤ x4) → (wpX9_signOf σ29 x4 <| fun r38 σ38 => (wpX9_far σ38 r38 <| fun r41 σ41 => (wpX9_signOf σ41 x2 <| fun r46 σ46 => (wpX9_far σ46 r46 <| fun r49 σ49 => (∀ t53 : Int32, t53 = r41 - r49 → ((0 < t53 → wpX9_best_81 K (wpX9_best_26 K  n) σ49 x1 x2 x4 t53 1) ∧ (¬ (0 < t53) → ((¬ x4 = 0 → ((¬ t53 = 0 → wpX9_best_81 K (wpX9_best_26 K  n) σ49 x1 x2 x4 t53 x3) ∧ (¬ (¬ t53 = 0) → wpX9_best_81 K (wpX9_best_26 K  n) σ49 x1 x2 x4 t53 (x3 + 1)))) ∧ (¬ (¬ x4 = 0) → wpX9_best_81 K (wpX9_best_26 K  n) σ49 x1 x2 x4 t53 1))))))))))))
def wpX9_best (σ : wx_Z) (x1 : Int32) (K : Int32 → wx_Z → Prop) : Prop := (wpX9_in σ (Int32.toInt64 x1) 0 2 <| fun r6 σ6 => ((¬ r6 = 0 → (∃ n26 : Nat, wpX9_best_26 K n26 σ6 x1 0 0 0)) ∧ (¬ (¬ r6 = 0) → (wpX9_bad σ6 (-2) <| fun r15 σ15 => K r15 σ15))))
def wpX9_isFew (σ : wx_Z) (K : Int32 → wx_Z → Prop) : Prop := (wpX9_many σ <| fun r1 σ1 => ((16 < r1 → K 0 σ1) ∧ (¬ (16 < r1) → K 1 σ1)))
def wpX9_laysBasis_7 (K : wx_Z → Prop) : Nat → wx_Z → Int32 → Int32 → Prop
  | 0, _, _, _ => False
  | n + 1, σ, x1, x2 => ((x1 ≤ x2 → K σ) ∧ (¬ (x1 ≤ x2) → (vp_in x2 32 ∧ (wpX9_wordOf σ (σ 4 (Int32.toNatClampNeg x2)) <| fun r24 σ24 => (vp_in x2 32 ∧ (∀ σ27 : wx_Z, σ27 = wx_up σ24 5 (Int32.toNatClampNeg x2) r24 → (∀ t28 : Int32, t28 = x2 + 1 → wpX9_laysBasis_7 K  n σ27 x1 t28)))))))
def wpX9_laysBasis (σ : wx_Z) (K : wx_Z → Prop) : Prop := (wpX9_many σ <| fun r1 σ1 => (∃ n7 : Nat, wpX9_laysBasis_7 K n7 σ1 r1 0))
def wpX9_finds_151 (K : wx_Z → Prop) (C34 : wx_Z → Int32 → Int32 → Int32 → Prop) (σ : wx_Z) (x1 : Int32) (x2 : Int32) (x3 : Int32) (x5 : Int32) (s1 : Int32) : Prop := (∀ σ151 : wx_Z, σ151 = wx_up σ 0 12 s1 → (((σ151 0 13) ≤ x5 → (∀ σ173 : wx_Z, σ173 = wx_up σ151 0 13 (σ151 0 13) → (∀ t176 : Int32, t176 = x3 + 1 → C34 σ173 x1 x2 t176))) ∧ (¬ ((σ151 0 13) ≤ x5) → (∀ σ173_1 : wx_Z, σ173_1 = wx_up σ151 0 13 x5 → (∀ t176_1 : Int32, t176_1 = x3 + 1 → C34 σ173_1 x1 x2 t176_1)))))
def wpX9_finds_130 (K : wx_Z → Prop) (C34 : wx_Z → Int32 → Int32 → Int32 → Prop) (σ : wx_Z) (x1 : Int32) (x2 : Int32) (x3 : Int32) (x5 : Int32) (s1 : Int32) : Prop := (∀ σ130 : wx_Z, σ130 = wx_up σ 0 14 s1 → (((σ130 0 13) ≤ x5 → wpX9_finds_151 K C34 σ130 x1 x2 x3 x5 (σ130 0 12)) ∧ (¬ ((σ130 0 13) ≤ x5) → wpX9_finds_151 K C34 σ130 x1 x2 x3 x5 x1)))
def wpX9_finds_83 (K : wx_Z → Prop) (C34 : wx_Z → Int32 → Int32 → Int32 → Prop) (σ : wx_Z) (x1 : Int32) (x2 : Int32) (x3 : Int32) : Prop := (wpX9_theWord σ <| fun r85 σ85 => (wpX9_bits σ85 (x1 ^^^ r85) <| fun r89 σ89 => (((σ89 0 13) ≤ r89 → ((¬ r89 = (σ89 0 13) → wpX9_finds_130 K C34 σ89 x1 x2 x3 r89 (σ89 0 14)) ∧ (¬ (¬ r89 = (σ89 0 13)) → wpX9_finds_130 K C34 σ89 x1 x2 x3 r89 ((σ89 0 14) + 1)))) ∧ (¬ ((σ89 0 13) ≤ r89) → wpX9_finds_130 K C34 σ89 x1 x2 x3 r89 1))))
def wpX9_finds_51 (K : wx_Z → Prop) (C34 : wx_Z → Int32 → Int32 → Int32 → Prop) : Nat → wx_Z → Int32 → Int32 → Int32 → Int32 → Int32 → Prop
  | 0, _, _, _, _, _, _ => False
  | n + 1, σ, x1, x2, x3, x4, x5 => ((x2 ≤ x5 → wpX9_finds_83 K C34 σ x1 x2 x3) ∧ (¬ (x2 ≤ x5) → (wpX9_has σ x4 x5 <| fun r61 σ61 => ((r61 = 0 → wpX9_finds_83 K C34 σ61 x1 x2 x3) ∧ (¬ (r61 = 0) → (vp_in x5 32 ∧ (∀ t76 : Int32, t76 = x1 ^^^ (σ61 5 (Int32.toNatClampNeg x5)) → (∀ t77 : Int32, t77 = x5 + 1 → wpX9_finds_51 K C34 n σ61 t76 x2 x3 x4 t77))))))))
def wpX9_finds_34 (K : wx_Z → Prop) : Nat → wx_Z → Int32 → Int32 → Int32 → Prop
  | 0, _, _, _, _ => False
  | n + 1, σ, x1, x2, x3 => (((1 <<< (x2 &&& 31)) ≤ x3 → K σ) ∧ (¬ ((1 <<< (x2 &&& 31)) ≤ x3) → (∀ t46 : Int32, t46 = x3 ^^^ (x3 - 1) → (∃ n51 : Nat, wpX9_finds_51 K (wpX9_finds_34 K  n) n51 σ x1 x2 x3 t46 0))))
def wpX9_finds (σ : wx_Z) (K : wx_Z → Prop) : Prop := (wpX9_many σ <| fun r3 σ3 => (wpX9_laysBasis σ3 <| fun σ8 => (∀ σ13 : wx_Z, σ13 = wx_up σ8 0 12 0 → (wpX9_theWord σ13 <| fun r18 σ18 => (wpX9_bits σ18 r18 <| fun r21 σ21 => (∀ σ24 : wx_Z, σ24 = wx_up σ21 0 13 r21 → (∀ σ29 : wx_Z, σ29 = wx_up σ24 0 14 1 → (∃ n34 : Nat, wpX9_finds_34 K n34 σ29 0 r3 1))))))))
def wpX9_nearest (σ : wx_Z) (x1 : Int32) (K : Int32 → wx_Z → Prop) : Prop := (wpX9_in σ (Int32.toInt64 x1) 0 1 <| fun r4 σ4 => ((¬ r4 = 0 → (wpX9_isFew σ4 <| fun r18 σ18 => ((¬ r18 = 0 → (wpX9_finds σ18 <| fun σ32 => ((¬ x1 = 0 → K (σ32 0 14) σ32) ∧ (¬ (¬ x1 = 0) → K (σ32 0 13) σ32)))) ∧ (¬ (¬ r18 = 0) → (wpX9_no σ18 (-3) <| fun r27 σ27 => K r27 σ27))))) ∧ (¬ (¬ r4 = 0) → (wpX9_bad σ4 (-2) <| fun r13 σ13 => K r13 σ13))))
def wpX9_near (σ : wx_Z) (K : Int32 → wx_Z → Prop) : Prop := (wpX9_isFew σ <| fun r1 σ1 => ((¬ r1 = 0 → (wpX9_finds σ1 <| fun σ14 => K (σ14 0 12) σ14)) ∧ (¬ (¬ r1 = 0) → (wpX9_no σ1 0 <| fun r9 σ9 => K r9 σ9))))
def wpX9_softOf (σ : wx_Z) (x1 : Int32) (K : Int32 → wx_Z → Prop) : Prop := (vp_in (3 + x1) 35 ∧ K (σ 1 (Int32.toNatClampNeg (3 + x1))) σ)
def wpX9_softens (σ : wx_Z) (x1 : Int32) (x2 : Int32) (K : Int32 → wx_Z → Prop) : Prop := (wpX9_softOf σ x1 <| fun r2 σ2 => (vp_in (3 + x1) 35 ∧ (∀ σ14 : wx_Z, σ14 = wx_up σ2 1 (Int32.toNatClampNeg (3 + x1)) x2 → K r2 σ14)))
def wpX9_soft (σ : wx_Z) (x1 : Int32) (x2 : Int32) (K : Int32 → wx_Z → Prop) : Prop := (wpX9_isPlace σ x1 <| fun r2 σ2 => ((r2 = 0 → (wpX9_bad σ2 (-1000) <| fun r26 σ26 => K r26 σ26)) ∧ (¬ (r2 = 0) → (wpX9_in σ2 (Int32.toInt64 x2) (-99) 99 <| fun r16 σ16 => ((¬ r16 = 0 → (wpX9_keep σ16 <| fun σ31 => (wpX9_softens σ31 x1 x2 <| fun r37 σ37 => K r37 σ37))) ∧ (¬ (¬ r16 = 0) → (wpX9_bad σ16 (-1000) <| fun r26_1 σ26_1 => K r26_1 σ26_1)))))))
def wpX9_harden_25 (K : Int32 → wx_Z → Prop) : Nat → wx_Z → Int32 → Int32 → Prop
  | 0, _, _, _ => False
  | n + 1, σ, x1, x2 => (wpX9_places σ <| fun r27 σ27 => ((r27 ≤ x2 → K x1 σ27) ∧ (¬ (r27 ≤ x2) → (wpX9_theWord σ27 <| fun r41 σ41 => (wpX9_has σ41 r41 x2 <| fun r45 σ45 => ((r45 = 0 → (vp_in (3 + x2) 35 ∧ (∀ σ57 : wx_Z, σ57 = wx_up σ45 1 (Int32.toNatClampNeg (3 + x2)) x1 → (∀ t58 : Int32, t58 = x2 + 1 → wpX9_harden_25 K  n σ57 x1 t58)))) ∧ (¬ (r45 = 0) → (vp_in (3 + x2) 35 ∧ (∀ σ57_1 : wx_Z, σ57_1 = wx_up σ45 1 (Int32.toNatClampNeg (3 + x2)) (-x1) → (∀ t58_1 : Int32, t58_1 = x2 + 1 → wpX9_harden_25 K  n σ57_1 x1 t58_1))))))))))
def wpX9_harden (σ : wx_Z) (x1 : Int32) (K : Int32 → wx_Z → Prop) : Prop := (wpX9_in σ (Int32.toInt64 x1) 1 99 <| fun r6 σ6 => ((¬ r6 = 0 → (wpX9_keep σ6 <| fun σ20 => (∃ n25 : Nat, wpX9_harden_25 K n25 σ20 x1 0))) ∧ (¬ (¬ r6 = 0) → (wpX9_bad σ6 (-2) <| fun r15 σ15 => K r15 σ15))))
def wpX9_plain_7 (K : Int32 → wx_Z → Prop) : Nat → wx_Z → Int32 → Int32 → Int32 → Int32 → Prop
  | 0, _, _, _, _, _ => False
  | n + 1, σ, x1, x2, x3, x4 => (vp_in x1 6 ∧ (((1 <<< ((σ 8 (Int32.toNatClampNeg x1)) &&& 31)) ≤ x4 → (vp_in x1 6 ∧ (((σ 7 (Int32.toNatClampNeg x1)) ≤ 0 → ((0 ≤ x3 → K 0 σ) ∧ (¬ (0 ≤ x3) → (vp_in x1 6 ∧ (wpX9_allOf σ (1 <<< ((σ 8 (Int32.toNatClampNeg x1)) &&& 31)) <| fun r92 σ92 => K r92 σ92))))) ∧ (¬ ((σ 7 (Int32.toNatClampNeg x1)) ≤ 0) → K x2 σ)))) ∧ (¬ ((1 <<< ((σ 8 (Int32.toNatClampNeg x1)) &&& 31)) ≤ x4) → (vp_in ((32 * x1) + x4) 192 ∧ (∀ t34 : Int32, t34 = x3 + (σ 6 (Int32.toNatClampNeg ((32 * x1) + x4))) → (vp_in ((32 * x1) + x4) 192 ∧ ((0 ≤ (σ 6 (Int32.toNatClampNeg ((32 * x1) + x4))) → (∀ t60 : Int32, t60 = x2 ||| 0 → (∀ t61 : Int32, t61 = x4 + 1 → wpX9_plain_7 K  n σ x1 t60 t34 t61))) ∧ (¬ (0 ≤ (σ 6 (Int32.toNatClampNeg ((32 * x1) + x4)))) → (∀ t60_1 : Int32, t60_1 = x2 ||| (1 <<< (x4 &&& 31)) → (∀ t61_1 : Int32, t61_1 = x4 + 1 → wpX9_plain_7 K  n σ x1 t60_1 t34 t61_1))))))))))
def wpX9_plain (σ : wx_Z) (x1 : Int32) (K : Int32 → wx_Z → Prop) : Prop := (∃ n7 : Nat, wpX9_plain_7 K n7 σ x1 0 0 0)
def wpX9_lesser_41 (K : Int32 → wx_Z → Prop) (σ : wx_Z) (x2 : Int32) (s0 : Int32) (s1 : Int32) : Prop := ((¬ s0 = s1 → K (-x2) σ) ∧ (¬ (¬ s0 = s1) → K x2 σ))
def wpX9_lesser_32 (K : Int32 → wx_Z → Prop) (σ : wx_Z) (x1 : Int32) (x2 : Int32) (s0 : Int32) : Prop := ((0 ≤ x1 → wpX9_lesser_41 K σ x2 s0 0) ∧ (¬ (0 ≤ x1) → wpX9_lesser_41 K σ x2 s0 1))
def wpX9_lesser_22 (K : Int32 → wx_Z → Prop) (σ : wx_Z) (x0 : Int32) (x1 : Int32) (s0 : Int32) : Prop := ((0 ≤ x0 → wpX9_lesser_32 K σ x1 s0 0) ∧ (¬ (0 ≤ x0) → wpX9_lesser_32 K σ x1 s0 1))
def wpX9_lesser (σ : wx_Z) (x0 : Int32) (x1 : Int32) (K : Int32 → wx_Z → Prop) : Prop := (wpX9_far σ x0 <| fun r1 σ1 => (wpX9_far σ1 x1 <| fun r5 σ5 => ((r5 ≤ r1 → (wpX9_far σ5 x1 <| fun r19 σ19 => wpX9_lesser_22 K σ19 x0 x1 r19)) ∧ (¬ (r5 ≤ r1) → (wpX9_far σ5 x0 <| fun r12 σ12 => wpX9_lesser_22 K σ12 x0 x1 r12)))))
def wpX9_begins (σ : wx_Z) (x1 : Int32) (x2 : Int32) (x3 : Int32) (K : wx_Z → Prop) : Prop := (vp_in x1 6 ∧ (∀ σ6 : wx_Z, σ6 = wx_up σ 7 (Int32.toNatClampNeg x1) x2 → (vp_in x1 6 ∧ (∀ σ13 : wx_Z, σ13 = wx_up σ6 8 (Int32.toNatClampNeg x1) x3 → (vp_in x1 6 ∧ (∀ σ20 : wx_Z, σ20 = wx_up σ13 9 (Int32.toNatClampNeg x1) 0 → K σ20))))))
def wpX9_halvesOf_89 (K : Int32 → wx_Z → Prop) (C44 : wx_Z → Int32 → Int32 → Prop) (σ : wx_Z) (x2 : Int32) : Prop := (wpX9_plain σ x2 <| fun r91 σ91 => (∀ t95 : Int32, t95 = x2 + (-1) → C44 σ91 r91 t95))
def wpX9_halvesOf_299 (K : Int32 → wx_Z → Prop) (C44 : wx_Z → Int32 → Int32 → Prop) (C240 : wx_Z → Int32 → Int32 → Int32 → Int32 → Int32 → Prop) (σ : wx_Z) (x1 : Int32) (x2 : Int32) (x3 : Int32) (x4 : Int32) (x5 : Int32) (s1 : Int32) (s2 : Int32) (s3 : Int32) : Prop := (vp_in s1 192 ∧ (∀ σ300 : wx_Z, σ300 = wx_up σ 6 (Int32.toNatClampNeg s1) (s2 + s3) → (∀ t301 : Int32, t301 = x5 + 1 → C240 σ300 x1 x2 x3 x4 t301)))
def wpX9_halvesOf_240 (K : Int32 → wx_Z → Prop) (C44 : wx_Z → Int32 → Int32 → Prop) : Nat → wx_Z → Int32 → Int32 → Int32 → Int32 → Int32 → Prop
  | 0, _, _, _, _, _, _ => False
  | n + 1, σ, x1, x2, x3, x4, x5 => ((x3 ≤ x5 → (vp_in x2 6 ∧ (∀ σ313 : wx_Z, σ313 = wx_up σ 9 (Int32.toNatClampNeg x2) 2 → (∀ t314 : Int32, t314 = x2 + 1 → C44 σ313 x1 t314)))) ∧ (¬ (x3 ≤ x5) → (vp_in ((x4 + x3) + x5) 192 ∧ (∀ t258 : Int32, t258 = (σ 6 (Int32.toNatClampNeg ((x4 + x3) + x5))) → (vp_in (x4 + x5) 192 ∧ (wpX9_has σ x1 x5 <| fun r285 σ285 => ((r285 = 0 → wpX9_halvesOf_299 K C44 (wpX9_halvesOf_240 K C44 n) σ285 x1 x2 x3 x4 x5 ((x4 + 32) + x5) (σ 6 (Int32.toNatClampNeg (x4 + x5))) t258) ∧ (¬ (r285 = 0) → wpX9_halvesOf_299 K C44 (wpX9_halvesOf_240 K C44 n) σ285 x1 x2 x3 x4 x5 ((x4 + 32) + x5) (σ 6 (Int32.toNatClampNeg (x4 + x5))) (-t258)))))))))
def wpX9_halvesOf_136 (K : Int32 → wx_Z → Prop) (C44 : wx_Z → Int32 → Int32 → Prop) : Nat → wx_Z → Int32 → Int32 → Int32 → Int32 → Int32 → Prop
  | 0, _, _, _, _, _, _ => False
  | n + 1, σ, x1, x2, x3, x4, x5 => ((x3 ≤ x5 → (vp_in x2 6 ∧ (∀ σ192 : wx_Z, σ192 = wx_up σ 9 (Int32.toNatClampNeg x2) 1 → (∀ t193 : Int32, t193 = x2 + 1 → C44 σ192 x1 t193)))) ∧ (¬ (x3 ≤ x5) → (vp_in (x4 + x5) 192 ∧ (vp_in ((x4 + x3) + x5) 192 ∧ (wpX9_lesser σ (σ 6 (Int32.toNatClampNeg (x4 + x5))) (σ 6 (Int32.toNatClampNeg ((x4 + x3) + x5))) <| fun r176 σ176 => (vp_in ((x4 + 32) + x5) 192 ∧ (∀ σ179 : wx_Z, σ179 = wx_up σ176 6 (Int32.toNatClampNeg ((x4 + 32) + x5)) r176 → (∀ t180 : Int32, t180 = x5 + 1 → wpX9_halvesOf_136 K C44 n σ179 x1 x2 x3 x4 t180))))))))
def wpX9_halvesOf_44 (K : Int32 → wx_Z → Prop) : Nat → wx_Z → Int32 → Int32 → Prop
  | 0, _, _, _ => False
  | n + 1, σ, x1, x2 => ((x2 < 0 → K x1 σ) ∧ (¬ (x2 < 0) → (vp_in x2 6 ∧ (∀ t58 : Int32, t58 = (1 <<< ((σ 8 (Int32.toNatClampNeg x2)) &&& 31)) >>> (1 &&& 31) → (∀ t63 : Int32, t63 = 32 * x2 → (vp_in x2 6 ∧ (((σ 7 (Int32.toNatClampNeg x2)) = 0 → wpX9_halvesOf_89 K (wpX9_halvesOf_44 K  n) σ x2) ∧ (¬ ((σ 7 (Int32.toNatClampNeg x2)) = 0) → (vp_in x2 6 ∧ (vp_in x2 6 ∧ ((¬ (σ 7 (Int32.toNatClampNeg x2)) = (σ 8 (Int32.toNatClampNeg x2)) → (vp_in x2 6 ∧ ((¬ (σ 9 (Int32.toNatClampNeg x2)) = 0 → (vp_in x2 6 ∧ ((¬ (σ 9 (Int32.toNatClampNeg x2)) = 1 → (vp_in x2 6 ∧ (∀ t332 : Int32, t332 = x1 ||| ((x1 ^^^ (σ 10 (Int32.toNatClampNeg x2))) <<< (t58 &&& 31)) → (∀ t333 : Int32, t333 = x2 + (-1) → wpX9_halvesOf_44 K  n σ t332 t333)))) ∧ (¬ (¬ (σ 9 (Int32.toNatClampNeg x2)) = 1) → (vp_in x2 6 ∧ (∀ σ215 : wx_Z, σ215 = wx_up σ 10 (Int32.toNatClampNeg x2) x1 → (vp_in x2 6 ∧ (vp_in x2 6 ∧ (wpX9_begins σ215 (x2 + 1) (σ215 7 (Int32.toNatClampNeg x2)) ((σ215 8 (Int32.toNatClampNeg x2)) - 1) <| fun σ234 => (∃ n240 : Nat, wpX9_halvesOf_240 K (wpX9_halvesOf_44 K  n) n240 σ234 x1 x2 t58 t63 0)))))))))) ∧ (¬ (¬ (σ 9 (Int32.toNatClampNeg x2)) = 0) → (vp_in x2 6 ∧ (vp_in x2 6 ∧ (wpX9_begins σ (x2 + 1) ((σ 7 (Int32.toNatClampNeg x2)) - 1) ((σ 8 (Int32.toNatClampNeg x2)) - 1) <| fun σ130 => (∃ n136 : Nat, wpX9_halvesOf_136 K (wpX9_halvesOf_44 K  n) n136 σ130 x1 x2 t58 t63 0)))))))) ∧ (¬ (¬ (σ 7 (Int32.toNatClampNeg x2)) = (σ 8 (Int32.toNatClampNeg x2))) → wpX9_halvesOf_89 K (wpX9_halvesOf_44 K  n) σ x2))))))))))))
def wpX9_halvesOf_19 (K : Int32 → wx_Z → Prop) : Nat → wx_Z → Int32 → Int32 → Int32 → Prop
  | 0, _, _, _, _ => False
  | n + 1, σ, x1, x2, x3 => (wpX9_places σ <| fun r21 σ21 => ((r21 ≤ x3 → (∃ n44 : Nat, wpX9_halvesOf_44 K n44 σ21 x1 x2)) ∧ (¬ (r21 ≤ x3) → (wpX9_softOf σ21 x3 <| fun r34 σ34 => (vp_in x3 192 ∧ (∀ σ37 : wx_Z, σ37 = wx_up σ34 6 (Int32.toNatClampNeg x3) r34 → (∀ t38 : Int32, t38 = x3 + 1 → wpX9_halvesOf_19 K  n σ37 x1 x2 t38)))))))
def wpX9_halvesOf (σ : wx_Z) (K : Int32 → wx_Z → Prop) : Prop := (wpX9_order σ <| fun r7 σ7 => (wpX9_length σ7 <| fun r11 σ11 => (wpX9_begins σ11 0 r7 r11 <| fun σ14 => (∃ n19 : Nat, wpX9_halvesOf_19 K n19 σ14 0 0 0))))
def wpX9_halves (σ : wx_Z) (K : Int32 → wx_Z → Prop) : Prop := (wpX9_halvesOf σ <| fun r1 σ1 => K r1 σ1)
def wpX9_meritOf_4 (K : Int32 → wx_Z → Prop) : Nat → wx_Z → Int32 → Int32 → Int32 → Prop
  | 0, _, _, _, _ => False
  | n + 1, σ, x1, x2, x3 => (wpX9_places σ <| fun r6 σ6 => ((r6 ≤ x3 → K x2 σ6) ∧ (¬ (r6 ≤ x3) → (wpX9_has σ6 x1 x3 <| fun r15 σ15 => ((r15 = 0 → (wpX9_softOf σ15 x3 <| fun r32 σ32 => (∀ t36 : Int32, t36 = x2 + r32 → (∀ t37 : Int32, t37 = x3 + 1 → wpX9_meritOf_4 K  n σ32 x1 t36 t37)))) ∧ (¬ (r15 = 0) → (wpX9_softOf σ15 x3 <| fun r23 σ23 => (∀ t36_1 : Int32, t36_1 = x2 + (-r23) → (∀ t37_1 : Int32, t37_1 = x3 + 1 → wpX9_meritOf_4 K  n σ23 x1 t36_1 t37_1)))))))))
def wpX9_meritOf (σ : wx_Z) (x1 : Int32) (K : Int32 → wx_Z → Prop) : Prop := (∃ n4 : Nat, wpX9_meritOf_4 K n4 σ x1 0 0)
def wpX9_greatest_72 (K : Int32 → wx_Z → Prop) (C20 : wx_Z → Int32 → Int32 → Int32 → Int32 → Prop) (σ : wx_Z) (x1 : Int32) (x2 : Int32) (x3 : Int32) (x4 : Int32) : Prop := (wpX9_meritOf σ x1 <| fun r74 σ74 => ((r74 ≤ x3 → (∀ t91 : Int32, t91 = x4 + 1 → C20 σ74 x1 x2 x3 t91)) ∧ (¬ (r74 ≤ x3) → (wpX9_meritOf σ74 x1 <| fun r83 σ83 => (∀ t91_1 : Int32, t91_1 = x4 + 1 → C20 σ83 x1 x2 r83 t91_1)))))
def wpX9_greatest_40 (K : Int32 → wx_Z → Prop) (C20 : wx_Z → Int32 → Int32 → Int32 → Int32 → Prop) : Nat → wx_Z → Int32 → Int32 → Int32 → Int32 → Int32 → Int32 → Prop
  | 0, _, _, _, _, _, _, _ => False
  | n + 1, σ, x1, x2, x3, x4, x5, x6 => ((x2 ≤ x6 → wpX9_greatest_72 K C20 σ x1 x2 x3 x4) ∧ (¬ (x2 ≤ x6) → (wpX9_has σ x5 x6 <| fun r50 σ50 => ((r50 = 0 → wpX9_greatest_72 K C20 σ50 x1 x2 x3 x4) ∧ (¬ (r50 = 0) → (vp_in x6 32 ∧ (∀ t65 : Int32, t65 = x1 ^^^ (σ50 5 (Int32.toNatClampNeg x6)) → (∀ t66 : Int32, t66 = x6 + 1 → wpX9_greatest_40 K C20 n σ50 t65 x2 x3 x4 x5 t66))))))))
def wpX9_greatest_20 (K : Int32 → wx_Z → Prop) : Nat → wx_Z → Int32 → Int32 → Int32 → Int32 → Prop
  | 0, _, _, _, _, _ => False
  | n + 1, σ, x1, x2, x3, x4 => (((1 <<< (x2 &&& 31)) ≤ x4 → K x3 σ) ∧ (¬ ((1 <<< (x2 &&& 31)) ≤ x4) → (∀ t35 : Int32, t35 = x4 ^^^ (x4 - 1) → (∃ n40 : Nat, wpX9_greatest_40 K (wpX9_greatest_20 K  n) n40 σ x1 x2 x3 x4 t35 0))))
def wpX9_greatest (σ : wx_Z) (K : Int32 → wx_Z → Prop) : Prop := (wpX9_many σ <| fun r3 σ3 => (wpX9_laysBasis σ3 <| fun σ8 => (wpX9_meritOf σ8 0 <| fun r13 σ13 => (∃ n20 : Nat, wpX9_greatest_20 K n20 σ13 0 r3 r13 1))))
def wpX9_merit_38 (K : Int32 → wx_Z → Prop) (σ : wx_Z) (x1 : Int32) : Prop := ((¬ x1 = 0 → ((¬ x1 = 1 → (wpX9_greatest σ <| fun r70 σ70 => K r70 σ70)) ∧ (¬ (¬ x1 = 1) → (wpX9_halvesOf σ <| fun r60 σ60 => (wpX9_meritOf σ60 r60 <| fun r63 σ63 => K r63 σ63))))) ∧ (¬ (¬ x1 = 0) → (wpX9_theWord σ <| fun r44 σ44 => (wpX9_meritOf σ44 r44 <| fun r47 σ47 => K r47 σ47))))
def wpX9_merit (σ : wx_Z) (x1 : Int32) (K : Int32 → wx_Z → Prop) : Prop := (wpX9_in σ (Int32.toInt64 x1) 0 2 <| fun r6 σ6 => ((¬ r6 = 0 → ((¬ x1 = 2 → wpX9_merit_38 K σ6 x1) ∧ (¬ (¬ x1 = 2) → (wpX9_isFew σ6 <| fun r25 σ25 => ((¬ r25 = 0 → wpX9_merit_38 K σ25 x1) ∧ (¬ (¬ r25 = 0) → (wpX9_no σ25 (-3) <| fun r34 σ34 => K r34 σ34))))))) ∧ (¬ (¬ r6 = 0) → (wpX9_bad σ6 (-2) <| fun r15 σ15 => K r15 σ15))))
def wpX9_weights_110 (K : Int32 → wx_Z → Prop) (C58 : wx_Z → Int32 → Int32 → Int32 → Int32 → Int32 → Prop) (σ : wx_Z) (x1 : Int32) (x2 : Int32) (x3 : Int32) (x4 : Int32) (x5 : Int32) : Prop := (wpX9_bits σ x2 <| fun r113 σ113 => ((¬ r113 = x1 → (∀ t126 : Int32, t126 = x4 + 0 → (∀ t128 : Int32, t128 = x5 + 1 → C58 σ113 x1 x2 x3 t126 t128))) ∧ (¬ (¬ r113 = x1) → (∀ t126_1 : Int32, t126_1 = x4 + 1 → (∀ t128_1 : Int32, t128_1 = x5 + 1 → C58 σ113 x1 x2 x3 t126_1 t128_1)))))
def wpX9_weights_78 (K : Int32 → wx_Z → Prop) (C58 : wx_Z → Int32 → Int32 → Int32 → Int32 → Int32 → Prop) : Nat → wx_Z → Int32 → Int32 → Int32 → Int32 → Int32 → Int32 → Int32 → Prop
  | 0, _, _, _, _, _, _, _, _ => False
  | n + 1, σ, x1, x2, x3, x4, x5, x6, x7 => ((x3 ≤ x7 → wpX9_weights_110 K C58 σ x1 x2 x3 x4 x5) ∧ (¬ (x3 ≤ x7) → (wpX9_has σ x6 x7 <| fun r88 σ88 => ((r88 = 0 → wpX9_weights_110 K C58 σ88 x1 x2 x3 x4 x5) ∧ (¬ (r88 = 0) → (vp_in x7 32 ∧ (∀ t103 : Int32, t103 = x2 ^^^ (σ88 5 (Int32.toNatClampNeg x7)) → (∀ t104 : Int32, t104 = x7 + 1 → wpX9_weights_78 K C58 n σ88 x1 t103 x3 x4 x5 x6 t104))))))))
def wpX9_weights_58 (K : Int32 → wx_Z → Prop) : Nat → wx_Z → Int32 → Int32 → Int32 → Int32 → Int32 → Prop
  | 0, _, _, _, _, _, _ => False
  | n + 1, σ, x1, x2, x3, x4, x5 => (((1 <<< (x3 &&& 31)) ≤ x5 → K x4 σ) ∧ (¬ ((1 <<< (x3 &&& 31)) ≤ x5) → (∀ t73 : Int32, t73 = x5 ^^^ (x5 - 1) → (∃ n78 : Nat, wpX9_weights_78 K (wpX9_weights_58 K  n) n78 σ x1 x2 x3 x4 x5 t73 0))))
def wpX9_weights_49 (K : Int32 → wx_Z → Prop) (σ : wx_Z) (x1 : Int32) (x2 : Int32) (x3 : Int32) (s0 : Int32) : Prop := (wpX9_laysBasis σ <| fun σ52 => (∃ n58 : Nat, wpX9_weights_58 K n58 σ52 x1 x2 x3 s0 1))
def wpX9_weights (σ : wx_Z) (x1 : Int32) (K : Int32 → wx_Z → Prop) : Prop := (wpX9_in σ (Int32.toInt64 x1) 0 32 <| fun r6 σ6 => ((¬ r6 = 0 → (wpX9_isFew σ6 <| fun r20 σ20 => ((¬ r20 = 0 → (wpX9_many σ20 <| fun r36 σ36 => ((¬ x1 = 0 → wpX9_weights_49 K σ36 x1 0 r36 0) ∧ (¬ (¬ x1 = 0) → wpX9_weights_49 K σ36 x1 0 r36 1)))) ∧ (¬ (¬ r20 = 0) → (wpX9_no σ20 (-3) <| fun r29 σ29 => K r29 σ29))))) ∧ (¬ (¬ r6 = 0) → (wpX9_bad σ6 (-2) <| fun r15 σ15 => K r15 σ15))))
def wpX9_perpendicular_9 (K : Int32 → wx_Z → Prop) : Nat → wx_Z → Int32 → Int32 → Int32 → Prop
  | 0, _, _, _, _ => False
  | n + 1, σ, x1, x2, x3 => ((x1 ≤ x3 → K x2 σ) ∧ (¬ (x1 ≤ x3) → (wpX9_theWord σ <| fun r15 σ15 => (vp_in x3 32 ∧ (wpX9_wordOf σ15 (σ15 4 (Int32.toNatClampNeg x3)) <| fun r25 σ25 => (wpX9_bits σ25 (r15 &&& r25) <| fun r29 σ29 => ((¬ (r29 &&& 1) = 1 → (∀ t44 : Int32, t44 = x3 + 1 → wpX9_perpendicular_9 K  n σ29 x1 x2 t44)) ∧ (¬ (¬ (r29 &&& 1) = 1) → (∀ t44_1 : Int32, t44_1 = x3 + 1 → wpX9_perpendicular_9 K  n σ29 x1 0 t44_1)))))))))
def wpX9_perpendicular (σ : wx_Z) (K : Int32 → wx_Z → Prop) : Prop := (wpX9_many σ <| fun r1 σ1 => (∃ n9 : Nat, wpX9_perpendicular_9 K n9 σ1 r1 1 0))
def wpX9_around_5 (K : Int32 → wx_Z → Prop) : Nat → wx_Z → Int32 → Int32 → Int32 → Int32 → Prop
  | 0, _, _, _, _, _ => False
  | n + 1, σ, x1, x2, x3, x4 => (wpX9_places σ <| fun r8 σ8 => ((r8 ≤ x4 → K x3 σ8) ∧ (¬ (r8 ≤ x4) → (∀ t18 : Int32, t18 = x4 ^^^ x1 → ((t18 = 0 → (∀ t49 : Int32, t49 = x3 ^^^ 0 → (∀ t50 : Int32, t50 = x4 + 1 → wpX9_around_5 K  n σ8 x1 x2 t49 t50))) ∧ (¬ (t18 = 0) → ((¬ (t18 &&& (x2 ^^^ (-1))) = 0 → (∀ t49_1 : Int32, t49_1 = x3 ^^^ 0 → (∀ t50_1 : Int32, t50_1 = x4 + 1 → wpX9_around_5 K  n σ8 x1 x2 t49_1 t50_1))) ∧ (¬ (¬ (t18 &&& (x2 ^^^ (-1))) = 0) → (wpX9_theWord σ8 <| fun r36 σ36 => (∀ t49_2 : Int32, t49_2 = x3 ^^^ ((r36 >>> (x4 &&& 31)) &&& 1) → (∀ t50_2 : Int32, t50_2 = x4 + 1 → wpX9_around_5 K  n σ36 x1 x2 t49_2 t50_2)))))))))))
def wpX9_around (σ : wx_Z) (x1 : Int32) (x2 : Int32) (K : Int32 → wx_Z → Prop) : Prop := (∃ n5 : Nat, wpX9_around_5 K n5 σ x1 x2 0 0)
def wpX9_asked_37 (K : Int32 → wx_Z → Prop) : Nat → wx_Z → Int32 → Int32 → Int32 → Prop
  | 0, _, _, _, _ => False
  | n + 1, σ, x1, x2, x3 => (wpX9_places σ <| fun r39 σ39 => ((r39 ≤ x3 → ((x2 ≤ 0 → K 0 σ39) ∧ (¬ (x2 ≤ 0) → K 1 σ39))) ∧ (¬ (r39 ≤ x3) → (wpX9_bits σ39 x3 <| fun r46 σ46 => (wpX9_order σ46 <| fun r50 σ50 => ((¬ r46 = (r50 + 1) → (∀ t76 : Int32, t76 = x3 + 1 → wpX9_asked_37 K  n σ50 x1 x2 t76)) ∧ (¬ (¬ r46 = (r50 + 1)) → (wpX9_around σ50 x1 x3 <| fun r62 σ62 => ((¬ r62 = 1 → (∀ t75 : Int32, t75 = x2 + (-1) → (∀ t76_1 : Int32, t76_1 = x3 + 1 → wpX9_asked_37 K  n σ62 x1 t75 t76_1))) ∧ (¬ (¬ r62 = 1) → (∀ t75_1 : Int32, t75_1 = x2 + 1 → (∀ t76_2 : Int32, t76_2 = x3 + 1 → wpX9_asked_37 K  n σ62 x1 t75_1 t76_2))))))))))))
def wpX9_asked (σ : wx_Z) (x1 : Int32) (K : Int32 → wx_Z → Prop) : Prop := (wpX9_isPlace σ x1 <| fun r2 σ2 => ((¬ r2 = 0 → (wpX9_order σ2 <| fun r16 σ16 => (wpX9_length σ16 <| fun r20 σ20 => ((¬ r16 = r20 → (∃ n37 : Nat, wpX9_asked_37 K n37 σ20 x1 0 0)) ∧ (¬ (¬ r16 = r20) → (wpX9_no σ20 (-3) <| fun r29 σ29 => K r29 σ29)))))) ∧ (¬ (¬ r2 = 0) → (wpX9_bad σ2 (-2) <| fun r11 σ11 => K r11 σ11))))
def wpX9_type (σ : wx_Z) (x1 : Int32) (K : Int32 → wx_Z → Prop) : Prop := (wpX9_in σ (Int32.toInt64 x1) 0 127 <| fun r6 σ6 => ((¬ r6 = 0 → ((¬ (σ6 0 21) = 120 → (vp_in (σ6 0 21) 120 ∧ (∀ σ42 : wx_Z, σ42 = wx_up σ6 11 (Int32.toNatClampNeg (σ6 0 21)) x1 → (∀ σ50 : wx_Z, σ50 = wx_up σ42 0 21 ((σ42 0 21) + 1) → K (σ50 0 21) σ50)))) ∧ (¬ (¬ (σ6 0 21) = 120) → (wpX9_full σ6 <| fun r29 σ29 => K r29 σ29)))) ∧ (¬ (¬ r6 = 0) → (wpX9_bad σ6 (-2) <| fun r15 σ15 => K r15 σ15))))
def wpX9_clear (σ : wx_Z) (K : Int32 → wx_Z → Prop) : Prop := (∀ σ7 : wx_Z, σ7 = wx_up σ 0 21 0 → K (σ 0 21) σ7)
def wpX9_here_38 (K : Int32 → wx_Z → Prop) (σ : wx_Z) : Prop := (((σ 0 21) ≤ (σ 0 22) → K (-1) σ) ∧ (¬ ((σ 0 21) ≤ (σ 0 22)) → (vp_in (σ 0 22) 120 ∧ K (σ 11 (Int32.toNatClampNeg (σ 0 22))) σ)))
def wpX9_here_0 (K : Int32 → wx_Z → Prop) : Nat → wx_Z → Prop
  | 0, _ => False
  | n + 1, σ => (((σ 0 21) ≤ (σ 0 22) → wpX9_here_38 K σ) ∧ (¬ ((σ 0 21) ≤ (σ 0 22)) → (vp_in (σ 0 22) 120 ∧ ((¬ (σ 11 (Int32.toNatClampNeg (σ 0 22))) = 32 → wpX9_here_38 K σ) ∧ (¬ (¬ (σ 11 (Int32.toNatClampNeg (σ 0 22))) = 32) → (∀ σ32 : wx_Z, σ32 = wx_up σ 0 22 ((σ 0 22) + 1) → wpX9_here_0 K  n σ32))))))
def wpX9_here (σ : wx_Z) (K : Int32 → wx_Z → Prop) : Prop := (∃ n0 : Nat, wpX9_here_0 K n0 σ)
def wpX9_isFigure (σ : wx_Z) (x1 : Int32) (K : Int32 → wx_Z → Prop) : Prop := (((σ 0 21) ≤ x1 → K 0 σ) ∧ (¬ ((σ 0 21) ≤ x1) → (vp_in x1 120 ∧ (wpX9_in σ (Int32.toInt64 (σ 11 (Int32.toNatClampNeg x1))) 48 57 <| fun r21 σ21 => ((r21 = 0 → K 0 σ21) ∧ (¬ (r21 = 0) → K 1 σ21))))))
def wpX9_takes_136 (K : Int32 → wx_Z → Prop) (σ : wx_Z) (x4 : Int32) (s0 : Int32) : Prop := ((s0 = 0 → (∀ σ153 : wx_Z, σ153 = wx_up σ 0 22 (σ 0 22) → (narrow .boolean (.int s0) = .int s0 ∧ K s0 σ153))) ∧ (¬ (s0 = 0) → (∀ σ153_1 : wx_Z, σ153_1 = wx_up σ 0 22 x4 → (narrow .boolean (.int s0) = .int s0 ∧ K s0 σ153_1))))
def wpX9_takes_97 (K : Int32 → wx_Z → Prop) (σ : wx_Z) (x1 : Int32) (x2 : Int32) (x4 : Int32) (x5 : Int32) (s1 : Int32) : Prop := (∀ σ97 : wx_Z, σ97 = wx_up σ 0 23 s1 → (wpX9_in σ97 (Int32.toInt64 (x4 - x5)) 1 2 <| fun r110 σ110 => ((r110 = 0 → wpX9_takes_136 K σ110 x4 0) ∧ (¬ (r110 = 0) → (wpX9_in σ110 (Int32.toInt64 (σ110 0 23)) (Int32.toInt64 x1) (Int32.toInt64 x2) <| fun r125 σ125 => ((r125 = 0 → wpX9_takes_136 K σ125 x4 0) ∧ (¬ (r125 = 0) → wpX9_takes_136 K σ125 x4 1)))))))
def wpX9_takes_84 (K : Int32 → wx_Z → Prop) (σ : wx_Z) (x1 : Int32) (x2 : Int32) (x3 : Int32) (x4 : Int32) (x5 : Int32) (x6 : Int32) : Prop := ((x3 = 0 → wpX9_takes_97 K σ x1 x2 x4 x5 x6) ∧ (¬ (x3 = 0) → wpX9_takes_97 K σ x1 x2 x4 x5 (-x6)))
def wpX9_takes_42 (K : Int32 → wx_Z → Prop) : Nat → wx_Z → Int32 → Int32 → Int32 → Int32 → Int32 → Int32 → Prop
  | 0, _, _, _, _, _, _, _ => False
  | n + 1, σ, x1, x2, x3, x4, x5, x6 => (wpX9_isFigure σ x4 <| fun r45 σ45 => ((r45 = 0 → wpX9_takes_84 K σ45 x1 x2 x3 x4 x5 x6) ∧ (¬ (r45 = 0) → ((3 ≤ (x4 - x5) → wpX9_takes_84 K σ45 x1 x2 x3 x4 x5 x6) ∧ (¬ (3 ≤ (x4 - x5)) → (vp_in x4 120 ∧ (∀ t76 : Int32, t76 = ((10 * x6) + (σ45 11 (Int32.toNatClampNeg x4))) - 48 → (∀ t78 : Int32, t78 = x4 + 1 → wpX9_takes_42 K  n σ45 x1 x2 x3 t78 x5 t76))))))))
def wpX9_takes_32 (K : Int32 → wx_Z → Prop) (σ : wx_Z) (x1 : Int32) (x2 : Int32) (x3 : Int32) (s0 : Int32) (s1 : Int32) : Prop := (∀ t33 : Int32, t33 = s0 + s1 → (∃ n42 : Nat, wpX9_takes_42 K n42 σ x1 x2 x3 t33 t33 0))
def wpX9_takes_18 (K : Int32 → wx_Z → Prop) (σ : wx_Z) (x1 : Int32) (x2 : Int32) (s0 : Int32) : Prop := ((s0 = 0 → wpX9_takes_32 K σ x1 x2 s0 (σ 0 22) 0) ∧ (¬ (s0 = 0) → wpX9_takes_32 K σ x1 x2 s0 (σ 0 22) 1))
def wpX9_takes (σ : wx_Z) (x1 : Int32) (x2 : Int32) (K : Int32 → wx_Z → Prop) : Prop := (wpX9_here σ <| fun r1 σ1 => ((¬ r1 = 45 → wpX9_takes_18 K σ1 x1 x2 0) ∧ (¬ (¬ r1 = 45) → ((0 ≤ x1 → wpX9_takes_18 K σ1 x1 x2 0) ∧ (¬ (0 ≤ x1) → wpX9_takes_18 K σ1 x1 x2 1)))))
def wpX9_hexAt_18 (K : Int32 → wx_Z → Prop) (σ : wx_Z) (s0 : Int32) : Prop := (wpX9_in σ (Int32.toInt64 s0) 48 57 <| fun r27 σ27 => ((r27 = 0 → (wpX9_in σ27 (Int32.toInt64 s0) 97 102 <| fun r48 σ48 => ((r48 = 0 → K (-1) σ48) ∧ (¬ (r48 = 0) → K ((s0 - 97) + 10) σ48)))) ∧ (¬ (r27 = 0) → K (s0 - 48) σ27)))
def wpX9_hexAt (σ : wx_Z) (x1 : Int32) (K : Int32 → wx_Z → Prop) : Prop := (((σ 0 21) ≤ x1 → wpX9_hexAt_18 K σ 0) ∧ (¬ ((σ 0 21) ≤ x1) → (vp_in x1 120 ∧ wpX9_hexAt_18 K σ (σ 11 (Int32.toNatClampNeg x1)))))
def wpX9_takesHex_92 (K : Int32 → wx_Z → Prop) (σ : wx_Z) (x3 : Int32) (s0 : Int32) : Prop := ((s0 = 0 → (∀ σ108 : wx_Z, σ108 = wx_up σ 0 22 (σ 0 22) → (narrow .boolean (.int s0) = .int s0 ∧ K s0 σ108))) ∧ (¬ (s0 = 0) → (∀ σ108_1 : wx_Z, σ108_1 = wx_up σ 0 22 x3 → (narrow .boolean (.int s0) = .int s0 ∧ K s0 σ108_1))))
def wpX9_takesHex_58 (K : Int32 → wx_Z → Prop) (σ : wx_Z) (x1 : Int32) (x3 : Int32) : Prop := (wpX9_in σ (Int32.toInt64 (x3 - (σ 0 22))) 1 8 <| fun r69 σ69 => ((r69 = 0 → wpX9_takesHex_92 K σ69 x3 0) ∧ (¬ (r69 = 0) → (wpX9_isWithin σ69 (σ69 0 23) x1 <| fun r81 σ81 => ((r81 = 0 → wpX9_takesHex_92 K σ81 x3 0) ∧ (¬ (r81 = 0) → wpX9_takesHex_92 K σ81 x3 1))))))
def wpX9_takesHex_15 (K : Int32 → wx_Z → Prop) : Nat → wx_Z → Int32 → Int32 → Prop
  | 0, _, _, _ => False
  | n + 1, σ, x1, x3 => (wpX9_hexAt σ x3 <| fun r17 σ17 => ((r17 = (-1) → wpX9_takesHex_58 K σ17 x1 x3) ∧ (¬ (r17 = (-1)) → ((9 ≤ (x3 - (σ17 0 22)) → wpX9_takesHex_58 K σ17 x1 x3) ∧ (¬ (9 ≤ (x3 - (σ17 0 22))) → (wpX9_hexAt σ17 x3 <| fun r45 σ45 => (∀ σ49 : wx_Z, σ49 = wx_up σ45 0 23 ((16 * (σ17 0 23)) + r45) → (∀ t52 : Int32, t52 = x3 + 1 → wpX9_takesHex_15 K  n σ49 x1 t52))))))))
def wpX9_takesHex (σ : wx_Z) (x1 : Int32) (K : Int32 → wx_Z → Prop) : Prop := (wpX9_here σ <| fun r1 σ1 => (∀ σ12 : wx_Z, σ12 = wx_up σ1 0 23 0 → (∃ n15 : Nat, wpX9_takesHex_15 K n15 σ12 x1 (σ1 0 22))))
def wpX9_doesOne (σ : wx_Z) (x1 : Int32) (K : wx_Z → Prop) : Prop := ((x1 = 99 → (wpX9_becomesCode σ (σ 0 24) (σ 0 23) <| fun σ69 => K σ69)) ∧ ((x1 = 102 → (wpX9_flips σ (σ 0 24) <| fun r105 σ105 => K σ105)) ∧ ((x1 = 109 → (wpX9_encodes σ (σ 0 23) <| fun r80 σ80 => K σ80)) ∧ ((x1 = 115 → (wpX9_softens σ (σ 0 24) (σ 0 23) <| fun r130 σ130 => K σ130)) ∧ ((x1 = 118 → (wpX9_mendsNow σ <| fun r113 σ113 => K σ113)) ∧ ((x1 = 119 → (vp_in 2 35 ∧ (∀ σ96 : wx_Z, σ96 = wx_up σ 1 (Int32.toNatClampNeg 2) (σ 0 23) → K σ96))) ∧ (¬ x1 = 99 → ¬ x1 = 102 → ¬ x1 = 109 → ¬ x1 = 115 → ¬ x1 = 118 → ¬ x1 = 119 → (wpX9_halvesOf σ <| fun r144 σ144 => (vp_in 2 35 ∧ (∀ σ147 : wx_Z, σ147 = wx_up σ144 1 (Int32.toNatClampNeg 2) r144 → K σ147))))))))))
def wpX9_readsOne_203 (K : Int32 → wx_Z → Prop) (σ : wx_Z) (x1 : Int32) (x2 : Int32) : Prop := ((x2 = 0 → K 0 σ) ∧ (¬ (x2 = 0) → (wpX9_here σ <| fun r208 σ208 => ((r208 = 59 → (∀ σ225 : wx_Z, σ225 = wx_up σ208 0 22 ((σ208 0 22) + 1) → (wpX9_doesOne σ225 x1 <| fun σ230 => K 1 σ230))) ∧ (¬ (r208 = 59) → K 0 σ208)))))
def wpX9_readsOne_119 (K : Int32 → wx_Z → Prop) (σ : wx_Z) (x1 : Int32) : Prop := ((¬ x1 = 109 → (wpX9_places σ <| fun r134 σ134 => (wpX9_takesHex σ134 r134 <| fun r137 σ137 => wpX9_readsOne_203 K σ137 x1 r137))) ∧ (¬ (¬ x1 = 109) → (wpX9_many σ <| fun r127 σ127 => (wpX9_takesHex σ127 r127 <| fun r137_1 σ137_1 => wpX9_readsOne_203 K σ137_1 x1 r137_1))))
def wpX9_readsOne_156 (K : Int32 → wx_Z → Prop) (σ : wx_Z) (x1 : Int32) : Prop := (wpX9_places σ <| fun r159 σ159 => (wpX9_takes σ159 0 (r159 - 1) <| fun r164 σ164 => (∀ σ173 : wx_Z, σ173 = wx_up σ164 0 24 (σ164 0 23) → ((r164 = 0 → wpX9_readsOne_203 K σ173 x1 0) ∧ (¬ (r164 = 0) → ((x1 = 102 → wpX9_readsOne_203 K σ173 x1 1) ∧ (¬ (x1 = 102) → (wpX9_takes σ173 (-99) 99 <| fun r191 σ191 => ((r191 = 0 → wpX9_readsOne_203 K σ191 x1 0) ∧ (¬ (r191 = 0) → wpX9_readsOne_203 K σ191 x1 1))))))))))
def wpX9_readsOne_49 (K : Int32 → wx_Z → Prop) (σ : wx_Z) (x1 : Int32) : Prop := (∀ σ56 : wx_Z, σ56 = wx_up σ 0 22 ((σ 0 22) + 1) → ((¬ x1 = 99 → ((x1 = 109 → wpX9_readsOne_119 K σ56 x1) ∧ (¬ (x1 = 109) → ((¬ x1 = 119 → ((x1 = 102 → wpX9_readsOne_156 K σ56 x1) ∧ (¬ (x1 = 102) → ((¬ x1 = 115 → wpX9_readsOne_203 K σ56 x1 1) ∧ (¬ (¬ x1 = 115) → wpX9_readsOne_156 K σ56 x1))))) ∧ (¬ (¬ x1 = 119) → wpX9_readsOne_119 K σ56 x1))))) ∧ (¬ (¬ x1 = 99) → (wpX9_takes σ56 0 5 <| fun r70 σ70 => (∀ σ79 : wx_Z, σ79 = wx_up σ70 0 24 (σ70 0 23) → ((r70 = 0 → wpX9_readsOne_203 K σ79 x1 0) ∧ (¬ (r70 = 0) → (wpX9_takes σ79 (σ79 0 24) 5 <| fun r92 σ92 => ((r92 = 0 → wpX9_readsOne_203 K σ92 x1 0) ∧ (¬ (r92 = 0) → wpX9_readsOne_203 K σ92 x1 1))))))))))
def wpX9_readsOne (σ : wx_Z) (K : Int32 → wx_Z → Prop) : Prop := (wpX9_here σ <| fun r1 σ1 => ((r1 = 99 → wpX9_readsOne_49 K σ1 r1) ∧ (¬ (r1 = 99) → ((r1 = 109 → wpX9_readsOne_49 K σ1 r1) ∧ (¬ (r1 = 109) → ((r1 = 119 → wpX9_readsOne_49 K σ1 r1) ∧ (¬ (r1 = 119) → ((r1 = 102 → wpX9_readsOne_49 K σ1 r1) ∧ (¬ (r1 = 102) → ((r1 = 118 → wpX9_readsOne_49 K σ1 r1) ∧ (¬ (r1 = 118) → ((r1 = 115 → wpX9_readsOne_49 K σ1 r1) ∧ (¬ (r1 = 115) → ((r1 = 104 → wpX9_readsOne_49 K σ1 r1) ∧ (¬ (r1 = 104) → K 0 σ1)))))))))))))))
def wpX9_keepsAside_44 (K : wx_Z → Prop) : Nat → wx_Z → Int32 → Prop
  | 0, _, _ => False
  | n + 1, σ, x1 => ((35 ≤ x1 → K σ) ∧ (¬ (35 ≤ x1) → (vp_in x1 35 ∧ (vp_in x1 35 ∧ (∀ σ61 : wx_Z, σ61 = wx_up σ 1 (Int32.toNatClampNeg x1) (σ 13 (Int32.toNatClampNeg x1)) → (∀ t62 : Int32, t62 = x1 + 1 → wpX9_keepsAside_44 K  n σ61 t62))))))
def wpX9_keepsAside_2 (K : wx_Z → Prop) : Nat → wx_Z → Int32 → Prop
  | 0, _, _ => False
  | n + 1, σ, x1 => ((35 ≤ x1 → (wpX9_keep σ <| fun σ39 => (∃ n44 : Nat, wpX9_keepsAside_44 K n44 σ39 0))) ∧ (¬ (35 ≤ x1) → (vp_in x1 35 ∧ (vp_in x1 35 ∧ (∀ σ19 : wx_Z, σ19 = wx_up σ 13 (Int32.toNatClampNeg x1) (σ 1 (Int32.toNatClampNeg x1)) → (vp_in x1 35 ∧ (vp_in x1 35 ∧ (∀ σ31 : wx_Z, σ31 = wx_up σ19 1 (Int32.toNatClampNeg x1) (σ19 12 (Int32.toNatClampNeg x1)) → (∀ t32 : Int32, t32 = x1 + 1 → wpX9_keepsAside_2 K  n σ31 t32)))))))))
def wpX9_keepsAside (σ : wx_Z) (K : wx_Z → Prop) : Prop := (∃ n2 : Nat, wpX9_keepsAside_2 K n2 σ 0)
def wpX9_does_48 (K : Int32 → wx_Z → Prop) : Nat → wx_Z → Int32 → Prop
  | 0, _, _ => False
  | n + 1, σ, x3 => ((35 ≤ x3 → K ((-10) - (σ 0 22)) σ) ∧ (¬ (35 ≤ x3) → (vp_in x3 35 ∧ (vp_in x3 35 ∧ (∀ σ65 : wx_Z, σ65 = wx_up σ 1 (Int32.toNatClampNeg x3) (σ 12 (Int32.toNatClampNeg x3)) → (∀ t66 : Int32, t66 = x3 + 1 → wpX9_does_48 K  n σ65 t66))))))
def wpX9_does_35 (K : Int32 → wx_Z → Prop) : Nat → wx_Z → Int32 → Int32 → Prop
  | 0, _, _, _ => False
  | n + 1, σ, x1, x2 => ((x2 = 0 → (wpX9_keepsAside σ <| fun σ101 => K x1 σ101)) ∧ (¬ (x2 = 0) → (wpX9_readsOne σ <| fun r40 σ40 => ((¬ r40 = 0 → (∀ t80 : Int32, t80 = x1 + 1 → (wpX9_here σ40 <| fun r84 σ84 => ((r84 = (-1) → wpX9_does_35 K  n σ84 t80 0) ∧ (¬ (r84 = (-1)) → wpX9_does_35 K  n σ84 t80 1))))) ∧ (¬ (¬ r40 = 0) → (∃ n48 : Nat, wpX9_does_48 K n48 σ40 0))))))
def wpX9_does_6 (K : Int32 → wx_Z → Prop) : Nat → wx_Z → Int32 → Int32 → Int32 → Prop
  | 0, _, _, _, _ => False
  | n + 1, σ, x1, x2, x3 => ((35 ≤ x3 → (∀ σ32 : wx_Z, σ32 = wx_up σ 0 22 0 → (∃ n35 : Nat, wpX9_does_35 K n35 σ32 x1 x2))) ∧ (¬ (35 ≤ x3) → (vp_in x3 35 ∧ (vp_in x3 35 ∧ (∀ σ23 : wx_Z, σ23 = wx_up σ 12 (Int32.toNatClampNeg x3) (σ 1 (Int32.toNatClampNeg x3)) → (∀ t24 : Int32, t24 = x3 + 1 → wpX9_does_6 K  n σ23 x1 x2 t24))))))
def wpX9_does (σ : wx_Z) (K : Int32 → wx_Z → Prop) : Prop := (∃ n6 : Nat, wpX9_does_6 K n6 σ 0 1 0)
def wpX9_back_26 (K : Int32 → wx_Z → Prop) : Nat → wx_Z → Int32 → Prop
  | 0, _, _ => False
  | n + 1, σ, x1 => ((35 ≤ x1 → K (σ 0 2) σ) ∧ (¬ (35 ≤ x1) → (vp_in ((35 * (σ 0 2)) + x1) 280 ∧ (vp_in x1 35 ∧ (∀ σ51 : wx_Z, σ51 = wx_up σ 1 (Int32.toNatClampNeg x1) (σ 2 (Int32.toNatClampNeg ((35 * (σ 0 2)) + x1))) → (∀ t52 : Int32, t52 = x1 + 1 → wpX9_back_26 K  n σ51 t52))))))
def wpX9_back (σ : wx_Z) (K : Int32 → wx_Z → Prop) : Prop := ((¬ (σ 0 2) = 0 → (∀ σ21 : wx_Z, σ21 = wx_up σ 0 2 ((σ 0 2) - 1) → (∃ n26 : Nat, wpX9_back_26 K n26 σ21 0))) ∧ (¬ (¬ (σ 0 2) = 0) → (wpX9_no σ (-3) <| fun r10 σ10 => K r10 σ10)))
def wpX9_toldOf (σ : wx_Z) (x1 : Int32) (K : Int32 → wx_Z → Prop) : Prop := ((3 ≤ x1 → ((¬ x1 = 3 → K (σ 0 2) σ) ∧ (¬ (¬ x1 = 3) → K (σ 0 21) σ))) ∧ (¬ (3 ≤ x1) → (vp_in x1 3 ∧ K (σ 3 (Int32.toNatClampNeg x1)) σ)))
def wpX9_told (σ : wx_Z) (x1 : Int32) (K : Int32 → wx_Z → Prop) : Prop := (wpX9_in σ (Int32.toInt64 x1) 0 4 <| fun r6 σ6 => ((r6 = 0 → (wpX9_bad σ6 (-2) <| fun r23 σ23 => K r23 σ23)) ∧ (¬ (r6 = 0) → (wpX9_toldOf σ6 x1 <| fun r14 σ14 => K r14 σ14))))
def wpX9_digest_32 (K : Int64 → wx_Z → Prop) : Nat → wx_Z → Int64 → Int32 → Prop
  | 0, _, _, _ => False
  | n + 1, σ, y1, x3 => (wpX9_places σ <| fun r35 σ35 => (((3 + r35) ≤ x3 → (wpX9_votes σ35 <| fun r63 σ63 => (wpX9_halvesOf σ63 <| fun r80 σ80 => K ((31 * ((31 * y1) + (Int32.toInt64 r63))) + (Int32.toInt64 r80)) σ80))) ∧ (¬ ((3 + r35) ≤ x3) → (vp_in x3 35 ∧ (∀ t55 : Int64, t55 = (31 * y1) + (Int32.toInt64 (σ35 1 (Int32.toNatClampNeg x3))) → (∀ t56 : Int32, t56 = x3 + 1 → wpX9_digest_32 K  n σ35 t55 t56))))))
def wpX9_digest_6 (K : Int64 → wx_Z → Prop) : Nat → wx_Z → Int64 → Int32 → Prop
  | 0, _, _, _ => False
  | n + 1, σ, y1, x3 => ((5 ≤ x3 → (∃ n32 : Nat, wpX9_digest_32 K n32 σ y1 0)) ∧ (¬ (5 ≤ x3) → (wpX9_toldOf σ x3 <| fun r18 σ18 => (∀ t23 : Int64, t23 = (31 * y1) + (Int32.toInt64 r18) → (∀ t24 : Int32, t24 = x3 + 1 → wpX9_digest_6 K  n σ18 t23 t24)))))
def wpX9_digest (σ : wx_Z) (K : Int64 → wx_Z → Prop) : Prop := (∃ n6 : Nat, wpX9_digest_6 K n6 σ 2111 0)
end
section
abbrev rmX9_in : Room := { frames := 1, cells := 0, slots := 0, locals := 40 }
set_option maxRecDepth 100000 in
set_option maxHeartbeats 4000000 in
theorem cX9_in {l : Launch} {D : va_G} {cI : ClassId} {ad : Nat → Nat} {sz : Nat} {σ : wx_Z} {y0 : Int64} {y2 : Int64} {y4 : Int64} {K : Int32 → wx_Z → Prop} (h : wpX9_in σ y0 y2 y4 K) : Met l yX9_in wsX9_in rmX9_in (wx_Pre D [(cI, .int)] wx_T0 14 (wM_E cI ad) ad σ sz [.long y0, .long y2, .long y4]) (va_Qi K (wx_B D [(cI, .int)] 14 (wM_E cI ad) ad (va_A (wx_w 14 (wM_E cI ad) ad σ) sz)) (va_A (wx_w 14 (wM_E cI ad) ad σ) sz)) 0 0 (va_A (wx_w 14 (wM_E cI ad) ad σ) sz) := by
  unfold wpX9_in at h
  refine wx_metz (cc := cX9_in) (maxL := 6) (own := RX9) rfl (by decide) rfl (Nat.le_of_ble_eq_true rfl) wx_T0_ok ?_
  intro p e s m args below meth c A Q ls C Rt hP hD hS hl
  obtain ⟨⟨hx, hb, hml, hown, hts⟩, hA, hK, hRO, hro⟩ := id C
  have hl : lv_has ls 6 [(0, .long y0), (2, .long y2), (4, .long y4)] := hl
  obtain ⟨H, eH⟩ : ∃ z, z = s.heap := ⟨_, rfl⟩
  obtain ⟨locs, eL⟩ : ∃ z : List Loc, z = [] := ⟨_, rfl⟩
  rw [← eH] at hP
  have hS : va_S A s.heap H locs := by rw [eH, eL]; exact hS
  have goal : W p l e rmX9_in s m args below meth c H locs 0 0 Q (F0 m 0 ls []) := by
    refine lv_lload_n hx hb dX9_in_0 rfl (lv_at hl 0 rfl) ?_
    refine lv_lload_n hx hb dX9_in_1 rfl (lv_at hl 1 rfl) ?_
    refine W.lcmp hx hb dX9_in_2 ?_
    refine lv_if_lt (tgt := 17) hx hb dX9_in_3 (by decide) (fun c3 => ?_) (fun c3 => ?_)
    · have h := h.1 c3
      refine lv_iconst (v := 0) hx hb dX9_in_17 (by decide) ?_
      exact Rt _ _ _ _ _ _ rfl h hP hD hS dX9_in_18
    · have h := h.2 c3
      refine lv_lload_n hx hb dX9_in_6 rfl (lv_at hl 0 rfl) ?_
      refine lv_lload hx hb dX9_in_7 (lv_at hl 2 rfl) ?_
      refine W.lcmp hx hb dX9_in_9 ?_
      refine lv_if_gt (tgt := 17) hx hb dX9_in_10 (by decide) (fun c10 => ?_) (fun c10 => ?_)
      · have h := h.1 c10
        refine lv_iconst (v := 0) hx hb dX9_in_17 (by decide) ?_
        exact Rt _ _ _ _ _ _ rfl h hP hD hS dX9_in_18
      · have h := h.2 c10
        refine lv_iconst (v := 1) hx hb dX9_in_13 (by decide) ?_
        refine lv_goto (tgt := 18) hx hb dX9_in_14 (by decide) ?_
        exact Rt _ _ _ _ _ _ rfl h hP hD hS dX9_in_18
  rw [eH, eL] at goal
  exact goal
abbrev rmX9_bad : Room := { frames := 1, cells := 0, slots := 0, locals := 40 }
set_option maxRecDepth 20000 in
theorem inX9_bad_X9 : ∀ w ∈ u_ws RX9 TX9 27, w ∈ wsX9_bad := by decide +kernel
set_option maxRecDepth 100000 in
set_option maxHeartbeats 4000000 in
theorem cX9_bad {l : Launch} {D : va_G} {cI : ClassId} {ad : Nat → Nat} {sz : Nat} {σ : wx_Z} {x1 : Int32} {K : Int32 → wx_Z → Prop} (h : wpX9_bad σ x1 K) : Met l yX9_bad wsX9_bad rmX9_bad (wx_Pre D [(cI, .int)] wx_T0 14 (wM_E cI ad) ad σ sz [.ref (ad 0), .int x1]) (va_Qi K (wx_B D [(cI, .int)] 14 (wM_E cI ad) ad (va_A (wx_w 14 (wM_E cI ad) ad σ) sz)) (va_A (wx_w 14 (wM_E cI ad) ad σ) sz)) 0 0 (va_A (wx_w 14 (wM_E cI ad) ad σ) sz) := by
  unfold wpX9_bad at h
  refine wx_meti (cc := cX9_bad) (maxL := 2) (own := RX9) rfl (by decide) rfl (Nat.le_of_ble_eq_true rfl) wx_T0_ok ?_
  intro p e s m args below meth c A Q ls C Rt hP hD hS hl
  obtain ⟨⟨hx, hb, hml, hown, hts⟩, hA, hK, hRO, hro⟩ := id C
  have hl : lv_has ls 2 [(0, .ref (ad 0)), (1, .int x1)] := hl
  obtain ⟨H, eH⟩ : ∃ z, z = s.heap := ⟨_, rfl⟩
  obtain ⟨locs, eL⟩ : ∃ z : List Loc, z = [] := ⟨_, rfl⟩
  rw [← eH] at hP
  have hS : va_S A s.heap H locs := by rw [eH, eL]; exact hS
  have goal : W p l e rmX9_bad s m args below meth c H locs 0 0 Q (F0 m 0 ls []) := by
    refine lv_aload_n hx hb dX9_bad_0 rfl (lv_at hl 0 rfl) ?_
    refine wx_get C hP (q := 0) (ci := 9) (Nat.le_of_ble_eq_true rfl) (eM_0 cI ad _) (Cn := RX9) (T := TX9) (Nf := 27) rfl inX9_bad_X9 3 (by decide) (List.mem_of_getElem? (i := 1) rfl) (v := .ref (ad 3)) rfl dX9_bad_1 ?_
    refine lv_iconst (v := 0) hx hb dX9_bad_4 (by decide) ?_
    refine lv_dup2_11 hx hb dX9_bad_5 rfl rfl ?_
    refine wx_ild C hP (q := 3) (Nat.le_of_ble_eq_true rfl) (fun _ => rfl) 0 rfl h.1 dX9_bad_6 ?_
    have h := h.2
    refine lv_iconst (v := 1) hx hb dX9_bad_7 (by decide) ?_
    refine lv_iadd hx hb dX9_bad_8 ?_
    refine wx_ist C hP hD hS (q := 3) (Nat.le_of_ble_eq_true rfl) (fun _ => rfl) 0 rfl h.1 dX9_bad_9 (fun H locs hP hD hS => ?_)
    generalize e_σ9 : wx_up σ 3 (Int32.toNatClampNeg 0) ((σ 3 (Int32.toNatClampNeg 0)) + 1) = σ9 at hP hD
    have h := h.2 σ9 e_σ9.symm
    refine lv_iload_n hx hb dX9_bad_10 rfl (lv_at hl 1 rfl) ?_
    exact Rt _ _ _ _ _ _ h hP hD hS dX9_bad_11
  rw [eH, eL] at goal
  exact goal
abbrev rmX9_no : Room := { frames := 1, cells := 0, slots := 0, locals := 40 }
set_option maxRecDepth 20000 in
theorem inX9_no_X9 : ∀ w ∈ u_ws RX9 TX9 27, w ∈ wsX9_no := by decide +kernel
set_option maxRecDepth 100000 in
set_option maxHeartbeats 4000000 in
theorem cX9_no {l : Launch} {D : va_G} {cI : ClassId} {ad : Nat → Nat} {sz : Nat} {σ : wx_Z} {x1 : Int32} {K : Int32 → wx_Z → Prop} (h : wpX9_no σ x1 K) : Met l yX9_no wsX9_no rmX9_no (wx_Pre D [(cI, .int)] wx_T0 14 (wM_E cI ad) ad σ sz [.ref (ad 0), .int x1]) (va_Qi K (wx_B D [(cI, .int)] 14 (wM_E cI ad) ad (va_A (wx_w 14 (wM_E cI ad) ad σ) sz)) (va_A (wx_w 14 (wM_E cI ad) ad σ) sz)) 0 0 (va_A (wx_w 14 (wM_E cI ad) ad σ) sz) := by
  unfold wpX9_no at h
  refine wx_meti (cc := cX9_no) (maxL := 2) (own := RX9) rfl (by decide) rfl (Nat.le_of_ble_eq_true rfl) wx_T0_ok ?_
  intro p e s m args below meth c A Q ls C Rt hP hD hS hl
  obtain ⟨⟨hx, hb, hml, hown, hts⟩, hA, hK, hRO, hro⟩ := id C
  have hl : lv_has ls 2 [(0, .ref (ad 0)), (1, .int x1)] := hl
  obtain ⟨H, eH⟩ : ∃ z, z = s.heap := ⟨_, rfl⟩
  obtain ⟨locs, eL⟩ : ∃ z : List Loc, z = [] := ⟨_, rfl⟩
  rw [← eH] at hP
  have hS : va_S A s.heap H locs := by rw [eH, eL]; exact hS
  have goal : W p l e rmX9_no s m args below meth c H locs 0 0 Q (F0 m 0 ls []) := by
    refine lv_aload_n hx hb dX9_no_0 rfl (lv_at hl 0 rfl) ?_
    refine wx_get C hP (q := 0) (ci := 9) (Nat.le_of_ble_eq_true rfl) (eM_0 cI ad _) (Cn := RX9) (T := TX9) (Nf := 27) rfl inX9_no_X9 3 (by decide) (List.mem_of_getElem? (i := 1) rfl) (v := .ref (ad 3)) rfl dX9_no_1 ?_
    refine lv_iconst (v := 1) hx hb dX9_no_4 (by decide) ?_
    refine lv_dup2_11 hx hb dX9_no_5 rfl rfl ?_
    refine wx_ild C hP (q := 3) (Nat.le_of_ble_eq_true rfl) (fun _ => rfl) 0 rfl h.1 dX9_no_6 ?_
    have h := h.2
    refine lv_iconst (v := 1) hx hb dX9_no_7 (by decide) ?_
    refine lv_iadd hx hb dX9_no_8 ?_
    refine wx_ist C hP hD hS (q := 3) (Nat.le_of_ble_eq_true rfl) (fun _ => rfl) 0 rfl h.1 dX9_no_9 (fun H locs hP hD hS => ?_)
    generalize e_σ9 : wx_up σ 3 (Int32.toNatClampNeg 1) ((σ 3 (Int32.toNatClampNeg 1)) + 1) = σ9 at hP hD
    have h := h.2 σ9 e_σ9.symm
    refine lv_iload_n hx hb dX9_no_10 rfl (lv_at hl 1 rfl) ?_
    exact Rt _ _ _ _ _ _ h hP hD hS dX9_no_11
  rw [eH, eL] at goal
  exact goal
abbrev rmX9_full : Room := { frames := 1, cells := 0, slots := 0, locals := 40 }
set_option maxRecDepth 20000 in
theorem inX9_full_X9 : ∀ w ∈ u_ws RX9 TX9 27, w ∈ wsX9_full := by decide +kernel
set_option maxRecDepth 100000 in
set_option maxHeartbeats 4000000 in
theorem cX9_full {l : Launch} {D : va_G} {cI : ClassId} {ad : Nat → Nat} {sz : Nat} {σ : wx_Z} {K : Int32 → wx_Z → Prop} (h : wpX9_full σ K) : Met l yX9_full wsX9_full rmX9_full (wx_Pre D [(cI, .int)] wx_T0 14 (wM_E cI ad) ad σ sz [.ref (ad 0)]) (va_Qi K (wx_B D [(cI, .int)] 14 (wM_E cI ad) ad (va_A (wx_w 14 (wM_E cI ad) ad σ) sz)) (va_A (wx_w 14 (wM_E cI ad) ad σ) sz)) 0 0 (va_A (wx_w 14 (wM_E cI ad) ad σ) sz) := by
  unfold wpX9_full at h
  refine wx_meti (cc := cX9_full) (maxL := 1) (own := RX9) rfl (by decide) rfl (Nat.le_of_ble_eq_true rfl) wx_T0_ok ?_
  intro p e s m args below meth c A Q ls C Rt hP hD hS hl
  obtain ⟨⟨hx, hb, hml, hown, hts⟩, hA, hK, hRO, hro⟩ := id C
  have hl : lv_has ls 1 [(0, .ref (ad 0))] := hl
  obtain ⟨H, eH⟩ : ∃ z, z = s.heap := ⟨_, rfl⟩
  obtain ⟨locs, eL⟩ : ∃ z : List Loc, z = [] := ⟨_, rfl⟩
  rw [← eH] at hP
  have hS : va_S A s.heap H locs := by rw [eH, eL]; exact hS
  have goal : W p l e rmX9_full s m args below meth c H locs 0 0 Q (F0 m 0 ls []) := by
    refine lv_aload_n hx hb dX9_full_0 rfl (lv_at hl 0 rfl) ?_
    refine wx_get C hP (q := 0) (ci := 9) (Nat.le_of_ble_eq_true rfl) (eM_0 cI ad _) (Cn := RX9) (T := TX9) (Nf := 27) rfl inX9_full_X9 3 (by decide) (List.mem_of_getElem? (i := 1) rfl) (v := .ref (ad 3)) rfl dX9_full_1 ?_
    refine lv_iconst (v := 2) hx hb dX9_full_4 (by decide) ?_
    refine lv_dup2_11 hx hb dX9_full_5 rfl rfl ?_
    refine wx_ild C hP (q := 3) (Nat.le_of_ble_eq_true rfl) (fun _ => rfl) 0 rfl h.1 dX9_full_6 ?_
    have h := h.2
    refine lv_iconst (v := 1) hx hb dX9_full_7 (by decide) ?_
    refine lv_iadd hx hb dX9_full_8 ?_
    refine wx_ist C hP hD hS (q := 3) (Nat.le_of_ble_eq_true rfl) (fun _ => rfl) 0 rfl h.1 dX9_full_9 (fun H locs hP hD hS => ?_)
    generalize e_σ9 : wx_up σ 3 (Int32.toNatClampNeg 2) ((σ 3 (Int32.toNatClampNeg 2)) + 1) = σ9 at hP hD
    have h := h.2 σ9 e_σ9.symm
    refine lv_bipush (v := (-4)) hx hb dX9_full_10 (by decide) ?_
    exact Rt _ _ _ _ _ _ h hP hD hS dX9_full_12
  rw [eH, eL] at goal
  exact goal
abbrev rmX9_has : Room := { frames := 1, cells := 0, slots := 0, locals := 40 }
set_option maxRecDepth 100000 in
set_option maxHeartbeats 4000000 in
theorem cX9_has {l : Launch} {D : va_G} {cI : ClassId} {ad : Nat → Nat} {sz : Nat} {σ : wx_Z} {x0 : Int32} {x1 : Int32} {K : Int32 → wx_Z → Prop} (h : wpX9_has σ x0 x1 K) : Met l yX9_has wsX9_has rmX9_has (wx_Pre D [(cI, .int)] wx_T0 14 (wM_E cI ad) ad σ sz [.int x0, .int x1]) (va_Qi K (wx_B D [(cI, .int)] 14 (wM_E cI ad) ad (va_A (wx_w 14 (wM_E cI ad) ad σ) sz)) (va_A (wx_w 14 (wM_E cI ad) ad σ) sz)) 0 0 (va_A (wx_w 14 (wM_E cI ad) ad σ) sz) := by
  unfold wpX9_has at h
  refine wx_metz (cc := cX9_has) (maxL := 2) (own := RX9) rfl (by decide) rfl (Nat.le_of_ble_eq_true rfl) wx_T0_ok ?_
  intro p e s m args below meth c A Q ls C Rt hP hD hS hl
  obtain ⟨⟨hx, hb, hml, hown, hts⟩, hA, hK, hRO, hro⟩ := id C
  have hl : lv_has ls 2 [(0, .int x0), (1, .int x1)] := hl
  obtain ⟨H, eH⟩ : ∃ z, z = s.heap := ⟨_, rfl⟩
  obtain ⟨locs, eL⟩ : ∃ z : List Loc, z = [] := ⟨_, rfl⟩
  rw [← eH] at hP
  have hS : va_S A s.heap H locs := by rw [eH, eL]; exact hS
  have goal : W p l e rmX9_has s m args below meth c H locs 0 0 Q (F0 m 0 ls []) := by
    refine lv_iload_n hx hb dX9_has_0 rfl (lv_at hl 0 rfl) ?_
    refine lv_iload_n hx hb dX9_has_1 rfl (lv_at hl 1 rfl) ?_
    refine lv_ishr hx hb dX9_has_2 ?_
    refine lv_iconst (v := 1) hx hb dX9_has_3 (by decide) ?_
    refine lv_iand hx hb dX9_has_4 ?_
    refine lv_iconst (v := 1) hx hb dX9_has_5 (by decide) ?_
    refine lv_icmp_ne (tgt := 13) hx hb dX9_has_6 (by decide) (fun c6 => ?_) (fun c6 => ?_)
    · have h := h.1 c6
      refine lv_iconst (v := 0) hx hb dX9_has_13 (by decide) ?_
      exact Rt _ _ _ _ _ _ rfl h hP hD hS dX9_has_14
    · have h := h.2 c6
      refine lv_iconst (v := 1) hx hb dX9_has_9 (by decide) ?_
      refine lv_goto (tgt := 14) hx hb dX9_has_10 (by decide) ?_
      exact Rt _ _ _ _ _ _ rfl h hP hD hS dX9_has_14
  rw [eH, eL] at goal
  exact goal
abbrev rmX9_bits : Room := { frames := 1, cells := 0, slots := 0, locals := 40 }
set_option maxRecDepth 100000 in
set_option maxHeartbeats 4000000 in
theorem bX9_bits_4 {p : Program} {l : Launch} {e : Env} {s : State} {m : MethodId} {args : Array Value} {below : List Frame} {meth : Method} {c : Code} {A : Nat → Prop} {Q : State → Prop} {D : va_G} {cI : ClassId} {ad : Nat → Nat} {K : Int32 → wx_Z → Prop} (C : wx_C p s m args c cX9_bits 3 RX9 wsX9_bits D [(cI, .int)] wx_T0 A) (Rt : wx_Ri p l e rmX9_bits s m args below meth c cX9_bits D 14 (wM_E cI ad) ad A K Q) : ∀ (n : Nat) (σ : wx_Z) (x1 : Int32) (x2 : Int32), wpX9_bits_4 K n σ x1 x2 → ∀ (H : Heap) (locs : List Loc) (ls : Array Slot), va_P D vwCl (wx_w 14 (wM_E cI ad) ad σ) H → va_D A (wx_w 14 (wM_E cI ad) ad σ) → va_S A s.heap H locs → lv_has ls 3 [(1, .int x1), (2, .int x2)] → W p l e rmX9_bits s m args below meth c H locs 0 0 Q (F0 m 4 ls []) := by
  obtain ⟨⟨hx, hb, hml, hown, hts⟩, hA, hK, hRO, hro⟩ := id C
  intro n
  induction n with
  | zero => intro σ x1 x2 h; exact h.elim
  | succ n ih =>
    intro σ x1 x2 h H locs ls hP hD hS hl
    unfold wpX9_bits_4 at h
    refine lv_iload_n hx hb dX9_bits_4 rfl (lv_at hl 1 rfl) ?_
    refine lv_if_eq (tgt := 20) hx hb dX9_bits_5 (by decide) (fun c5 => ?_) (fun c5 => ?_)
    · have h := h.1 c5
      refine lv_iload_n hx hb dX9_bits_20 rfl (lv_at hl 0 rfl) ?_
      exact Rt _ _ _ _ _ _ h hP hD hS dX9_bits_21
    · have h := h.2 c5
      obtain ⟨t8, e_t8⟩ : ∃ y : Int32, y = x1 + 1 := ⟨_, rfl⟩
      have h := h t8 e_t8
      refine lv_iinc (v := t8) (lv' := [(1, .int t8), (2, .int x2)]) hx hb dX9_bits_8 hl (k := 0) rfl (by rw [e_t8]; rfl) (by decide) rfl (fun ls hl => ?_)
      refine lv_iload_n hx hb dX9_bits_11 rfl (lv_at hl 1 rfl) ?_
      refine lv_iload_n hx hb dX9_bits_12 rfl (lv_at hl 1 rfl) ?_
      refine lv_iconst (v := 1) hx hb dX9_bits_13 (by decide) ?_
      refine lv_isub hx hb dX9_bits_14 ?_
      refine lv_iand hx hb dX9_bits_15 ?_
      refine lv_topi (fun t16 e_t16 => ?_)
      have h := h t16 e_t16
      refine lv_istore_n (lv' := [(2, .int t16), (1, .int t8)]) hx hb dX9_bits_16 rfl hl (by decide) rfl (fun ls hl => ?_)
      refine lv_goto (tgt := 4) hx hb dX9_bits_17 (by decide) ?_
      exact ih σ t8 t16  h _ _ _ hP hD hS (lv_sub hl [1, 0] rfl)
set_option maxRecDepth 100000 in
set_option maxHeartbeats 4000000 in
theorem cX9_bits {l : Launch} {D : va_G} {cI : ClassId} {ad : Nat → Nat} {sz : Nat} {σ : wx_Z} {x0 : Int32} {K : Int32 → wx_Z → Prop} (h : wpX9_bits σ x0 K) : Met l yX9_bits wsX9_bits rmX9_bits (wx_Pre D [(cI, .int)] wx_T0 14 (wM_E cI ad) ad σ sz [.int x0]) (va_Qi K (wx_B D [(cI, .int)] 14 (wM_E cI ad) ad (va_A (wx_w 14 (wM_E cI ad) ad σ) sz)) (va_A (wx_w 14 (wM_E cI ad) ad σ) sz)) 0 0 (va_A (wx_w 14 (wM_E cI ad) ad σ) sz) := by
  unfold wpX9_bits at h
  refine wx_meti (cc := cX9_bits) (maxL := 3) (own := RX9) rfl (by decide) rfl (Nat.le_of_ble_eq_true rfl) wx_T0_ok ?_
  intro p e s m args below meth c A Q ls C Rt hP hD hS hl
  obtain ⟨⟨hx, hb, hml, hown, hts⟩, hA, hK, hRO, hro⟩ := id C
  have hl : lv_has ls 3 [(0, .int x0)] := hl
  obtain ⟨H, eH⟩ : ∃ z, z = s.heap := ⟨_, rfl⟩
  obtain ⟨locs, eL⟩ : ∃ z : List Loc, z = [] := ⟨_, rfl⟩
  rw [← eH] at hP
  have hS : va_S A s.heap H locs := by rw [eH, eL]; exact hS
  have goal : W p l e rmX9_bits s m args below meth c H locs 0 0 Q (F0 m 0 ls []) := by
    refine lv_iconst (v := 0) hx hb dX9_bits_0 (by decide) ?_
    refine lv_istore_n (lv' := [(1, .int 0), (0, .int x0)]) hx hb dX9_bits_1 rfl hl (by decide) rfl (fun ls hl => ?_)
    refine lv_iload_n hx hb dX9_bits_2 rfl (lv_at hl 1 rfl) ?_
    refine lv_istore_n (lv' := [(2, .int x0), (1, .int 0), (0, .int x0)]) hx hb dX9_bits_3 rfl hl (by decide) rfl (fun ls hl => ?_)
    obtain ⟨n4, h⟩ := h
    exact bX9_bits_4 C Rt n4 σ 0 x0  h _ _ _ hP hD hS (lv_sub hl [1, 0] rfl)
  rw [eH, eL] at goal
  exact goal
abbrev rmX9_order : Room := { frames := 1, cells := 0, slots := 0, locals := 40 }
set_option maxRecDepth 20000 in
theorem inX9_order_X9 : ∀ w ∈ u_ws RX9 TX9 27, w ∈ wsX9_order := by decide +kernel
set_option maxRecDepth 100000 in
set_option maxHeartbeats 4000000 in
theorem cX9_order {l : Launch} {D : va_G} {cI : ClassId} {ad : Nat → Nat} {sz : Nat} {σ : wx_Z} {K : Int32 → wx_Z → Prop} (h : wpX9_order σ K) : Met l yX9_order wsX9_order rmX9_order (wx_Pre D [(cI, .int)] wx_T0 14 (wM_E cI ad) ad σ sz [.ref (ad 0)]) (va_Qi K (wx_B D [(cI, .int)] 14 (wM_E cI ad) ad (va_A (wx_w 14 (wM_E cI ad) ad σ) sz)) (va_A (wx_w 14 (wM_E cI ad) ad σ) sz)) 0 0 (va_A (wx_w 14 (wM_E cI ad) ad σ) sz) := by
  unfold wpX9_order at h
  refine wx_meti (cc := cX9_order) (maxL := 1) (own := RX9) rfl (by decide) rfl (Nat.le_of_ble_eq_true rfl) wx_T0_ok ?_
  intro p e s m args below meth c A Q ls C Rt hP hD hS hl
  obtain ⟨⟨hx, hb, hml, hown, hts⟩, hA, hK, hRO, hro⟩ := id C
  have hl : lv_has ls 1 [(0, .ref (ad 0))] := hl
  obtain ⟨H, eH⟩ : ∃ z, z = s.heap := ⟨_, rfl⟩
  obtain ⟨locs, eL⟩ : ∃ z : List Loc, z = [] := ⟨_, rfl⟩
  rw [← eH] at hP
  have hS : va_S A s.heap H locs := by rw [eH, eL]; exact hS
  have goal : W p l e rmX9_order s m args below meth c H locs 0 0 Q (F0 m 0 ls []) := by
    refine lv_aload_n hx hb dX9_order_0 rfl (lv_at hl 0 rfl) ?_
    refine wx_get C hP (q := 0) (ci := 9) (Nat.le_of_ble_eq_true rfl) (eM_0 cI ad _) (Cn := RX9) (T := TX9) (Nf := 27) rfl inX9_order_X9 0 (by decide) (List.mem_of_getElem? (i := 1) rfl) (v := .ref (ad 1)) rfl dX9_order_1 ?_
    refine lv_iconst (v := 0) hx hb dX9_order_4 (by decide) ?_
    refine wx_ild C hP (q := 1) (Nat.le_of_ble_eq_true rfl) (fun _ => rfl) 0 rfl h.1 dX9_order_5 ?_
    have h := h.2
    exact Rt _ _ _ _ _ _ h hP hD hS dX9_order_6
  rw [eH, eL] at goal
  exact goal
abbrev rmX9_length : Room := { frames := 1, cells := 0, slots := 0, locals := 40 }
set_option maxRecDepth 20000 in
theorem inX9_length_X9 : ∀ w ∈ u_ws RX9 TX9 27, w ∈ wsX9_length := by decide +kernel
set_option maxRecDepth 100000 in
set_option maxHeartbeats 4000000 in
theorem cX9_length {l : Launch} {D : va_G} {cI : ClassId} {ad : Nat → Nat} {sz : Nat} {σ : wx_Z} {K : Int32 → wx_Z → Prop} (h : wpX9_length σ K) : Met l yX9_length wsX9_length rmX9_length (wx_Pre D [(cI, .int)] wx_T0 14 (wM_E cI ad) ad σ sz [.ref (ad 0)]) (va_Qi K (wx_B D [(cI, .int)] 14 (wM_E cI ad) ad (va_A (wx_w 14 (wM_E cI ad) ad σ) sz)) (va_A (wx_w 14 (wM_E cI ad) ad σ) sz)) 0 0 (va_A (wx_w 14 (wM_E cI ad) ad σ) sz) := by
  unfold wpX9_length at h
  refine wx_meti (cc := cX9_length) (maxL := 1) (own := RX9) rfl (by decide) rfl (Nat.le_of_ble_eq_true rfl) wx_T0_ok ?_
  intro p e s m args below meth c A Q ls C Rt hP hD hS hl
  obtain ⟨⟨hx, hb, hml, hown, hts⟩, hA, hK, hRO, hro⟩ := id C
  have hl : lv_has ls 1 [(0, .ref (ad 0))] := hl
  obtain ⟨H, eH⟩ : ∃ z, z = s.heap := ⟨_, rfl⟩
  obtain ⟨locs, eL⟩ : ∃ z : List Loc, z = [] := ⟨_, rfl⟩
  rw [← eH] at hP
  have hS : va_S A s.heap H locs := by rw [eH, eL]; exact hS
  have goal : W p l e rmX9_length s m args below meth c H locs 0 0 Q (F0 m 0 ls []) := by
    refine lv_aload_n hx hb dX9_length_0 rfl (lv_at hl 0 rfl) ?_
    refine wx_get C hP (q := 0) (ci := 9) (Nat.le_of_ble_eq_true rfl) (eM_0 cI ad _) (Cn := RX9) (T := TX9) (Nf := 27) rfl inX9_length_X9 0 (by decide) (List.mem_of_getElem? (i := 1) rfl) (v := .ref (ad 1)) rfl dX9_length_1 ?_
    refine lv_iconst (v := 1) hx hb dX9_length_4 (by decide) ?_
    refine wx_ild C hP (q := 1) (Nat.le_of_ble_eq_true rfl) (fun _ => rfl) 0 rfl h.1 dX9_length_5 ?_
    have h := h.2
    exact Rt _ _ _ _ _ _ h hP hD hS dX9_length_6
  rw [eH, eL] at goal
  exact goal
abbrev rmX9_places : Room := { frames := 2, cells := 0, slots := 0, locals := 60 }
theorem nyX9_length : yX9_length.cls = RX9 ∧ yX9_length.cls ≠ "java/lang/invoke/MethodHandle" ∧ yX9_length.cls ≠ "java/lang/invoke/VarHandle" ∧ (parseMethodDescriptor yX9_length.desc).map (fun d => d.parameters.length) = some 0 := by decide +kernel
set_option maxRecDepth 100000 in
set_option maxHeartbeats 4000000 in
theorem cX9_places {l : Launch} {D : va_G} {cI : ClassId} {ad : Nat → Nat} {sz : Nat} {σ : wx_Z} {K : Int32 → wx_Z → Prop} (h : wpX9_places σ K) : Met l yX9_places wsX9_places rmX9_places (wx_Pre D [(cI, .int)] wx_T0 14 (wM_E cI ad) ad σ sz [.ref (ad 0)]) (va_Qi K (wx_B D [(cI, .int)] 14 (wM_E cI ad) ad (va_A (wx_w 14 (wM_E cI ad) ad σ) sz)) (va_A (wx_w 14 (wM_E cI ad) ad σ) sz)) 0 0 (va_A (wx_w 14 (wM_E cI ad) ad σ) sz) := by
  unfold wpX9_places at h
  refine wx_meti (cc := cX9_places) (maxL := 1) (own := RX9) rfl (by decide) rfl (Nat.le_of_ble_eq_true rfl) wx_T0_ok ?_
  intro p e s m args below meth c A Q ls C Rt hP hD hS hl
  obtain ⟨⟨hx, hb, hml, hown, hts⟩, hA, hK, hRO, hro⟩ := id C
  have hl : lv_has ls 1 [(0, .ref (ad 0))] := hl
  obtain ⟨H, eH⟩ : ∃ z, z = s.heap := ⟨_, rfl⟩
  obtain ⟨locs, eL⟩ : ∃ z : List Loc, z = [] := ⟨_, rfl⟩
  rw [← eH] at hP
  have hS : va_S A s.heap H locs := by rw [eH, eL]; exact hS
  have goal : W p l e rmX9_places s m args below meth c H locs 0 0 Q (F0 m 0 ls []) := by
    refine lv_iconst (v := 1) hx hb dX9_places_0 (by decide) ?_
    refine lv_aload_n hx hb dX9_places_1 rfl (lv_at hl 0 rfl) ?_
    refine wx_ci C hD hS (va_runV (As := []) (rest := [.int 1]) C.1 (cX9_length (l := l) (D := D) (sz := H.size) h) (cwV 0 hts gX9_places_X9_length rfl rfl rfl nyX9_length ⟨Nat.le_of_ble_eq_true rfl, Nat.le_of_ble_eq_true rfl⟩) (wx_pv C hP hD hS (q := 0) (ci := 9) (Nat.le_of_ble_eq_true rfl) (eM_0 cI ad _) rfl) rfl rfl hl.1 rfl (lv_room (Nat.le_of_ble_eq_true rfl)) dX9_places_2 ⟨Nat.zero_le _, Nat.zero_le _⟩) (fun r2 σ2 H locs h hP hD hS => ?_)
    refine lv_ishl hx hb dX9_places_5 ?_
    exact Rt _ _ _ _ _ _ h hP hD hS dX9_places_6
  rw [eH, eL] at goal
  exact goal
abbrev rmX9_theWord : Room := { frames := 1, cells := 0, slots := 0, locals := 40 }
set_option maxRecDepth 20000 in
theorem inX9_theWord_X9 : ∀ w ∈ u_ws RX9 TX9 27, w ∈ wsX9_theWord := by decide +kernel
set_option maxRecDepth 100000 in
set_option maxHeartbeats 4000000 in
theorem cX9_theWord {l : Launch} {D : va_G} {cI : ClassId} {ad : Nat → Nat} {sz : Nat} {σ : wx_Z} {K : Int32 → wx_Z → Prop} (h : wpX9_theWord σ K) : Met l yX9_theWord wsX9_theWord rmX9_theWord (wx_Pre D [(cI, .int)] wx_T0 14 (wM_E cI ad) ad σ sz [.ref (ad 0)]) (va_Qi K (wx_B D [(cI, .int)] 14 (wM_E cI ad) ad (va_A (wx_w 14 (wM_E cI ad) ad σ) sz)) (va_A (wx_w 14 (wM_E cI ad) ad σ) sz)) 0 0 (va_A (wx_w 14 (wM_E cI ad) ad σ) sz) := by
  unfold wpX9_theWord at h
  refine wx_meti (cc := cX9_theWord) (maxL := 1) (own := RX9) rfl (by decide) rfl (Nat.le_of_ble_eq_true rfl) wx_T0_ok ?_
  intro p e s m args below meth c A Q ls C Rt hP hD hS hl
  obtain ⟨⟨hx, hb, hml, hown, hts⟩, hA, hK, hRO, hro⟩ := id C
  have hl : lv_has ls 1 [(0, .ref (ad 0))] := hl
  obtain ⟨H, eH⟩ : ∃ z, z = s.heap := ⟨_, rfl⟩
  obtain ⟨locs, eL⟩ : ∃ z : List Loc, z = [] := ⟨_, rfl⟩
  rw [← eH] at hP
  have hS : va_S A s.heap H locs := by rw [eH, eL]; exact hS
  have goal : W p l e rmX9_theWord s m args below meth c H locs 0 0 Q (F0 m 0 ls []) := by
    refine lv_aload_n hx hb dX9_theWord_0 rfl (lv_at hl 0 rfl) ?_
    refine wx_get C hP (q := 0) (ci := 9) (Nat.le_of_ble_eq_true rfl) (eM_0 cI ad _) (Cn := RX9) (T := TX9) (Nf := 27) rfl inX9_theWord_X9 0 (by decide) (List.mem_of_getElem? (i := 1) rfl) (v := .ref (ad 1)) rfl dX9_theWord_1 ?_
    refine lv_iconst (v := 2) hx hb dX9_theWord_4 (by decide) ?_
    refine wx_ild C hP (q := 1) (Nat.le_of_ble_eq_true rfl) (fun _ => rfl) 0 rfl h.1 dX9_theWord_5 ?_
    have h := h.2
    exact Rt _ _ _ _ _ _ h hP hD hS dX9_theWord_6
  rw [eH, eL] at goal
  exact goal
abbrev rmX9_allOf : Room := { frames := 1, cells := 0, slots := 0, locals := 40 }
set_option maxRecDepth 100000 in
set_option maxHeartbeats 4000000 in
theorem cX9_allOf {l : Launch} {D : va_G} {cI : ClassId} {ad : Nat → Nat} {sz : Nat} {σ : wx_Z} {x0 : Int32} {K : Int32 → wx_Z → Prop} (h : wpX9_allOf σ x0 K) : Met l yX9_allOf wsX9_allOf rmX9_allOf (wx_Pre D [(cI, .int)] wx_T0 14 (wM_E cI ad) ad σ sz [.int x0]) (va_Qi K (wx_B D [(cI, .int)] 14 (wM_E cI ad) ad (va_A (wx_w 14 (wM_E cI ad) ad σ) sz)) (va_A (wx_w 14 (wM_E cI ad) ad σ) sz)) 0 0 (va_A (wx_w 14 (wM_E cI ad) ad σ) sz) := by
  unfold wpX9_allOf at h
  refine wx_meti (cc := cX9_allOf) (maxL := 1) (own := RX9) rfl (by decide) rfl (Nat.le_of_ble_eq_true rfl) wx_T0_ok ?_
  intro p e s m args below meth c A Q ls C Rt hP hD hS hl
  obtain ⟨⟨hx, hb, hml, hown, hts⟩, hA, hK, hRO, hro⟩ := id C
  have hl : lv_has ls 1 [(0, .int x0)] := hl
  obtain ⟨H, eH⟩ : ∃ z, z = s.heap := ⟨_, rfl⟩
  obtain ⟨locs, eL⟩ : ∃ z : List Loc, z = [] := ⟨_, rfl⟩
  rw [← eH] at hP
  have hS : va_S A s.heap H locs := by rw [eH, eL]; exact hS
  have goal : W p l e rmX9_allOf s m args below meth c H locs 0 0 Q (F0 m 0 ls []) := by
    refine lv_iload_n hx hb dX9_allOf_0 rfl (lv_at hl 0 rfl) ?_
    refine lv_bipush (v := 32) hx hb dX9_allOf_1 (by decide) ?_
    refine lv_icmp_lt (tgt := 10) hx hb dX9_allOf_3 (by decide) (fun c3 => ?_) (fun c3 => ?_)
    · have h := h.1 c3
      refine lv_iconst (v := 1) hx hb dX9_allOf_10 (by decide) ?_
      refine lv_iload_n hx hb dX9_allOf_11 rfl (lv_at hl 0 rfl) ?_
      refine lv_ishl hx hb dX9_allOf_12 ?_
      refine lv_iconst (v := 1) hx hb dX9_allOf_13 (by decide) ?_
      refine lv_isub hx hb dX9_allOf_14 ?_
      exact Rt _ _ _ _ _ _ h hP hD hS dX9_allOf_15
    · have h := h.2 c3
      refine lv_iconst (v := (-1)) hx hb dX9_allOf_6 (by decide) ?_
      refine lv_goto (tgt := 15) hx hb dX9_allOf_7 (by decide) ?_
      exact Rt _ _ _ _ _ _ h hP hD hS dX9_allOf_15
  rw [eH, eL] at goal
  exact goal
abbrev rmX9_keep : Room := { frames := 1, cells := 0, slots := 0, locals := 40 }
set_option maxRecDepth 20000 in
theorem inX9_keep_X9 : ∀ w ∈ u_ws RX9 TX9 27, w ∈ wsX9_keep := by decide +kernel
set_option maxRecDepth 100000 in
set_option maxHeartbeats 4000000 in
theorem bX9_keep_51 {p : Program} {l : Launch} {e : Env} {s : State} {m : MethodId} {args : Array Value} {below : List Frame} {meth : Method} {c : Code} {A : Nat → Prop} {Q : State → Prop} {D : va_G} {cI : ClassId} {ad : Nat → Nat} {K : wx_Z → Prop} (C : wx_C p s m args c cX9_keep 2 RX9 wsX9_keep D [(cI, .int)] wx_T0 A) (Rt : wx_Rv p l e rmX9_keep s m args below meth c cX9_keep D 14 (wM_E cI ad) ad A K Q) : ∀ (n : Nat) (σ : wx_Z) (x1 : Int32), wpX9_keep_51 K n σ x1 → ∀ (H : Heap) (locs : List Loc) (ls : Array Slot), va_P D vwCl (wx_w 14 (wM_E cI ad) ad σ) H → va_D A (wx_w 14 (wM_E cI ad) ad σ) → va_S A s.heap H locs → lv_has ls 2 [(0, .ref (ad 0)), (1, .int x1)] → W p l e rmX9_keep s m args below meth c H locs 0 0 Q (F0 m 51 ls []) := by
  obtain ⟨⟨hx, hb, hml, hown, hts⟩, hA, hK, hRO, hro⟩ := id C
  intro n
  induction n with
  | zero => intro σ x1 h; exact h.elim
  | succ n ih =>
    intro σ x1 h H locs ls hP hD hS hl
    unfold wpX9_keep_51 at h
    refine lv_iload_n hx hb dX9_keep_51 rfl (lv_at hl 1 rfl) ?_
    refine lv_bipush (v := 35) hx hb dX9_keep_52 (by decide) ?_
    refine lv_icmp_ge (tgt := 83) hx hb dX9_keep_54 (by decide) (fun c54 => ?_) (fun c54 => ?_)
    · have h := h.1 c54
      refine lv_aload_n hx hb dX9_keep_83 rfl (lv_at hl 0 rfl) ?_
      refine lv_dup hx hb dX9_keep_84 rfl ?_
      refine wx_get C hP (q := 0) (ci := 9) (Nat.le_of_ble_eq_true rfl) (eM_0 cI ad _) (Cn := RX9) (T := TX9) (Nf := 27) rfl inX9_keep_X9 2 (by decide) (List.mem_of_getElem? (i := 1) rfl) (v := .int (σ 0 2)) rfl dX9_keep_85 ?_
      refine lv_iconst (v := 1) hx hb dX9_keep_88 (by decide) ?_
      refine lv_iadd hx hb dX9_keep_89 ?_
      refine wx_put C hP hD hS (q := 0) (ci := 9) (Nat.le_of_ble_eq_true rfl) (eM_0 cI ad _) (Cn := RX9) (T := TX9) (Nf := 27) rfl inX9_keep_X9 tyX9 tyX9_ok nmX9 2 (by decide) (List.mem_of_getElem? (i := 1) rfl) rfl rfl (Nat.le_of_ble_eq_true rfl) rfl dX9_keep_90 (fun H locs hP hD hS => ?_)
      generalize e_σ90 : wx_up σ 0 2 ((σ 0 2) + 1) = σ90 at hP hD
      have h := h σ90 e_σ90.symm
      exact Rt _ _ _ _ _ h hP hD hS dX9_keep_93
    · have h := h.2 c54
      refine lv_aload_n hx hb dX9_keep_57 rfl (lv_at hl 0 rfl) ?_
      refine wx_get C hP (q := 0) (ci := 9) (Nat.le_of_ble_eq_true rfl) (eM_0 cI ad _) (Cn := RX9) (T := TX9) (Nf := 27) rfl inX9_keep_X9 1 (by decide) (List.mem_of_getElem? (i := 2) rfl) (v := .ref (ad 2)) rfl dX9_keep_58 ?_
      refine lv_bipush (v := 35) hx hb dX9_keep_61 (by decide) ?_
      refine lv_aload_n hx hb dX9_keep_63 rfl (lv_at hl 0 rfl) ?_
      refine wx_get C hP (q := 0) (ci := 9) (Nat.le_of_ble_eq_true rfl) (eM_0 cI ad _) (Cn := RX9) (T := TX9) (Nf := 27) rfl inX9_keep_X9 2 (by decide) (List.mem_of_getElem? (i := 1) rfl) (v := .int (σ 0 2)) rfl dX9_keep_64 ?_
      refine lv_imul hx hb dX9_keep_67 ?_
      refine lv_iload_n hx hb dX9_keep_68 rfl (lv_at hl 1 rfl) ?_
      refine lv_iadd hx hb dX9_keep_69 ?_
      refine lv_aload_n hx hb dX9_keep_70 rfl (lv_at hl 0 rfl) ?_
      refine wx_get C hP (q := 0) (ci := 9) (Nat.le_of_ble_eq_true rfl) (eM_0 cI ad _) (Cn := RX9) (T := TX9) (Nf := 27) rfl inX9_keep_X9 0 (by decide) (List.mem_of_getElem? (i := 3) rfl) (v := .ref (ad 1)) rfl dX9_keep_71 ?_
      refine lv_iload_n hx hb dX9_keep_74 rfl (lv_at hl 1 rfl) ?_
      refine wx_ild C hP (q := 1) (Nat.le_of_ble_eq_true rfl) (fun _ => rfl) 0 rfl h.1 dX9_keep_75 ?_
      have h := h.2
      refine wx_ist C hP hD hS (q := 2) (Nat.le_of_ble_eq_true rfl) (fun _ => rfl) 0 rfl h.1 dX9_keep_76 (fun H locs hP hD hS => ?_)
      generalize e_σ76 : wx_up σ 2 (Int32.toNatClampNeg ((35 * (σ 0 2)) + x1)) (σ 1 (Int32.toNatClampNeg x1)) = σ76 at hP hD
      have h := h.2 σ76 e_σ76.symm
      obtain ⟨t77, e_t77⟩ : ∃ y : Int32, y = x1 + 1 := ⟨_, rfl⟩
      have h := h t77 e_t77
      refine lv_iinc (v := t77) (lv' := [(1, .int t77), (0, .ref (ad 0))]) hx hb dX9_keep_77 hl (k := 1) rfl (by rw [e_t77]; rfl) (by decide) rfl (fun ls hl => ?_)
      refine lv_goto (tgt := 51) hx hb dX9_keep_80 (by decide) ?_
      exact ih σ76 t77  h _ _ _ hP hD hS (lv_sub hl [1, 0] rfl)
set_option maxRecDepth 100000 in
set_option maxHeartbeats 4000000 in
theorem bX9_keep_11 {p : Program} {l : Launch} {e : Env} {s : State} {m : MethodId} {args : Array Value} {below : List Frame} {meth : Method} {c : Code} {A : Nat → Prop} {Q : State → Prop} {D : va_G} {cI : ClassId} {ad : Nat → Nat} {K : wx_Z → Prop} (C : wx_C p s m args c cX9_keep 2 RX9 wsX9_keep D [(cI, .int)] wx_T0 A) (Rt : wx_Rv p l e rmX9_keep s m args below meth c cX9_keep D 14 (wM_E cI ad) ad A K Q) : ∀ (n : Nat) (σ : wx_Z) (x1 : Int32), wpX9_keep_11 K n σ x1 → ∀ (H : Heap) (locs : List Loc) (ls : Array Slot), va_P D vwCl (wx_w 14 (wM_E cI ad) ad σ) H → va_D A (wx_w 14 (wM_E cI ad) ad σ) → va_S A s.heap H locs → lv_has ls 2 [(1, .int 0), (0, .ref (ad 0))] → W p l e rmX9_keep s m args below meth c H locs 0 0 Q (F0 m 11 ls []) := by
  obtain ⟨⟨hx, hb, hml, hown, hts⟩, hA, hK, hRO, hro⟩ := id C
  intro n
  induction n with
  | zero => intro σ x1 h; exact h.elim
  | succ n ih =>
    intro σ x1 h H locs ls hP hD hS hl
    unfold wpX9_keep_11 at h
    refine lv_iload_n hx hb dX9_keep_11 rfl (lv_at hl 1 rfl) ?_
    refine lv_sipush (v := 245) hx hb dX9_keep_12 (by decide) ?_
    refine lv_icmp_ge (tgt := 39) hx hb dX9_keep_15 (by decide) (fun c15 => ?_) (fun c15 => ?_)
    · have h := h.1 c15
      refine lv_aload_n hx hb dX9_keep_39 rfl (lv_at hl 0 rfl) ?_
      refine lv_dup hx hb dX9_keep_40 rfl ?_
      refine wx_get C hP (q := 0) (ci := 9) (Nat.le_of_ble_eq_true rfl) (eM_0 cI ad _) (Cn := RX9) (T := TX9) (Nf := 27) rfl inX9_keep_X9 2 (by decide) (List.mem_of_getElem? (i := 1) rfl) (v := .int (σ 0 2)) rfl dX9_keep_41 ?_
      refine lv_iconst (v := 1) hx hb dX9_keep_44 (by decide) ?_
      refine lv_isub hx hb dX9_keep_45 ?_
      refine wx_put C hP hD hS (q := 0) (ci := 9) (Nat.le_of_ble_eq_true rfl) (eM_0 cI ad _) (Cn := RX9) (T := TX9) (Nf := 27) rfl inX9_keep_X9 tyX9 tyX9_ok nmX9 2 (by decide) (List.mem_of_getElem? (i := 1) rfl) rfl rfl (Nat.le_of_ble_eq_true rfl) rfl dX9_keep_46 (fun H locs hP hD hS => ?_)
      generalize e_σ46 : wx_up σ 0 2 ((σ 0 2) - 1) = σ46 at hP hD
      have h := h σ46 e_σ46.symm
      refine lv_iconst (v := 0) hx hb dX9_keep_49 (by decide) ?_
      refine lv_istore_n (lv' := [(1, .int 0), (0, .ref (ad 0))]) hx hb dX9_keep_50 rfl hl (by decide) rfl (fun ls hl => ?_)
      obtain ⟨n51, h⟩ := h
      exact bX9_keep_51 C Rt n51 σ46 0  h _ _ _ hP hD hS (lv_sub hl [1, 0] rfl)
    · have h := h.2 c15
      refine lv_aload_n hx hb dX9_keep_18 rfl (lv_at hl 0 rfl) ?_
      refine wx_get C hP (q := 0) (ci := 9) (Nat.le_of_ble_eq_true rfl) (eM_0 cI ad _) (Cn := RX9) (T := TX9) (Nf := 27) rfl inX9_keep_X9 1 (by decide) (List.mem_of_getElem? (i := 2) rfl) (v := .ref (ad 2)) rfl dX9_keep_19 ?_
      refine lv_iload_n hx hb dX9_keep_22 rfl (lv_at hl 1 rfl) ?_
      refine lv_aload_n hx hb dX9_keep_23 rfl (lv_at hl 0 rfl) ?_
      refine wx_get C hP (q := 0) (ci := 9) (Nat.le_of_ble_eq_true rfl) (eM_0 cI ad _) (Cn := RX9) (T := TX9) (Nf := 27) rfl inX9_keep_X9 1 (by decide) (List.mem_of_getElem? (i := 2) rfl) (v := .ref (ad 2)) rfl dX9_keep_24 ?_
      refine lv_iload_n hx hb dX9_keep_27 rfl (lv_at hl 1 rfl) ?_
      refine lv_bipush (v := 35) hx hb dX9_keep_28 (by decide) ?_
      refine lv_iadd hx hb dX9_keep_30 ?_
      refine wx_ild C hP (q := 2) (Nat.le_of_ble_eq_true rfl) (fun _ => rfl) 0 rfl h.1 dX9_keep_31 ?_
      have h := h.2
      refine wx_ist C hP hD hS (q := 2) (Nat.le_of_ble_eq_true rfl) (fun _ => rfl) 0 rfl h.1 dX9_keep_32 (fun H locs hP hD hS => ?_)
      generalize e_σ32 : wx_up σ 2 (Int32.toNatClampNeg x1) (σ 2 (Int32.toNatClampNeg (x1 + 35))) = σ32 at hP hD
      have h := h.2 σ32 e_σ32.symm
      obtain ⟨t33, e_t33⟩ : ∃ y : Int32, y = x1 + 1 := ⟨_, rfl⟩
      have h := h t33 e_t33
      refine lv_iinc (v := t33) (lv' := [(1, .int t33), (0, .ref (ad 0))]) hx hb dX9_keep_33 hl (k := 1) rfl (by rw [e_t33]; rfl) (by decide) rfl (fun ls hl => ?_)
      refine lv_goto (tgt := 11) hx hb dX9_keep_36 (by decide) ?_
      exact ih σ32 t33  h _ _ _ hP hD hS (lv_sub hl [1, 0] rfl)
set_option maxRecDepth 100000 in
set_option maxHeartbeats 4000000 in
theorem cX9_keep {l : Launch} {D : va_G} {cI : ClassId} {ad : Nat → Nat} {sz : Nat} {σ : wx_Z} {K : wx_Z → Prop} (h : wpX9_keep σ K) : Met l yX9_keep wsX9_keep rmX9_keep (wx_Pre D [(cI, .int)] wx_T0 14 (wM_E cI ad) ad σ sz [.ref (ad 0)]) (va_Qv K (wx_B D [(cI, .int)] 14 (wM_E cI ad) ad (va_A (wx_w 14 (wM_E cI ad) ad σ) sz)) (va_A (wx_w 14 (wM_E cI ad) ad σ) sz)) 0 0 (va_A (wx_w 14 (wM_E cI ad) ad σ) sz) := by
  unfold wpX9_keep at h
  refine wx_metv (cc := cX9_keep) (maxL := 2) (own := RX9) rfl (by decide) rfl (Nat.le_of_ble_eq_true rfl) wx_T0_ok ?_
  intro p e s m args below meth c A Q ls C Rt hP hD hS hl
  obtain ⟨⟨hx, hb, hml, hown, hts⟩, hA, hK, hRO, hro⟩ := id C
  have hl : lv_has ls 2 [(0, .ref (ad 0))] := hl
  obtain ⟨H, eH⟩ : ∃ z, z = s.heap := ⟨_, rfl⟩
  obtain ⟨locs, eL⟩ : ∃ z : List Loc, z = [] := ⟨_, rfl⟩
  rw [← eH] at hP
  have hS : va_S A s.heap H locs := by rw [eH, eL]; exact hS
  have goal : W p l e rmX9_keep s m args below meth c H locs 0 0 Q (F0 m 0 ls []) := by
    refine lv_aload_n hx hb dX9_keep_0 rfl (lv_at hl 0 rfl) ?_
    refine wx_get C hP (q := 0) (ci := 9) (Nat.le_of_ble_eq_true rfl) (eM_0 cI ad _) (Cn := RX9) (T := TX9) (Nf := 27) rfl inX9_keep_X9 2 (by decide) (List.mem_of_getElem? (i := 1) rfl) (v := .int (σ 0 2)) rfl dX9_keep_1 ?_
    refine lv_bipush (v := 8) hx hb dX9_keep_4 (by decide) ?_
    refine lv_icmp_ne (tgt := 49) hx hb dX9_keep_6 (by decide) (fun c6 => ?_) (fun c6 => ?_)
    · have h := h.1 c6
      refine lv_iconst (v := 0) hx hb dX9_keep_49 (by decide) ?_
      refine lv_istore_n (lv' := [(1, .int 0), (0, .ref (ad 0))]) hx hb dX9_keep_50 rfl hl (by decide) rfl (fun ls hl => ?_)
      obtain ⟨n51, h⟩ := h
      exact bX9_keep_51 C Rt n51 σ 0  h _ _ _ hP hD hS (lv_sub hl [1, 0] rfl)
    · have h := h.2 c6
      refine lv_iconst (v := 0) hx hb dX9_keep_9 (by decide) ?_
      refine lv_istore_n (lv' := [(1, .int 0), (0, .ref (ad 0))]) hx hb dX9_keep_10 rfl hl (by decide) rfl (fun ls hl => ?_)
      obtain ⟨n11, h⟩ := h
      exact bX9_keep_11 C Rt n11 σ 0  h _ _ _ hP hD hS (lv_sub hl [1, 0] rfl)
  rw [eH, eL] at goal
  exact goal
abbrev rmX9_lays : Room := { frames := 3, cells := 0, slots := 0, locals := 80 }
set_option maxRecDepth 20000 in
theorem inX9_lays_X9 : ∀ w ∈ u_ws RX9 TX9 27, w ∈ wsX9_lays := by decide +kernel
theorem nyX9_bits : yX9_bits.cls = RX9 ∧ yX9_bits.cls ≠ "java/lang/invoke/MethodHandle" ∧ yX9_bits.cls ≠ "java/lang/invoke/VarHandle" ∧ (parseMethodDescriptor yX9_bits.desc).map (fun d => d.parameters.length) = some 1 := by decide +kernel
theorem nyX9_places : yX9_places.cls = RX9 ∧ yX9_places.cls ≠ "java/lang/invoke/MethodHandle" ∧ yX9_places.cls ≠ "java/lang/invoke/VarHandle" ∧ (parseMethodDescriptor yX9_places.desc).map (fun d => d.parameters.length) = some 0 := by decide +kernel
set_option maxRecDepth 100000 in
set_option maxHeartbeats 4000000 in
theorem bX9_lays_14 {p : Program} {l : Launch} {e : Env} {s : State} {m : MethodId} {args : Array Value} {below : List Frame} {meth : Method} {c : Code} {A : Nat → Prop} {Q : State → Prop} {D : va_G} {cI : ClassId} {ad : Nat → Nat} {K : wx_Z → Prop} {C7 : wx_Z → Int32 → Int32 → Prop} (C : wx_C p s m args c cX9_lays 4 RX9 wsX9_lays D [(cI, .int)] wx_T0 A) (Rt : wx_Rv p l e rmX9_lays s m args below meth c cX9_lays D 14 (wM_E cI ad) ad A K Q) (hC7 : ∀ (σ : wx_Z) (x1 : Int32) (x2 : Int32), C7 σ x1 x2 → ∀ (H : Heap) (locs : List Loc) (ls : Array Slot), va_P D vwCl (wx_w 14 (wM_E cI ad) ad σ) H → va_D A (wx_w 14 (wM_E cI ad) ad σ) → va_S A s.heap H locs → lv_has ls 4 [(0, .ref (ad 0)), (1, .int x1), (2, .int x2)] → W p l e rmX9_lays s m args below meth c H locs 0 0 Q (F0 m 7 ls [])) : ∀ (n : Nat) (σ : wx_Z) (x1 : Int32) (x2 : Int32) (x3 : Int32), wpX9_lays_14 K C7 n σ x1 x2 x3 → ∀ (H : Heap) (locs : List Loc) (ls : Array Slot), va_P D vwCl (wx_w 14 (wM_E cI ad) ad σ) H → va_D A (wx_w 14 (wM_E cI ad) ad σ) → va_S A s.heap H locs → lv_has ls 4 [(2, .int t56), (0, .ref (ad 0)), (1, .int x1), (3, .int x3)] → W p l e rmX9_lays s m args below meth c H locs 0 0 Q (F0 m 14 ls []) := by
  obtain ⟨⟨hx, hb, hml, hown, hts⟩, hA, hK, hRO, hro⟩ := id C
  intro n
  induction n with
  | zero => intro σ x1 x2 x3 h; exact h.elim
  | succ n ih =>
    intro σ x1 x2 x3 h H locs ls hP hD hS hl
    unfold wpX9_lays_14 at h
    refine lv_iload_n hx hb dX9_lays_14 rfl (lv_at hl 3 rfl) ?_
    refine lv_aload_n hx hb dX9_lays_15 rfl (lv_at hl 0 rfl) ?_
    refine wx_ci C hD hS (va_runV (As := []) (rest := [.int x3]) C.1 (cX9_places (l := l) (D := D) (sz := H.size) h) (cwV 0 hts gX9_lays_X9_places rfl rfl rfl nyX9_places ⟨Nat.le_of_ble_eq_true rfl, Nat.le_of_ble_eq_true rfl⟩) (wx_pv C hP hD hS (q := 0) (ci := 9) (Nat.le_of_ble_eq_true rfl) (eM_0 cI ad _) rfl) rfl rfl hl.1 rfl (lv_room (Nat.le_of_ble_eq_true rfl)) dX9_lays_16 ⟨Nat.zero_le _, Nat.zero_le _⟩) (fun r16 σ16 H locs h hP hD hS => ?_)
    refine lv_icmp_ge (tgt := 56) hx hb dX9_lays_19 (by decide) (fun c19 => ?_) (fun c19 => ?_)
    · have h := h.1 c19
      obtain ⟨t56, e_t56⟩ : ∃ y : Int32, y = x2 + 1 := ⟨_, rfl⟩
      have h := h t56 e_t56
      refine lv_iinc (v := t56) (lv' := [(2, .int t56), (0, .ref (ad 0)), (1, .int x1), (3, .int x3)]) hx hb dX9_lays_56 hl (k := 2) rfl (by rw [e_t56]; rfl) (by decide) rfl (fun ls hl => ?_)
      refine lv_goto (tgt := 7) hx hb dX9_lays_59 (by decide) ?_
      exact hC7 σ16 x1 t56  h _ _ _ hP hD hS (lv_sub hl [1, 2, 0] rfl)
    · have h := h.2 c19
      refine lv_iload_n hx hb dX9_lays_22 rfl (lv_at hl 3 rfl) ?_
      refine wx_ci C hD hS (va_runS (As := [.int x3]) (rest := []) C.1 (cX9_bits (l := l) (D := D) (sz := H.size) h) (va_cwS 1 hts gX9_lays_X9_bits rfl rfl rfl nyX9_bits.2 ⟨Nat.le_of_ble_eq_true rfl, Nat.le_of_ble_eq_true rfl⟩) (wx_ps C hP hD hS) rfl rfl hl.1 rfl (lv_room (Nat.le_of_ble_eq_true rfl)) dX9_lays_23 ⟨Nat.zero_le _, Nat.zero_le _⟩) (fun r23 σ23 H locs h hP hD hS => ?_)
      refine lv_iload_n hx hb dX9_lays_26 rfl (lv_at hl 2 rfl) ?_
      refine lv_icmp_ne (tgt := 50) hx hb dX9_lays_27 (by decide) (fun c27 => ?_) (fun c27 => ?_)
      · have h := h.1 c27
        obtain ⟨t50, e_t50⟩ : ∃ y : Int32, y = x3 + 1 := ⟨_, rfl⟩
        have h := h t50 e_t50
        refine lv_iinc (v := t50) (lv' := [(3, .int t50), (0, .ref (ad 0)), (1, .int x1), (2, .int x2)]) hx hb dX9_lays_50 hl (k := 3) rfl (by rw [e_t50]; rfl) (by decide) rfl (fun ls hl => ?_)
        refine lv_goto (tgt := 14) hx hb dX9_lays_53 (by decide) ?_
        exact ih σ23 x1 x2 t50  h _ _ _ hP hD hS (lv_sub hl [1, 2, 3, 0] rfl)
      · have h := h.2 c27
        refine lv_aload_n hx hb dX9_lays_30 rfl (lv_at hl 0 rfl) ?_
        refine wx_get C hP (q := 0) (ci := 9) (Nat.le_of_ble_eq_true rfl) (eM_0 cI ad _) (Cn := RX9) (T := TX9) (Nf := 27) rfl inX9_lays_X9 4 (by decide) (List.mem_of_getElem? (i := 2) rfl) (v := .ref (ad 4)) rfl dX9_lays_31 ?_
        refine lv_aload_n hx hb dX9_lays_34 rfl (lv_at hl 0 rfl) ?_
        refine wx_get C hP (q := 0) (ci := 9) (Nat.le_of_ble_eq_true rfl) (eM_0 cI ad _) (Cn := RX9) (T := TX9) (Nf := 27) rfl inX9_lays_X9 5 (by decide) (List.mem_of_getElem? (i := 1) rfl) (v := .int (σ23 0 5)) rfl dX9_lays_35 ?_
        refine lv_iload_n hx hb dX9_lays_38 rfl (lv_at hl 3 rfl) ?_
        refine wx_ist C hP hD hS (q := 4) (Nat.le_of_ble_eq_true rfl) (fun _ => rfl) 0 rfl h.1 dX9_lays_39 (fun H locs hP hD hS => ?_)
        generalize e_σ39 : wx_up σ23 4 (Int32.toNatClampNeg (σ23 0 5)) x3 = σ39 at hP hD
        have h := h.2 σ39 e_σ39.symm
        refine lv_aload_n hx hb dX9_lays_40 rfl (lv_at hl 0 rfl) ?_
        refine lv_dup hx hb dX9_lays_41 rfl ?_
        refine wx_get C hP (q := 0) (ci := 9) (Nat.le_of_ble_eq_true rfl) (eM_0 cI ad _) (Cn := RX9) (T := TX9) (Nf := 27) rfl inX9_lays_X9 5 (by decide) (List.mem_of_getElem? (i := 1) rfl) (v := .int (σ39 0 5)) rfl dX9_lays_42 ?_
        refine lv_iconst (v := 1) hx hb dX9_lays_45 (by decide) ?_
        refine lv_iadd hx hb dX9_lays_46 ?_
        refine wx_put C hP hD hS (q := 0) (ci := 9) (Nat.le_of_ble_eq_true rfl) (eM_0 cI ad _) (Cn := RX9) (T := TX9) (Nf := 27) rfl inX9_lays_X9 tyX9 tyX9_ok nmX9 5 (by decide) (List.mem_of_getElem? (i := 1) rfl) rfl rfl (Nat.le_of_ble_eq_true rfl) rfl dX9_lays_47 (fun H locs hP hD hS => ?_)
        generalize e_σ47 : wx_up σ39 0 5 ((σ39 0 5) + 1) = σ47 at hP hD
        have h := h σ47 e_σ47.symm
        obtain ⟨t50_1, e_t50_1⟩ : ∃ y : Int32, y = x3 + 1 := ⟨_, rfl⟩
        have h := h t50_1 e_t50_1
        refine lv_iinc (v := t50_1) (lv' := [(3, .int t50_1), (0, .ref (ad 0)), (1, .int x1), (2, .int x2)]) hx hb dX9_lays_50 hl (k := 3) rfl (by rw [e_t50_1]; rfl) (by decide) rfl (fun ls hl => ?_)
        refine lv_goto (tgt := 14) hx hb dX9_lays_53 (by decide) ?_
        exact ih σ47 x1 x2 t50_1  h _ _ _ hP hD hS (lv_sub hl [1, 2, 3, 0] rfl)
set_option maxRecDepth 100000 in
set_option maxHeartbeats 4000000 in
theorem bX9_lays_7 {p : Program} {l : Launch} {e : Env} {s : State} {m : MethodId} {args : Array Value} {below : List Frame} {meth : Method} {c : Code} {A : Nat → Prop} {Q : State → Prop} {D : va_G} {cI : ClassId} {ad : Nat → Nat} {K : wx_Z → Prop} (C : wx_C p s m args c cX9_lays 4 RX9 wsX9_lays D [(cI, .int)] wx_T0 A) (Rt : wx_Rv p l e rmX9_lays s m args below meth c cX9_lays D 14 (wM_E cI ad) ad A K Q) : ∀ (n : Nat) (σ : wx_Z) (x1 : Int32) (x2 : Int32), wpX9_lays_7 K n σ x1 x2 → ∀ (H : Heap) (locs : List Loc) (ls : Array Slot), va_P D vwCl (wx_w 14 (wM_E cI ad) ad σ) H → va_D A (wx_w 14 (wM_E cI ad) ad σ) → va_S A s.heap H locs → lv_has ls 4 [(0, .ref (ad 0)), (1, .int x1), (2, .int x2)] → W p l e rmX9_lays s m args below meth c H locs 0 0 Q (F0 m 7 ls []) := by
  obtain ⟨⟨hx, hb, hml, hown, hts⟩, hA, hK, hRO, hro⟩ := id C
  intro n
  induction n with
  | zero => intro σ x1 x2 h; exact h.elim
  | succ n ih =>
    intro σ x1 x2 h H locs ls hP hD hS hl
    unfold wpX9_lays_7 at h
    refine lv_iload_n hx hb dX9_lays_7 rfl (lv_at hl 2 rfl) ?_
    refine lv_iload_n hx hb dX9_lays_8 rfl (lv_at hl 1 rfl) ?_
    refine lv_icmp_gt (tgt := 62) hx hb dX9_lays_9 (by decide) (fun c9 => ?_) (fun c9 => ?_)
    · have h := h.1 c9
      exact Rt _ _ _ _ _ h hP hD hS dX9_lays_62
    · have h := h.2 c9
      refine lv_iconst (v := 0) hx hb dX9_lays_12 (by decide) ?_
      refine lv_istore_n (lv' := [(3, .int 0), (0, .ref (ad 0)), (1, .int x1), (2, .int x2)]) hx hb dX9_lays_13 rfl hl (by decide) rfl (fun ls hl => ?_)
      obtain ⟨n14, h⟩ := h
      exact bX9_lays_14 C Rt ih n14 σ x1 x2 0  h _ _ _ hP hD hS (lv_sub hl [1, 2, 3, 0] rfl)
set_option maxRecDepth 100000 in
set_option maxHeartbeats 4000000 in
theorem cX9_lays {l : Launch} {D : va_G} {cI : ClassId} {ad : Nat → Nat} {sz : Nat} {σ : wx_Z} {x1 : Int32} {K : wx_Z → Prop} (h : wpX9_lays σ x1 K) : Met l yX9_lays wsX9_lays rmX9_lays (wx_Pre D [(cI, .int)] wx_T0 14 (wM_E cI ad) ad σ sz [.ref (ad 0), .int x1]) (va_Qv K (wx_B D [(cI, .int)] 14 (wM_E cI ad) ad (va_A (wx_w 14 (wM_E cI ad) ad σ) sz)) (va_A (wx_w 14 (wM_E cI ad) ad σ) sz)) 0 0 (va_A (wx_w 14 (wM_E cI ad) ad σ) sz) := by
  unfold wpX9_lays at h
  refine wx_metv (cc := cX9_lays) (maxL := 4) (own := RX9) rfl (by decide) rfl (Nat.le_of_ble_eq_true rfl) wx_T0_ok ?_
  intro p e s m args below meth c A Q ls C Rt hP hD hS hl
  obtain ⟨⟨hx, hb, hml, hown, hts⟩, hA, hK, hRO, hro⟩ := id C
  have hl : lv_has ls 4 [(0, .ref (ad 0)), (1, .int x1)] := hl
  obtain ⟨H, eH⟩ : ∃ z, z = s.heap := ⟨_, rfl⟩
  obtain ⟨locs, eL⟩ : ∃ z : List Loc, z = [] := ⟨_, rfl⟩
  rw [← eH] at hP
  have hS : va_S A s.heap H locs := by rw [eH, eL]; exact hS
  have goal : W p l e rmX9_lays s m args below meth c H locs 0 0 Q (F0 m 0 ls []) := by
    refine lv_aload_n hx hb dX9_lays_0 rfl (lv_at hl 0 rfl) ?_
    refine lv_iconst (v := 0) hx hb dX9_lays_1 (by decide) ?_
    refine wx_put C hP hD hS (q := 0) (ci := 9) (Nat.le_of_ble_eq_true rfl) (eM_0 cI ad _) (Cn := RX9) (T := TX9) (Nf := 27) rfl inX9_lays_X9 tyX9 tyX9_ok nmX9 5 (by decide) (List.mem_of_getElem? (i := 1) rfl) rfl rfl (Nat.le_of_ble_eq_true rfl) rfl dX9_lays_2 (fun H locs hP hD hS => ?_)
    generalize e_σ2 : wx_up σ 0 5 0 = σ2 at hP hD
    have h := h σ2 e_σ2.symm
    refine lv_iconst (v := 0) hx hb dX9_lays_5 (by decide) ?_
    refine lv_istore_n (lv' := [(2, .int 0), (0, .ref (ad 0)), (1, .int x1)]) hx hb dX9_lays_6 rfl hl (by decide) rfl (fun ls hl => ?_)
    obtain ⟨n7, h⟩ := h
    exact bX9_lays_7 C Rt n7 σ2 x1 0  h _ _ _ hP hD hS (lv_sub hl [1, 2, 0] rfl)
  rw [eH, eL] at goal
  exact goal
abbrev rmX9_many : Room := { frames := 4, cells := 0, slots := 0, locals := 103 }
set_option maxRecDepth 20000 in
theorem inX9_many_X9 : ∀ w ∈ u_ws RX9 TX9 27, w ∈ wsX9_many := by decide +kernel
theorem nyX9_lays : yX9_lays.cls = RX9 ∧ yX9_lays.cls ≠ "java/lang/invoke/MethodHandle" ∧ yX9_lays.cls ≠ "java/lang/invoke/VarHandle" ∧ (parseMethodDescriptor yX9_lays.desc).map (fun d => d.parameters.length) = some 1 := by decide +kernel
theorem nyX9_order : yX9_order.cls = RX9 ∧ yX9_order.cls ≠ "java/lang/invoke/MethodHandle" ∧ yX9_order.cls ≠ "java/lang/invoke/VarHandle" ∧ (parseMethodDescriptor yX9_order.desc).map (fun d => d.parameters.length) = some 0 := by decide +kernel
set_option maxRecDepth 100000 in
set_option maxHeartbeats 4000000 in
theorem cX9_many {l : Launch} {D : va_G} {cI : ClassId} {ad : Nat → Nat} {sz : Nat} {σ : wx_Z} {K : Int32 → wx_Z → Prop} (h : wpX9_many σ K) : Met l yX9_many wsX9_many rmX9_many (wx_Pre D [(cI, .int)] wx_T0 14 (wM_E cI ad) ad σ sz [.ref (ad 0)]) (va_Qi K (wx_B D [(cI, .int)] 14 (wM_E cI ad) ad (va_A (wx_w 14 (wM_E cI ad) ad σ) sz)) (va_A (wx_w 14 (wM_E cI ad) ad σ) sz)) 0 0 (va_A (wx_w 14 (wM_E cI ad) ad σ) sz) := by
  unfold wpX9_many at h
  refine wx_meti (cc := cX9_many) (maxL := 1) (own := RX9) rfl (by decide) rfl (Nat.le_of_ble_eq_true rfl) wx_T0_ok ?_
  intro p e s m args below meth c A Q ls C Rt hP hD hS hl
  obtain ⟨⟨hx, hb, hml, hown, hts⟩, hA, hK, hRO, hro⟩ := id C
  have hl : lv_has ls 1 [(0, .ref (ad 0))] := hl
  obtain ⟨H, eH⟩ : ∃ z, z = s.heap := ⟨_, rfl⟩
  obtain ⟨locs, eL⟩ : ∃ z : List Loc, z = [] := ⟨_, rfl⟩
  rw [← eH] at hP
  have hS : va_S A s.heap H locs := by rw [eH, eL]; exact hS
  have goal : W p l e rmX9_many s m args below meth c H locs 0 0 Q (F0 m 0 ls []) := by
    refine lv_aload_n hx hb dX9_many_0 rfl (lv_at hl 0 rfl) ?_
    refine lv_aload_n hx hb dX9_many_1 rfl (lv_at hl 0 rfl) ?_
    refine wx_ci C hD hS (va_runV (As := []) (rest := [.ref (ad 0)]) C.1 (cX9_order (l := l) (D := D) (sz := H.size) h) (cwV 0 hts gX9_many_X9_order rfl rfl rfl nyX9_order ⟨Nat.le_of_ble_eq_true rfl, Nat.le_of_ble_eq_true rfl⟩) (wx_pv C hP hD hS (q := 0) (ci := 9) (Nat.le_of_ble_eq_true rfl) (eM_0 cI ad _) rfl) rfl rfl hl.1 rfl (lv_room (Nat.le_of_ble_eq_true rfl)) dX9_many_2 ⟨Nat.zero_le _, Nat.zero_le _⟩) (fun r2 σ2 H locs h hP hD hS => ?_)
    refine wx_cv C hD hS (va_runV (As := [.int r2]) (rest := []) C.1 (cX9_lays (l := l) (D := D) (sz := H.size) h) (cwV 1 hts gX9_many_X9_lays rfl rfl rfl nyX9_lays ⟨Nat.le_of_ble_eq_true rfl, Nat.le_of_ble_eq_true rfl⟩) (wx_pv C hP hD hS (q := 0) (ci := 9) (Nat.le_of_ble_eq_true rfl) (eM_0 cI ad _) rfl) rfl rfl hl.1 rfl (lv_room (Nat.le_of_ble_eq_true rfl)) dX9_many_5 ⟨Nat.zero_le _, Nat.zero_le _⟩) (fun σ5 H locs h hP hD hS => ?_)
    refine lv_aload_n hx hb dX9_many_8 rfl (lv_at hl 0 rfl) ?_
    refine wx_get C hP (q := 0) (ci := 9) (Nat.le_of_ble_eq_true rfl) (eM_0 cI ad _) (Cn := RX9) (T := TX9) (Nf := 27) rfl inX9_many_X9 5 (by decide) (List.mem_of_getElem? (i := 1) rfl) (v := .int (σ5 0 5)) rfl dX9_many_9 ?_
    exact Rt _ _ _ _ _ _ h hP hD hS dX9_many_12
  rw [eH, eL] at goal
  exact goal
abbrev rmX9_wordOf : Room := { frames := 3, cells := 0, slots := 0, locals := 80 }
set_option maxRecDepth 100000 in
set_option maxHeartbeats 4000000 in
theorem bX9_wordOf_4 {p : Program} {l : Launch} {e : Env} {s : State} {m : MethodId} {args : Array Value} {below : List Frame} {meth : Method} {c : Code} {A : Nat → Prop} {Q : State → Prop} {D : va_G} {cI : ClassId} {ad : Nat → Nat} {K : Int32 → wx_Z → Prop} (C : wx_C p s m args c cX9_wordOf 4 RX9 wsX9_wordOf D [(cI, .int)] wx_T0 A) (Rt : wx_Ri p l e rmX9_wordOf s m args below meth c cX9_wordOf D 14 (wM_E cI ad) ad A K Q) : ∀ (n : Nat) (σ : wx_Z) (x1 : Int32) (x2 : Int32) (x3 : Int32), wpX9_wordOf_4 K n σ x1 x2 x3 → ∀ (H : Heap) (locs : List Loc) (ls : Array Slot), va_P D vwCl (wx_w 14 (wM_E cI ad) ad σ) H → va_D A (wx_w 14 (wM_E cI ad) ad σ) → va_S A s.heap H locs → lv_has ls 4 [(0, .ref (ad 0)), (1, .int x1), (2, .int x2), (3, .int x3)] → W p l e rmX9_wordOf s m args below meth c H locs 0 0 Q (F0 m 4 ls []) := by
  obtain ⟨⟨hx, hb, hml, hown, hts⟩, hA, hK, hRO, hro⟩ := id C
  intro n
  induction n with
  | zero => intro σ x1 x2 x3 h; exact h.elim
  | succ n ih =>
    intro σ x1 x2 x3 h H locs ls hP hD hS hl
    unfold wpX9_wordOf_4 at h
    refine lv_iload_n hx hb dX9_wordOf_4 rfl (lv_at hl 3 rfl) ?_
    refine lv_aload_n hx hb dX9_wordOf_5 rfl (lv_at hl 0 rfl) ?_
    refine wx_ci C hD hS (va_runV (As := []) (rest := [.int x3]) C.1 (cX9_places (l := l) (D := D) (sz := H.size) h) (cwV 0 hts gX9_wordOf_X9_places rfl rfl rfl nyX9_places ⟨Nat.le_of_ble_eq_true rfl, Nat.le_of_ble_eq_true rfl⟩) (wx_pv C hP hD hS (q := 0) (ci := 9) (Nat.le_of_ble_eq_true rfl) (eM_0 cI ad _) rfl) rfl rfl hl.1 rfl (lv_room (Nat.le_of_ble_eq_true rfl)) dX9_wordOf_6 ⟨Nat.zero_le _, Nat.zero_le _⟩) (fun r6 σ6 H locs h hP hD hS => ?_)
    refine lv_icmp_ge (tgt := 35) hx hb dX9_wordOf_9 (by decide) (fun c9 => ?_) (fun c9 => ?_)
    · have h := h.1 c9
      refine lv_iload_n hx hb dX9_wordOf_35 rfl (lv_at hl 2 rfl) ?_
      exact Rt _ _ _ _ _ _ h hP hD hS dX9_wordOf_36
    · have h := h.2 c9
      refine lv_iload_n hx hb dX9_wordOf_12 rfl (lv_at hl 2 rfl) ?_
      refine lv_iload_n hx hb dX9_wordOf_13 rfl (lv_at hl 3 rfl) ?_
      refine lv_iload_n hx hb dX9_wordOf_14 rfl (lv_at hl 1 rfl) ?_
      refine lv_iand hx hb dX9_wordOf_15 ?_
      refine lv_iload_n hx hb dX9_wordOf_16 rfl (lv_at hl 1 rfl) ?_
      refine lv_icmp_ne (tgt := 26) hx hb dX9_wordOf_17 (by decide) (fun c17 => ?_) (fun c17 => ?_)
      · have h := h.1 c17
        refine lv_iconst (v := 0) hx hb dX9_wordOf_26 (by decide) ?_
        refine lv_ior hx hb dX9_wordOf_27 ?_
        refine lv_topi (fun t28 e_t28 => ?_)
        have h := h t28 e_t28
        refine lv_istore_n (lv' := [(2, .int t28), (0, .ref (ad 0)), (1, .int x1), (3, .int x3)]) hx hb dX9_wordOf_28 rfl hl (by decide) rfl (fun ls hl => ?_)
        obtain ⟨t29, e_t29⟩ : ∃ y : Int32, y = x3 + 1 := ⟨_, rfl⟩
        have h := h t29 e_t29
        refine lv_iinc (v := t29) (lv' := [(3, .int t29), (2, .int t28), (0, .ref (ad 0)), (1, .int x1)]) hx hb dX9_wordOf_29 hl (k := 3) rfl (by rw [e_t29]; rfl) (by decide) rfl (fun ls hl => ?_)
        refine lv_goto (tgt := 4) hx hb dX9_wordOf_32 (by decide) ?_
        exact ih σ6 x1 t28 t29  h _ _ _ hP hD hS (lv_sub hl [2, 3, 1, 0] rfl)
      · have h := h.2 c17
        refine lv_iconst (v := 1) hx hb dX9_wordOf_20 (by decide) ?_
        refine lv_iload_n hx hb dX9_wordOf_21 rfl (lv_at hl 3 rfl) ?_
        refine lv_ishl hx hb dX9_wordOf_22 ?_
        refine lv_goto (tgt := 27) hx hb dX9_wordOf_23 (by decide) ?_
        refine lv_ior hx hb dX9_wordOf_27 ?_
        refine lv_topi (fun t28_1 e_t28_1 => ?_)
        have h := h t28_1 e_t28_1
        refine lv_istore_n (lv' := [(2, .int t28_1), (0, .ref (ad 0)), (1, .int x1), (3, .int x3)]) hx hb dX9_wordOf_28 rfl hl (by decide) rfl (fun ls hl => ?_)
        obtain ⟨t29_1, e_t29_1⟩ : ∃ y : Int32, y = x3 + 1 := ⟨_, rfl⟩
        have h := h t29_1 e_t29_1
        refine lv_iinc (v := t29_1) (lv' := [(3, .int t29_1), (2, .int t28_1), (0, .ref (ad 0)), (1, .int x1)]) hx hb dX9_wordOf_29 hl (k := 3) rfl (by rw [e_t29_1]; rfl) (by decide) rfl (fun ls hl => ?_)
        refine lv_goto (tgt := 4) hx hb dX9_wordOf_32 (by decide) ?_
        exact ih σ6 x1 t28_1 t29_1  h _ _ _ hP hD hS (lv_sub hl [2, 3, 1, 0] rfl)
set_option maxRecDepth 100000 in
set_option maxHeartbeats 4000000 in
theorem cX9_wordOf {l : Launch} {D : va_G} {cI : ClassId} {ad : Nat → Nat} {sz : Nat} {σ : wx_Z} {x1 : Int32} {K : Int32 → wx_Z → Prop} (h : wpX9_wordOf σ x1 K) : Met l yX9_wordOf wsX9_wordOf rmX9_wordOf (wx_Pre D [(cI, .int)] wx_T0 14 (wM_E cI ad) ad σ sz [.ref (ad 0), .int x1]) (va_Qi K (wx_B D [(cI, .int)] 14 (wM_E cI ad) ad (va_A (wx_w 14 (wM_E cI ad) ad σ) sz)) (va_A (wx_w 14 (wM_E cI ad) ad σ) sz)) 0 0 (va_A (wx_w 14 (wM_E cI ad) ad σ) sz) := by
  unfold wpX9_wordOf at h
  refine wx_meti (cc := cX9_wordOf) (maxL := 4) (own := RX9) rfl (by decide) rfl (Nat.le_of_ble_eq_true rfl) wx_T0_ok ?_
  intro p e s m args below meth c A Q ls C Rt hP hD hS hl
  obtain ⟨⟨hx, hb, hml, hown, hts⟩, hA, hK, hRO, hro⟩ := id C
  have hl : lv_has ls 4 [(0, .ref (ad 0)), (1, .int x1)] := hl
  obtain ⟨H, eH⟩ : ∃ z, z = s.heap := ⟨_, rfl⟩
  obtain ⟨locs, eL⟩ : ∃ z : List Loc, z = [] := ⟨_, rfl⟩
  rw [← eH] at hP
  have hS : va_S A s.heap H locs := by rw [eH, eL]; exact hS
  have goal : W p l e rmX9_wordOf s m args below meth c H locs 0 0 Q (F0 m 0 ls []) := by
    refine lv_iconst (v := 0) hx hb dX9_wordOf_0 (by decide) ?_
    refine lv_istore_n (lv' := [(2, .int 0), (0, .ref (ad 0)), (1, .int x1)]) hx hb dX9_wordOf_1 rfl hl (by decide) rfl (fun ls hl => ?_)
    refine lv_iconst (v := 0) hx hb dX9_wordOf_2 (by decide) ?_
    refine lv_istore_n (lv' := [(3, .int 0), (2, .int 0), (0, .ref (ad 0)), (1, .int x1)]) hx hb dX9_wordOf_3 rfl hl (by decide) rfl (fun ls hl => ?_)
    obtain ⟨n4, h⟩ := h
    exact bX9_wordOf_4 C Rt n4 σ x1 0 0  h _ _ _ hP hD hS (lv_sub hl [2, 3, 1, 0] rfl)
  rw [eH, eL] at goal
  exact goal
abbrev rmX9_sumOf : Room := { frames := 4, cells := 0, slots := 0, locals := 103 }
set_option maxRecDepth 20000 in
theorem inX9_sumOf_X9 : ∀ w ∈ u_ws RX9 TX9 27, w ∈ wsX9_sumOf := by decide +kernel
theorem nyX9_has : yX9_has.cls = RX9 ∧ yX9_has.cls ≠ "java/lang/invoke/MethodHandle" ∧ yX9_has.cls ≠ "java/lang/invoke/VarHandle" ∧ (parseMethodDescriptor yX9_has.desc).map (fun d => d.parameters.length) = some 2 := by decide +kernel
theorem nyX9_wordOf : yX9_wordOf.cls = RX9 ∧ yX9_wordOf.cls ≠ "java/lang/invoke/MethodHandle" ∧ yX9_wordOf.cls ≠ "java/lang/invoke/VarHandle" ∧ (parseMethodDescriptor yX9_wordOf.desc).map (fun d => d.parameters.length) = some 1 := by decide +kernel
set_option maxRecDepth 100000 in
set_option maxHeartbeats 4000000 in
theorem bX9_sumOf_5 {p : Program} {l : Launch} {e : Env} {s : State} {m : MethodId} {args : Array Value} {below : List Frame} {meth : Method} {c : Code} {A : Nat → Prop} {Q : State → Prop} {D : va_G} {cI : ClassId} {ad : Nat → Nat} {K : Int32 → wx_Z → Prop} (C : wx_C p s m args c cX9_sumOf 5 RX9 wsX9_sumOf D [(cI, .int)] wx_T0 A) (Rt : wx_Ri p l e rmX9_sumOf s m args below meth c cX9_sumOf D 14 (wM_E cI ad) ad A K Q) : ∀ (n : Nat) (σ : wx_Z) (x1 : Int32) (x2 : Int32) (x3 : Int32) (x4 : Int32), wpX9_sumOf_5 K n σ x1 x2 x3 x4 → ∀ (H : Heap) (locs : List Loc) (ls : Array Slot), va_P D vwCl (wx_w 14 (wM_E cI ad) ad σ) H → va_D A (wx_w 14 (wM_E cI ad) ad σ) → va_S A s.heap H locs → lv_has ls 5 [(0, .ref (ad 0)), (1, .int x1), (2, .int x2), (3, .int x3), (4, .int x4)] → W p l e rmX9_sumOf s m args below meth c H locs 0 0 Q (F0 m 5 ls []) := by
  obtain ⟨⟨hx, hb, hml, hown, hts⟩, hA, hK, hRO, hro⟩ := id C
  intro n
  induction n with
  | zero => intro σ x1 x2 x3 x4 h; exact h.elim
  | succ n ih =>
    intro σ x1 x2 x3 x4 h H locs ls hP hD hS hl
    unfold wpX9_sumOf_5 at h
    refine lv_iload hx hb dX9_sumOf_5 (lv_at hl 4 rfl) ?_
    refine lv_iload_n hx hb dX9_sumOf_7 rfl (lv_at hl 2 rfl) ?_
    refine lv_icmp_ge (tgt := 44) hx hb dX9_sumOf_8 (by decide) (fun c8 => ?_) (fun c8 => ?_)
    · have h := h.1 c8
      refine lv_iload_n hx hb dX9_sumOf_44 rfl (lv_at hl 3 rfl) ?_
      exact Rt _ _ _ _ _ _ h hP hD hS dX9_sumOf_45
    · have h := h.2 c8
      refine lv_iload_n hx hb dX9_sumOf_11 rfl (lv_at hl 3 rfl) ?_
      refine lv_iload_n hx hb dX9_sumOf_12 rfl (lv_at hl 1 rfl) ?_
      refine lv_iload hx hb dX9_sumOf_13 (lv_at hl 4 rfl) ?_
      refine wx_ci C hD hS (va_runS (As := [.int x1, .int x4]) (rest := [.int x3]) C.1 (cX9_has (l := l) (D := D) (sz := H.size) h) (va_cwS 2 hts gX9_sumOf_X9_has rfl rfl rfl nyX9_has.2 ⟨Nat.le_of_ble_eq_true rfl, Nat.le_of_ble_eq_true rfl⟩) (wx_ps C hP hD hS) rfl rfl hl.1 rfl (lv_room (Nat.le_of_ble_eq_true rfl)) dX9_sumOf_15 ⟨Nat.zero_le _, Nat.zero_le _⟩) (fun r15 σ15 H locs h hP hD hS => ?_)
      refine lv_if_eq (tgt := 35) hx hb dX9_sumOf_18 (by decide) (fun c18 => ?_) (fun c18 => ?_)
      · have h := h.1 c18
        refine lv_iconst (v := 0) hx hb dX9_sumOf_35 (by decide) ?_
        refine lv_ixor hx hb dX9_sumOf_36 ?_
        refine lv_topi (fun t37 e_t37 => ?_)
        have h := h t37 e_t37
        refine lv_istore_n (lv' := [(3, .int t37), (0, .ref (ad 0)), (1, .int x1), (2, .int x2), (4, .int x4)]) hx hb dX9_sumOf_37 rfl hl (by decide) rfl (fun ls hl => ?_)
        obtain ⟨t38, e_t38⟩ : ∃ y : Int32, y = x4 + 1 := ⟨_, rfl⟩
        have h := h t38 e_t38
        refine lv_iinc (v := t38) (lv' := [(4, .int t38), (3, .int t37), (0, .ref (ad 0)), (1, .int x1), (2, .int x2)]) hx hb dX9_sumOf_38 hl (k := 4) rfl (by rw [e_t38]; rfl) (by decide) rfl (fun ls hl => ?_)
        refine lv_goto (tgt := 5) hx hb dX9_sumOf_41 (by decide) ?_
        exact ih σ15 x1 x2 t37 t38  h _ _ _ hP hD hS (lv_sub hl [2, 3, 4, 1, 0] rfl)
      · have h := h.2 c18
        refine lv_aload_n hx hb dX9_sumOf_21 rfl (lv_at hl 0 rfl) ?_
        refine lv_aload_n hx hb dX9_sumOf_22 rfl (lv_at hl 0 rfl) ?_
        refine wx_get C hP (q := 0) (ci := 9) (Nat.le_of_ble_eq_true rfl) (eM_0 cI ad _) (Cn := RX9) (T := TX9) (Nf := 27) rfl inX9_sumOf_X9 4 (by decide) (List.mem_of_getElem? (i := 1) rfl) (v := .ref (ad 4)) rfl dX9_sumOf_23 ?_
        refine lv_iload hx hb dX9_sumOf_26 (lv_at hl 4 rfl) ?_
        refine wx_ild C hP (q := 4) (Nat.le_of_ble_eq_true rfl) (fun _ => rfl) 0 rfl h.1 dX9_sumOf_28 ?_
        have h := h.2
        refine wx_ci C hD hS (va_runV (As := [.int (σ15 4 (Int32.toNatClampNeg x4))]) (rest := [.int x3]) C.1 (cX9_wordOf (l := l) (D := D) (sz := H.size) h) (cwV 1 hts gX9_sumOf_X9_wordOf rfl rfl rfl nyX9_wordOf ⟨Nat.le_of_ble_eq_true rfl, Nat.le_of_ble_eq_true rfl⟩) (wx_pv C hP hD hS (q := 0) (ci := 9) (Nat.le_of_ble_eq_true rfl) (eM_0 cI ad _) rfl) rfl rfl hl.1 rfl (lv_room (Nat.le_of_ble_eq_true rfl)) dX9_sumOf_29 ⟨Nat.zero_le _, Nat.zero_le _⟩) (fun r29 σ29 H locs h hP hD hS => ?_)
        refine lv_goto (tgt := 36) hx hb dX9_sumOf_32 (by decide) ?_
        refine lv_ixor hx hb dX9_sumOf_36 ?_
        refine lv_topi (fun t37_1 e_t37_1 => ?_)
        have h := h t37_1 e_t37_1
        refine lv_istore_n (lv' := [(3, .int t37_1), (0, .ref (ad 0)), (1, .int x1), (2, .int x2), (4, .int x4)]) hx hb dX9_sumOf_37 rfl hl (by decide) rfl (fun ls hl => ?_)
        obtain ⟨t38_1, e_t38_1⟩ : ∃ y : Int32, y = x4 + 1 := ⟨_, rfl⟩
        have h := h t38_1 e_t38_1
        refine lv_iinc (v := t38_1) (lv' := [(4, .int t38_1), (3, .int t37_1), (0, .ref (ad 0)), (1, .int x1), (2, .int x2)]) hx hb dX9_sumOf_38 hl (k := 4) rfl (by rw [e_t38_1]; rfl) (by decide) rfl (fun ls hl => ?_)
        refine lv_goto (tgt := 5) hx hb dX9_sumOf_41 (by decide) ?_
        exact ih σ29 x1 x2 t37_1 t38_1  h _ _ _ hP hD hS (lv_sub hl [2, 3, 4, 1, 0] rfl)
set_option maxRecDepth 100000 in
set_option maxHeartbeats 4000000 in
theorem cX9_sumOf {l : Launch} {D : va_G} {cI : ClassId} {ad : Nat → Nat} {sz : Nat} {σ : wx_Z} {x1 : Int32} {x2 : Int32} {K : Int32 → wx_Z → Prop} (h : wpX9_sumOf σ x1 x2 K) : Met l yX9_sumOf wsX9_sumOf rmX9_sumOf (wx_Pre D [(cI, .int)] wx_T0 14 (wM_E cI ad) ad σ sz [.ref (ad 0), .int x1, .int x2]) (va_Qi K (wx_B D [(cI, .int)] 14 (wM_E cI ad) ad (va_A (wx_w 14 (wM_E cI ad) ad σ) sz)) (va_A (wx_w 14 (wM_E cI ad) ad σ) sz)) 0 0 (va_A (wx_w 14 (wM_E cI ad) ad σ) sz) := by
  unfold wpX9_sumOf at h
  refine wx_meti (cc := cX9_sumOf) (maxL := 5) (own := RX9) rfl (by decide) rfl (Nat.le_of_ble_eq_true rfl) wx_T0_ok ?_
  intro p e s m args below meth c A Q ls C Rt hP hD hS hl
  obtain ⟨⟨hx, hb, hml, hown, hts⟩, hA, hK, hRO, hro⟩ := id C
  have hl : lv_has ls 5 [(0, .ref (ad 0)), (1, .int x1), (2, .int x2)] := hl
  obtain ⟨H, eH⟩ : ∃ z, z = s.heap := ⟨_, rfl⟩
  obtain ⟨locs, eL⟩ : ∃ z : List Loc, z = [] := ⟨_, rfl⟩
  rw [← eH] at hP
  have hS : va_S A s.heap H locs := by rw [eH, eL]; exact hS
  have goal : W p l e rmX9_sumOf s m args below meth c H locs 0 0 Q (F0 m 0 ls []) := by
    refine lv_iconst (v := 0) hx hb dX9_sumOf_0 (by decide) ?_
    refine lv_istore_n (lv' := [(3, .int 0), (0, .ref (ad 0)), (1, .int x1), (2, .int x2)]) hx hb dX9_sumOf_1 rfl hl (by decide) rfl (fun ls hl => ?_)
    refine lv_iconst (v := 0) hx hb dX9_sumOf_2 (by decide) ?_
    refine lv_istore (lv' := [(4, .int 0), (3, .int 0), (0, .ref (ad 0)), (1, .int x1), (2, .int x2)]) hx hb dX9_sumOf_3 hl (by decide) rfl (fun ls hl => ?_)
    obtain ⟨n5, h⟩ := h
    exact bX9_sumOf_5 C Rt n5 σ x1 x2 0 0  h _ _ _ hP hD hS (lv_sub hl [2, 3, 4, 1, 0] rfl)
  rw [eH, eL] at goal
  exact goal
abbrev rmX9_isCode : Room := { frames := 2, cells := 0, slots := 0, locals := 65 }
theorem nyX9_in : yX9_in.cls = RX9 ∧ yX9_in.cls ≠ "java/lang/invoke/MethodHandle" ∧ yX9_in.cls ≠ "java/lang/invoke/VarHandle" ∧ (parseMethodDescriptor yX9_in.desc).map (fun d => d.parameters.length) = some 3 := by decide +kernel
set_option maxRecDepth 100000 in
set_option maxHeartbeats 4000000 in
theorem cX9_isCode {l : Launch} {D : va_G} {cI : ClassId} {ad : Nat → Nat} {sz : Nat} {σ : wx_Z} {x1 : Int32} {x2 : Int32} {K : Int32 → wx_Z → Prop} (h : wpX9_isCode σ x1 x2 K) : Met l yX9_isCode wsX9_isCode rmX9_isCode (wx_Pre D [(cI, .int)] wx_T0 14 (wM_E cI ad) ad σ sz [.ref (ad 0), .int x1, .int x2]) (va_Qi K (wx_B D [(cI, .int)] 14 (wM_E cI ad) ad (va_A (wx_w 14 (wM_E cI ad) ad σ) sz)) (va_A (wx_w 14 (wM_E cI ad) ad σ) sz)) 0 0 (va_A (wx_w 14 (wM_E cI ad) ad σ) sz) := by
  unfold wpX9_isCode at h
  refine wx_metz (cc := cX9_isCode) (maxL := 3) (own := RX9) rfl (by decide) rfl (Nat.le_of_ble_eq_true rfl) wx_T0_ok ?_
  intro p e s m args below meth c A Q ls C Rt hP hD hS hl
  obtain ⟨⟨hx, hb, hml, hown, hts⟩, hA, hK, hRO, hro⟩ := id C
  have hl : lv_has ls 3 [(0, .ref (ad 0)), (1, .int x1), (2, .int x2)] := hl
  obtain ⟨H, eH⟩ : ∃ z, z = s.heap := ⟨_, rfl⟩
  obtain ⟨locs, eL⟩ : ∃ z : List Loc, z = [] := ⟨_, rfl⟩
  rw [← eH] at hP
  have hS : va_S A s.heap H locs := by rw [eH, eL]; exact hS
  have goal : W p l e rmX9_isCode s m args below meth c H locs 0 0 Q (F0 m 0 ls []) := by
    refine lv_iload_n hx hb dX9_isCode_0 rfl (lv_at hl 2 rfl) ?_
    refine lv_i2l (v := Int32.toInt64 x2) hx hb dX9_isCode_1 rfl ?_
    refine lv_lconst (v := 0) hx hb dX9_isCode_2 (by decide) ?_
    refine lv_ldc2 hx hb hown (hts _ (List.mem_of_getElem? (i := 1) rfl)) dX9_isCode_3 ?_
    refine wx_ci C hD hS (va_runS (As := [.long (Int32.toInt64 x2), .long 0, .long 5]) (rest := []) C.1 (cX9_in (l := l) (D := D) (sz := H.size) h) (va_cwS 3 hts gX9_isCode_X9_in rfl rfl rfl nyX9_in.2 ⟨Nat.le_of_ble_eq_true rfl, Nat.le_of_ble_eq_true rfl⟩) (wx_ps C hP hD hS) rfl rfl hl.1 rfl (lv_room (Nat.le_of_ble_eq_true rfl)) dX9_isCode_6 ⟨Nat.zero_le _, Nat.zero_le _⟩) (fun r6 σ6 H locs h hP hD hS => ?_)
    refine lv_if_eq (tgt := 27) hx hb dX9_isCode_9 (by decide) (fun c9 => ?_) (fun c9 => ?_)
    · have h := h.1 c9
      refine lv_iconst (v := 0) hx hb dX9_isCode_27 (by decide) ?_
      exact Rt _ _ _ _ _ _ rfl h hP hD hS dX9_isCode_28
    · have h := h.2 c9
      refine lv_iload_n hx hb dX9_isCode_12 rfl (lv_at hl 1 rfl) ?_
      refine lv_i2l (v := Int32.toInt64 x1) hx hb dX9_isCode_13 rfl ?_
      refine lv_lconst (v := 0) hx hb dX9_isCode_14 (by decide) ?_
      refine lv_iload_n hx hb dX9_isCode_15 rfl (lv_at hl 2 rfl) ?_
      refine lv_i2l (v := Int32.toInt64 x2) hx hb dX9_isCode_16 rfl ?_
      refine wx_ci C hD hS (va_runS (As := [.long (Int32.toInt64 x1), .long 0, .long (Int32.toInt64 x2)]) (rest := []) C.1 (cX9_in (l := l) (D := D) (sz := H.size) h) (va_cwS 3 hts gX9_isCode_X9_in rfl rfl rfl nyX9_in.2 ⟨Nat.le_of_ble_eq_true rfl, Nat.le_of_ble_eq_true rfl⟩) (wx_ps C hP hD hS) rfl rfl hl.1 rfl (lv_room (Nat.le_of_ble_eq_true rfl)) dX9_isCode_17 ⟨Nat.zero_le _, Nat.zero_le _⟩) (fun r17 σ17 H locs h hP hD hS => ?_)
      refine lv_if_eq (tgt := 27) hx hb dX9_isCode_20 (by decide) (fun c20 => ?_) (fun c20 => ?_)
      · have h := h.1 c20
        refine lv_iconst (v := 0) hx hb dX9_isCode_27 (by decide) ?_
        exact Rt _ _ _ _ _ _ rfl h hP hD hS dX9_isCode_28
      · have h := h.2 c20
        refine lv_iconst (v := 1) hx hb dX9_isCode_23 (by decide) ?_
        refine lv_goto (tgt := 28) hx hb dX9_isCode_24 (by decide) ?_
        exact Rt _ _ _ _ _ _ rfl h hP hD hS dX9_isCode_28
  rw [eH, eL] at goal
  exact goal
abbrev rmX9_becomesCode : Room := { frames := 1, cells := 0, slots := 0, locals := 40 }
set_option maxRecDepth 20000 in
theorem inX9_becomesCode_X9 : ∀ w ∈ u_ws RX9 TX9 27, w ∈ wsX9_becomesCode := by decide +kernel
set_option maxRecDepth 100000 in
set_option maxHeartbeats 4000000 in
theorem bX9_becomesCode_2 {p : Program} {l : Launch} {e : Env} {s : State} {m : MethodId} {args : Array Value} {below : List Frame} {meth : Method} {c : Code} {A : Nat → Prop} {Q : State → Prop} {D : va_G} {cI : ClassId} {ad : Nat → Nat} {K : wx_Z → Prop} (C : wx_C p s m args c cX9_becomesCode 4 RX9 wsX9_becomesCode D [(cI, .int)] wx_T0 A) (Rt : wx_Rv p l e rmX9_becomesCode s m args below meth c cX9_becomesCode D 14 (wM_E cI ad) ad A K Q) : ∀ (n : Nat) (σ : wx_Z) (x1 : Int32) (x2 : Int32) (x3 : Int32), wpX9_becomesCode_2 K n σ x1 x2 x3 → ∀ (H : Heap) (locs : List Loc) (ls : Array Slot), va_P D vwCl (wx_w 14 (wM_E cI ad) ad σ) H → va_D A (wx_w 14 (wM_E cI ad) ad σ) → va_S A s.heap H locs → lv_has ls 4 [(0, .ref (ad 0)), (1, .int x1), (2, .int x2), (3, .int x3)] → W p l e rmX9_becomesCode s m args below meth c H locs 0 0 Q (F0 m 2 ls []) := by
  obtain ⟨⟨hx, hb, hml, hown, hts⟩, hA, hK, hRO, hro⟩ := id C
  intro n
  induction n with
  | zero => intro σ x1 x2 x3 h; exact h.elim
  | succ n ih =>
    intro σ x1 x2 x3 h H locs ls hP hD hS hl
    unfold wpX9_becomesCode_2 at h
    refine lv_iload_n hx hb dX9_becomesCode_2 rfl (lv_at hl 3 rfl) ?_
    refine lv_bipush (v := 35) hx hb dX9_becomesCode_3 (by decide) ?_
    refine lv_icmp_ge (tgt := 21) hx hb dX9_becomesCode_5 (by decide) (fun c5 => ?_) (fun c5 => ?_)
    · have h := h.1 c5
      refine lv_aload_n hx hb dX9_becomesCode_21 rfl (lv_at hl 0 rfl) ?_
      refine wx_get C hP (q := 0) (ci := 9) (Nat.le_of_ble_eq_true rfl) (eM_0 cI ad _) (Cn := RX9) (T := TX9) (Nf := 27) rfl inX9_becomesCode_X9 0 (by decide) (List.mem_of_getElem? (i := 1) rfl) (v := .ref (ad 1)) rfl dX9_becomesCode_22 ?_
      refine lv_iconst (v := 0) hx hb dX9_becomesCode_25 (by decide) ?_
      refine lv_iload_n hx hb dX9_becomesCode_26 rfl (lv_at hl 1 rfl) ?_
      refine wx_ist C hP hD hS (q := 1) (Nat.le_of_ble_eq_true rfl) (fun _ => rfl) 0 rfl h.1 dX9_becomesCode_27 (fun H locs hP hD hS => ?_)
      generalize e_σ27 : wx_up σ 1 (Int32.toNatClampNeg 0) x1 = σ27 at hP hD
      have h := h.2 σ27 e_σ27.symm
      refine lv_aload_n hx hb dX9_becomesCode_28 rfl (lv_at hl 0 rfl) ?_
      refine wx_get C hP (q := 0) (ci := 9) (Nat.le_of_ble_eq_true rfl) (eM_0 cI ad _) (Cn := RX9) (T := TX9) (Nf := 27) rfl inX9_becomesCode_X9 0 (by decide) (List.mem_of_getElem? (i := 1) rfl) (v := .ref (ad 1)) rfl dX9_becomesCode_29 ?_
      refine lv_iconst (v := 1) hx hb dX9_becomesCode_32 (by decide) ?_
      refine lv_iload_n hx hb dX9_becomesCode_33 rfl (lv_at hl 2 rfl) ?_
      refine wx_ist C hP hD hS (q := 1) (Nat.le_of_ble_eq_true rfl) (fun _ => rfl) 0 rfl h.1 dX9_becomesCode_34 (fun H locs hP hD hS => ?_)
      generalize e_σ34 : wx_up σ27 1 (Int32.toNatClampNeg 1) x2 = σ34 at hP hD
      have h := h.2 σ34 e_σ34.symm
      exact Rt _ _ _ _ _ h hP hD hS dX9_becomesCode_35
    · have h := h.2 c5
      refine lv_aload_n hx hb dX9_becomesCode_8 rfl (lv_at hl 0 rfl) ?_
      refine wx_get C hP (q := 0) (ci := 9) (Nat.le_of_ble_eq_true rfl) (eM_0 cI ad _) (Cn := RX9) (T := TX9) (Nf := 27) rfl inX9_becomesCode_X9 0 (by decide) (List.mem_of_getElem? (i := 1) rfl) (v := .ref (ad 1)) rfl dX9_becomesCode_9 ?_
      refine lv_iload_n hx hb dX9_becomesCode_12 rfl (lv_at hl 3 rfl) ?_
      refine lv_iconst (v := 0) hx hb dX9_becomesCode_13 (by decide) ?_
      refine wx_ist C hP hD hS (q := 1) (Nat.le_of_ble_eq_true rfl) (fun _ => rfl) 0 rfl h.1 dX9_becomesCode_14 (fun H locs hP hD hS => ?_)
      generalize e_σ14 : wx_up σ 1 (Int32.toNatClampNeg x3) 0 = σ14 at hP hD
      have h := h.2 σ14 e_σ14.symm
      obtain ⟨t15, e_t15⟩ : ∃ y : Int32, y = x3 + 1 := ⟨_, rfl⟩
      have h := h t15 e_t15
      refine lv_iinc (v := t15) (lv' := [(3, .int t15), (0, .ref (ad 0)), (1, .int x1), (2, .int x2)]) hx hb dX9_becomesCode_15 hl (k := 3) rfl (by rw [e_t15]; rfl) (by decide) rfl (fun ls hl => ?_)
      refine lv_goto (tgt := 2) hx hb dX9_becomesCode_18 (by decide) ?_
      exact ih σ14 x1 x2 t15  h _ _ _ hP hD hS (lv_sub hl [1, 2, 3, 0] rfl)
set_option maxRecDepth 100000 in
set_option maxHeartbeats 4000000 in
theorem cX9_becomesCode {l : Launch} {D : va_G} {cI : ClassId} {ad : Nat → Nat} {sz : Nat} {σ : wx_Z} {x1 : Int32} {x2 : Int32} {K : wx_Z → Prop} (h : wpX9_becomesCode σ x1 x2 K) : Met l yX9_becomesCode wsX9_becomesCode rmX9_becomesCode (wx_Pre D [(cI, .int)] wx_T0 14 (wM_E cI ad) ad σ sz [.ref (ad 0), .int x1, .int x2]) (va_Qv K (wx_B D [(cI, .int)] 14 (wM_E cI ad) ad (va_A (wx_w 14 (wM_E cI ad) ad σ) sz)) (va_A (wx_w 14 (wM_E cI ad) ad σ) sz)) 0 0 (va_A (wx_w 14 (wM_E cI ad) ad σ) sz) := by
  unfold wpX9_becomesCode at h
  refine wx_metv (cc := cX9_becomesCode) (maxL := 4) (own := RX9) rfl (by decide) rfl (Nat.le_of_ble_eq_true rfl) wx_T0_ok ?_
  intro p e s m args below meth c A Q ls C Rt hP hD hS hl
  obtain ⟨⟨hx, hb, hml, hown, hts⟩, hA, hK, hRO, hro⟩ := id C
  have hl : lv_has ls 4 [(0, .ref (ad 0)), (1, .int x1), (2, .int x2)] := hl
  obtain ⟨H, eH⟩ : ∃ z, z = s.heap := ⟨_, rfl⟩
  obtain ⟨locs, eL⟩ : ∃ z : List Loc, z = [] := ⟨_, rfl⟩
  rw [← eH] at hP
  have hS : va_S A s.heap H locs := by rw [eH, eL]; exact hS
  have goal : W p l e rmX9_becomesCode s m args below meth c H locs 0 0 Q (F0 m 0 ls []) := by
    refine lv_iconst (v := 0) hx hb dX9_becomesCode_0 (by decide) ?_
    refine lv_istore_n (lv' := [(3, .int 0), (0, .ref (ad 0)), (1, .int x1), (2, .int x2)]) hx hb dX9_becomesCode_1 rfl hl (by decide) rfl (fun ls hl => ?_)
    obtain ⟨n2, h⟩ := h
    exact bX9_becomesCode_2 C Rt n2 σ x1 x2 0  h _ _ _ hP hD hS (lv_sub hl [1, 2, 3, 0] rfl)
  rw [eH, eL] at goal
  exact goal
abbrev rmX9_code : Room := { frames := 5, cells := 0, slots := 0, locals := 123 }
theorem nyX9_bad : yX9_bad.cls = RX9 ∧ yX9_bad.cls ≠ "java/lang/invoke/MethodHandle" ∧ yX9_bad.cls ≠ "java/lang/invoke/VarHandle" ∧ (parseMethodDescriptor yX9_bad.desc).map (fun d => d.parameters.length) = some 1 := by decide +kernel
theorem nyX9_becomesCode : yX9_becomesCode.cls = RX9 ∧ yX9_becomesCode.cls ≠ "java/lang/invoke/MethodHandle" ∧ yX9_becomesCode.cls ≠ "java/lang/invoke/VarHandle" ∧ (parseMethodDescriptor yX9_becomesCode.desc).map (fun d => d.parameters.length) = some 2 := by decide +kernel
theorem nyX9_isCode : yX9_isCode.cls = RX9 ∧ yX9_isCode.cls ≠ "java/lang/invoke/MethodHandle" ∧ yX9_isCode.cls ≠ "java/lang/invoke/VarHandle" ∧ (parseMethodDescriptor yX9_isCode.desc).map (fun d => d.parameters.length) = some 2 := by decide +kernel
theorem nyX9_keep : yX9_keep.cls = RX9 ∧ yX9_keep.cls ≠ "java/lang/invoke/MethodHandle" ∧ yX9_keep.cls ≠ "java/lang/invoke/VarHandle" ∧ (parseMethodDescriptor yX9_keep.desc).map (fun d => d.parameters.length) = some 0 := by decide +kernel
theorem nyX9_many : yX9_many.cls = RX9 ∧ yX9_many.cls ≠ "java/lang/invoke/MethodHandle" ∧ yX9_many.cls ≠ "java/lang/invoke/VarHandle" ∧ (parseMethodDescriptor yX9_many.desc).map (fun d => d.parameters.length) = some 0 := by decide +kernel
set_option maxRecDepth 100000 in
set_option maxHeartbeats 4000000 in
theorem cX9_code {l : Launch} {D : va_G} {cI : ClassId} {ad : Nat → Nat} {sz : Nat} {σ : wx_Z} {x1 : Int32} {x2 : Int32} {K : Int32 → wx_Z → Prop} (h : wpX9_code σ x1 x2 K) : Met l yX9_code wsX9_code rmX9_code (wx_Pre D [(cI, .int)] wx_T0 14 (wM_E cI ad) ad σ sz [.ref (ad 0), .int x1, .int x2]) (va_Qi K (wx_B D [(cI, .int)] 14 (wM_E cI ad) ad (va_A (wx_w 14 (wM_E cI ad) ad σ) sz)) (va_A (wx_w 14 (wM_E cI ad) ad σ) sz)) 0 0 (va_A (wx_w 14 (wM_E cI ad) ad σ) sz) := by
  unfold wpX9_code at h
  refine wx_meti (cc := cX9_code) (maxL := 3) (own := RX9) rfl (by decide) rfl (Nat.le_of_ble_eq_true rfl) wx_T0_ok ?_
  intro p e s m args below meth c A Q ls C Rt hP hD hS hl
  obtain ⟨⟨hx, hb, hml, hown, hts⟩, hA, hK, hRO, hro⟩ := id C
  have hl : lv_has ls 3 [(0, .ref (ad 0)), (1, .int x1), (2, .int x2)] := hl
  obtain ⟨H, eH⟩ : ∃ z, z = s.heap := ⟨_, rfl⟩
  obtain ⟨locs, eL⟩ : ∃ z : List Loc, z = [] := ⟨_, rfl⟩
  rw [← eH] at hP
  have hS : va_S A s.heap H locs := by rw [eH, eL]; exact hS
  have goal : W p l e rmX9_code s m args below meth c H locs 0 0 Q (F0 m 0 ls []) := by
    refine lv_aload_n hx hb dX9_code_0 rfl (lv_at hl 0 rfl) ?_
    refine lv_iload_n hx hb dX9_code_1 rfl (lv_at hl 1 rfl) ?_
    refine lv_iload_n hx hb dX9_code_2 rfl (lv_at hl 2 rfl) ?_
    refine wx_ci C hD hS (va_runV (As := [.int x1, .int x2]) (rest := []) C.1 (cX9_isCode (l := l) (D := D) (sz := H.size) h) (cwV 2 hts gX9_code_X9_isCode rfl rfl rfl nyX9_isCode ⟨Nat.le_of_ble_eq_true rfl, Nat.le_of_ble_eq_true rfl⟩) (wx_pv C hP hD hS (q := 0) (ci := 9) (Nat.le_of_ble_eq_true rfl) (eM_0 cI ad _) rfl) rfl rfl hl.1 rfl (lv_room (Nat.le_of_ble_eq_true rfl)) dX9_code_3 ⟨Nat.zero_le _, Nat.zero_le _⟩) (fun r3 σ3 H locs h hP hD hS => ?_)
    refine lv_if_ne (tgt := 16) hx hb dX9_code_6 (by decide) (fun c6 => ?_) (fun c6 => ?_)
    · have h := h.1 c6
      refine lv_aload_n hx hb dX9_code_16 rfl (lv_at hl 0 rfl) ?_
      refine wx_cv C hD hS (va_runV (As := []) (rest := []) C.1 (cX9_keep (l := l) (D := D) (sz := H.size) h) (cwV 0 hts gX9_code_X9_keep rfl rfl rfl nyX9_keep ⟨Nat.le_of_ble_eq_true rfl, Nat.le_of_ble_eq_true rfl⟩) (wx_pv C hP hD hS (q := 0) (ci := 9) (Nat.le_of_ble_eq_true rfl) (eM_0 cI ad _) rfl) rfl rfl hl.1 rfl (lv_room (Nat.le_of_ble_eq_true rfl)) dX9_code_17 ⟨Nat.zero_le _, Nat.zero_le _⟩) (fun σ17 H locs h hP hD hS => ?_)
      refine lv_aload_n hx hb dX9_code_20 rfl (lv_at hl 0 rfl) ?_
      refine lv_iload_n hx hb dX9_code_21 rfl (lv_at hl 1 rfl) ?_
      refine lv_iload_n hx hb dX9_code_22 rfl (lv_at hl 2 rfl) ?_
      refine wx_cv C hD hS (va_runV (As := [.int x1, .int x2]) (rest := []) C.1 (cX9_becomesCode (l := l) (D := D) (sz := H.size) h) (cwV 2 hts gX9_code_X9_becomesCode rfl rfl rfl nyX9_becomesCode ⟨Nat.le_of_ble_eq_true rfl, Nat.le_of_ble_eq_true rfl⟩) (wx_pv C hP hD hS (q := 0) (ci := 9) (Nat.le_of_ble_eq_true rfl) (eM_0 cI ad _) rfl) rfl rfl hl.1 rfl (lv_room (Nat.le_of_ble_eq_true rfl)) dX9_code_23 ⟨Nat.zero_le _, Nat.zero_le _⟩) (fun σ23 H locs h hP hD hS => ?_)
      refine lv_aload_n hx hb dX9_code_26 rfl (lv_at hl 0 rfl) ?_
      refine wx_ci C hD hS (va_runV (As := []) (rest := []) C.1 (cX9_many (l := l) (D := D) (sz := H.size) h) (cwV 0 hts gX9_code_X9_many rfl rfl rfl nyX9_many ⟨Nat.le_of_ble_eq_true rfl, Nat.le_of_ble_eq_true rfl⟩) (wx_pv C hP hD hS (q := 0) (ci := 9) (Nat.le_of_ble_eq_true rfl) (eM_0 cI ad _) rfl) rfl rfl hl.1 rfl (lv_room (Nat.le_of_ble_eq_true rfl)) dX9_code_27 ⟨Nat.zero_le _, Nat.zero_le _⟩) (fun r27 σ27 H locs h hP hD hS => ?_)
      exact Rt _ _ _ _ _ _ h hP hD hS dX9_code_30
    · have h := h.2 c6
      refine lv_aload_n hx hb dX9_code_9 rfl (lv_at hl 0 rfl) ?_
      refine lv_bipush (v := (-2)) hx hb dX9_code_10 (by decide) ?_
      refine wx_ci C hD hS (va_runV (As := [.int (-2)]) (rest := []) C.1 (cX9_bad (l := l) (D := D) (sz := H.size) h) (cwV 1 hts gX9_code_X9_bad rfl rfl rfl nyX9_bad ⟨Nat.le_of_ble_eq_true rfl, Nat.le_of_ble_eq_true rfl⟩) (wx_pv C hP hD hS (q := 0) (ci := 9) (Nat.le_of_ble_eq_true rfl) (eM_0 cI ad _) rfl) rfl rfl hl.1 rfl (lv_room (Nat.le_of_ble_eq_true rfl)) dX9_code_12 ⟨Nat.zero_le _, Nat.zero_le _⟩) (fun r12 σ12 H locs h hP hD hS => ?_)
      exact Rt _ _ _ _ _ _ h hP hD hS dX9_code_15
  rw [eH, eL] at goal
  exact goal
abbrev rmX9_distance : Room := { frames := 2, cells := 0, slots := 0, locals := 60 }
set_option maxRecDepth 100000 in
set_option maxHeartbeats 4000000 in
theorem cX9_distance {l : Launch} {D : va_G} {cI : ClassId} {ad : Nat → Nat} {sz : Nat} {σ : wx_Z} {K : Int32 → wx_Z → Prop} (h : wpX9_distance σ K) : Met l yX9_distance wsX9_distance rmX9_distance (wx_Pre D [(cI, .int)] wx_T0 14 (wM_E cI ad) ad σ sz [.ref (ad 0)]) (va_Qi K (wx_B D [(cI, .int)] 14 (wM_E cI ad) ad (va_A (wx_w 14 (wM_E cI ad) ad σ) sz)) (va_A (wx_w 14 (wM_E cI ad) ad σ) sz)) 0 0 (va_A (wx_w 14 (wM_E cI ad) ad σ) sz) := by
  unfold wpX9_distance at h
  refine wx_meti (cc := cX9_distance) (maxL := 1) (own := RX9) rfl (by decide) rfl (Nat.le_of_ble_eq_true rfl) wx_T0_ok ?_
  intro p e s m args below meth c A Q ls C Rt hP hD hS hl
  obtain ⟨⟨hx, hb, hml, hown, hts⟩, hA, hK, hRO, hro⟩ := id C
  have hl : lv_has ls 1 [(0, .ref (ad 0))] := hl
  obtain ⟨H, eH⟩ : ∃ z, z = s.heap := ⟨_, rfl⟩
  obtain ⟨locs, eL⟩ : ∃ z : List Loc, z = [] := ⟨_, rfl⟩
  rw [← eH] at hP
  have hS : va_S A s.heap H locs := by rw [eH, eL]; exact hS
  have goal : W p l e rmX9_distance s m args below meth c H locs 0 0 Q (F0 m 0 ls []) := by
    refine lv_iconst (v := 1) hx hb dX9_distance_0 (by decide) ?_
    refine lv_aload_n hx hb dX9_distance_1 rfl (lv_at hl 0 rfl) ?_
    refine wx_ci C hD hS (va_runV (As := []) (rest := [.int 1]) C.1 (cX9_length (l := l) (D := D) (sz := H.size) h) (cwV 0 hts gX9_distance_X9_length rfl rfl rfl nyX9_length ⟨Nat.le_of_ble_eq_true rfl, Nat.le_of_ble_eq_true rfl⟩) (wx_pv C hP hD hS (q := 0) (ci := 9) (Nat.le_of_ble_eq_true rfl) (eM_0 cI ad _) rfl) rfl rfl hl.1 rfl (lv_room (Nat.le_of_ble_eq_true rfl)) dX9_distance_2 ⟨Nat.zero_le _, Nat.zero_le _⟩) (fun r2 σ2 H locs h hP hD hS => ?_)
    refine lv_aload_n hx hb dX9_distance_5 rfl (lv_at hl 0 rfl) ?_
    refine wx_ci C hD hS (va_runV (As := []) (rest := [.int r2, .int 1]) C.1 (cX9_order (l := l) (D := D) (sz := H.size) h) (cwV 0 hts gX9_distance_X9_order rfl rfl rfl nyX9_order ⟨Nat.le_of_ble_eq_true rfl, Nat.le_of_ble_eq_true rfl⟩) (wx_pv C hP hD hS (q := 0) (ci := 9) (Nat.le_of_ble_eq_true rfl) (eM_0 cI ad _) rfl) rfl rfl hl.1 rfl (lv_room (Nat.le_of_ble_eq_true rfl)) dX9_distance_6 ⟨Nat.zero_le _, Nat.zero_le _⟩) (fun r6 σ6 H locs h hP hD hS => ?_)
    refine lv_isub hx hb dX9_distance_9 ?_
    refine lv_ishl hx hb dX9_distance_10 ?_
    exact Rt _ _ _ _ _ _ h hP hD hS dX9_distance_11
  rw [eH, eL] at goal
  exact goal
abbrev rmX9_of : Room := { frames := 5, cells := 0, slots := 0, locals := 123 }
theorem nyX9_distance : yX9_distance.cls = RX9 ∧ yX9_distance.cls ≠ "java/lang/invoke/MethodHandle" ∧ yX9_distance.cls ≠ "java/lang/invoke/VarHandle" ∧ (parseMethodDescriptor yX9_distance.desc).map (fun d => d.parameters.length) = some 0 := by decide +kernel
set_option maxRecDepth 100000 in
set_option maxHeartbeats 4000000 in
theorem cX9_of {l : Launch} {D : va_G} {cI : ClassId} {ad : Nat → Nat} {sz : Nat} {σ : wx_Z} {x1 : Int32} {K : Int32 → wx_Z → Prop} (h : wpX9_of σ x1 K) : Met l yX9_of wsX9_of rmX9_of (wx_Pre D [(cI, .int)] wx_T0 14 (wM_E cI ad) ad σ sz [.ref (ad 0), .int x1]) (va_Qi K (wx_B D [(cI, .int)] 14 (wM_E cI ad) ad (va_A (wx_w 14 (wM_E cI ad) ad σ) sz)) (va_A (wx_w 14 (wM_E cI ad) ad σ) sz)) 0 0 (va_A (wx_w 14 (wM_E cI ad) ad σ) sz) := by
  unfold wpX9_of at h
  refine wx_meti (cc := cX9_of) (maxL := 2) (own := RX9) rfl (by decide) rfl (Nat.le_of_ble_eq_true rfl) wx_T0_ok ?_
  intro p e s m args below meth c A Q ls C Rt hP hD hS hl
  obtain ⟨⟨hx, hb, hml, hown, hts⟩, hA, hK, hRO, hro⟩ := id C
  have hl : lv_has ls 2 [(0, .ref (ad 0)), (1, .int x1)] := hl
  obtain ⟨H, eH⟩ : ∃ z, z = s.heap := ⟨_, rfl⟩
  obtain ⟨locs, eL⟩ : ∃ z : List Loc, z = [] := ⟨_, rfl⟩
  rw [← eH] at hP
  have hS : va_S A s.heap H locs := by rw [eH, eL]; exact hS
  have goal : W p l e rmX9_of s m args below meth c H locs 0 0 Q (F0 m 0 ls []) := by
    refine lv_iload_n hx hb dX9_of_0 rfl (lv_at hl 1 rfl) ?_
    refine lv_i2l (v := Int32.toInt64 x1) hx hb dX9_of_1 rfl ?_
    refine lv_lconst (v := 0) hx hb dX9_of_2 (by decide) ?_
    refine lv_ldc2 hx hb hown (hts _ (List.mem_of_getElem? (i := 1) rfl)) dX9_of_3 ?_
    refine wx_ci C hD hS (va_runS (As := [.long (Int32.toInt64 x1), .long 0, .long 5]) (rest := []) C.1 (cX9_in (l := l) (D := D) (sz := H.size) h) (va_cwS 3 hts gX9_of_X9_in rfl rfl rfl nyX9_in.2 ⟨Nat.le_of_ble_eq_true rfl, Nat.le_of_ble_eq_true rfl⟩) (wx_ps C hP hD hS) rfl rfl hl.1 rfl (lv_room (Nat.le_of_ble_eq_true rfl)) dX9_of_6 ⟨Nat.zero_le _, Nat.zero_le _⟩) (fun r6 σ6 H locs h hP hD hS => ?_)
    refine lv_if_ne (tgt := 19) hx hb dX9_of_9 (by decide) (fun c9 => ?_) (fun c9 => ?_)
    · have h := h.1 c9
      refine lv_iload_n hx hb dX9_of_19 rfl (lv_at hl 1 rfl) ?_
      refine lv_if_ne (tgt := 30) hx hb dX9_of_20 (by decide) (fun c20 => ?_) (fun c20 => ?_)
      · have h := h.1 c20
        refine lv_iload_n hx hb dX9_of_30 rfl (lv_at hl 1 rfl) ?_
        refine lv_iconst (v := 1) hx hb dX9_of_31 (by decide) ?_
        refine lv_icmp_ne (tgt := 42) hx hb dX9_of_32 (by decide) (fun c32 => ?_) (fun c32 => ?_)
        · have h := h.1 c32
          refine lv_iload_n hx hb dX9_of_42 rfl (lv_at hl 1 rfl) ?_
          refine lv_iconst (v := 2) hx hb dX9_of_43 (by decide) ?_
          refine lv_icmp_ne (tgt := 54) hx hb dX9_of_44 (by decide) (fun c44 => ?_) (fun c44 => ?_)
          · have h := h.1 c44
            refine lv_iload_n hx hb dX9_of_54 rfl (lv_at hl 1 rfl) ?_
            refine lv_iconst (v := 3) hx hb dX9_of_55 (by decide) ?_
            refine lv_icmp_ne (tgt := 66) hx hb dX9_of_56 (by decide) (fun c56 => ?_) (fun c56 => ?_)
            · have h := h.1 c56
              refine lv_iload_n hx hb dX9_of_66 rfl (lv_at hl 1 rfl) ?_
              refine lv_iconst (v := 4) hx hb dX9_of_67 (by decide) ?_
              refine lv_icmp_ne (tgt := 78) hx hb dX9_of_68 (by decide) (fun c68 => ?_) (fun c68 => ?_)
              · have h := h.1 c68
                refine lv_aload_n hx hb dX9_of_78 rfl (lv_at hl 0 rfl) ?_
                refine wx_ci C hD hS (va_runV (As := []) (rest := []) C.1 (cX9_distance (l := l) (D := D) (sz := H.size) h) (cwV 0 hts gX9_of_X9_distance rfl rfl rfl nyX9_distance ⟨Nat.le_of_ble_eq_true rfl, Nat.le_of_ble_eq_true rfl⟩) (wx_pv C hP hD hS (q := 0) (ci := 9) (Nat.le_of_ble_eq_true rfl) (eM_0 cI ad _) rfl) rfl rfl hl.1 rfl (lv_room (Nat.le_of_ble_eq_true rfl)) dX9_of_79 ⟨Nat.zero_le _, Nat.zero_le _⟩) (fun r79 σ79 H locs h hP hD hS => ?_)
                refine lv_iconst (v := 1) hx hb dX9_of_82 (by decide) ?_
                refine lv_isub hx hb dX9_of_83 ?_
                refine lv_iconst (v := 2) hx hb dX9_of_84 (by decide) ?_
                refine lv_idiv hx hb dX9_of_85 h.1 ?_
                have h := h.2
                exact Rt _ _ _ _ _ _ h hP hD hS dX9_of_86
              · have h := h.2 c68
                refine lv_aload_n hx hb dX9_of_71 rfl (lv_at hl 0 rfl) ?_
                refine wx_ci C hD hS (va_runV (As := []) (rest := []) C.1 (cX9_places (l := l) (D := D) (sz := H.size) h) (cwV 0 hts gX9_of_X9_places rfl rfl rfl nyX9_places ⟨Nat.le_of_ble_eq_true rfl, Nat.le_of_ble_eq_true rfl⟩) (wx_pv C hP hD hS (q := 0) (ci := 9) (Nat.le_of_ble_eq_true rfl) (eM_0 cI ad _) rfl) rfl rfl hl.1 rfl (lv_room (Nat.le_of_ble_eq_true rfl)) dX9_of_72 ⟨Nat.zero_le _, Nat.zero_le _⟩) (fun r72 σ72 H locs h hP hD hS => ?_)
                refine lv_goto (tgt := 86) hx hb dX9_of_75 (by decide) ?_
                exact Rt _ _ _ _ _ _ h hP hD hS dX9_of_86
            · have h := h.2 c56
              refine lv_aload_n hx hb dX9_of_59 rfl (lv_at hl 0 rfl) ?_
              refine wx_ci C hD hS (va_runV (As := []) (rest := []) C.1 (cX9_distance (l := l) (D := D) (sz := H.size) h) (cwV 0 hts gX9_of_X9_distance rfl rfl rfl nyX9_distance ⟨Nat.le_of_ble_eq_true rfl, Nat.le_of_ble_eq_true rfl⟩) (wx_pv C hP hD hS (q := 0) (ci := 9) (Nat.le_of_ble_eq_true rfl) (eM_0 cI ad _) rfl) rfl rfl hl.1 rfl (lv_room (Nat.le_of_ble_eq_true rfl)) dX9_of_60 ⟨Nat.zero_le _, Nat.zero_le _⟩) (fun r60 σ60 H locs h hP hD hS => ?_)
              refine lv_goto (tgt := 86) hx hb dX9_of_63 (by decide) ?_
              exact Rt _ _ _ _ _ _ h hP hD hS dX9_of_86
          · have h := h.2 c44
            refine lv_aload_n hx hb dX9_of_47 rfl (lv_at hl 0 rfl) ?_
            refine wx_ci C hD hS (va_runV (As := []) (rest := []) C.1 (cX9_many (l := l) (D := D) (sz := H.size) h) (cwV 0 hts gX9_of_X9_many rfl rfl rfl nyX9_many ⟨Nat.le_of_ble_eq_true rfl, Nat.le_of_ble_eq_true rfl⟩) (wx_pv C hP hD hS (q := 0) (ci := 9) (Nat.le_of_ble_eq_true rfl) (eM_0 cI ad _) rfl) rfl rfl hl.1 rfl (lv_room (Nat.le_of_ble_eq_true rfl)) dX9_of_48 ⟨Nat.zero_le _, Nat.zero_le _⟩) (fun r48 σ48 H locs h hP hD hS => ?_)
            refine lv_goto (tgt := 86) hx hb dX9_of_51 (by decide) ?_
            exact Rt _ _ _ _ _ _ h hP hD hS dX9_of_86
        · have h := h.2 c32
          refine lv_aload_n hx hb dX9_of_35 rfl (lv_at hl 0 rfl) ?_
          refine wx_ci C hD hS (va_runV (As := []) (rest := []) C.1 (cX9_length (l := l) (D := D) (sz := H.size) h) (cwV 0 hts gX9_of_X9_length rfl rfl rfl nyX9_length ⟨Nat.le_of_ble_eq_true rfl, Nat.le_of_ble_eq_true rfl⟩) (wx_pv C hP hD hS (q := 0) (ci := 9) (Nat.le_of_ble_eq_true rfl) (eM_0 cI ad _) rfl) rfl rfl hl.1 rfl (lv_room (Nat.le_of_ble_eq_true rfl)) dX9_of_36 ⟨Nat.zero_le _, Nat.zero_le _⟩) (fun r36 σ36 H locs h hP hD hS => ?_)
          refine lv_goto (tgt := 86) hx hb dX9_of_39 (by decide) ?_
          exact Rt _ _ _ _ _ _ h hP hD hS dX9_of_86
      · have h := h.2 c20
        refine lv_aload_n hx hb dX9_of_23 rfl (lv_at hl 0 rfl) ?_
        refine wx_ci C hD hS (va_runV (As := []) (rest := []) C.1 (cX9_order (l := l) (D := D) (sz := H.size) h) (cwV 0 hts gX9_of_X9_order rfl rfl rfl nyX9_order ⟨Nat.le_of_ble_eq_true rfl, Nat.le_of_ble_eq_true rfl⟩) (wx_pv C hP hD hS (q := 0) (ci := 9) (Nat.le_of_ble_eq_true rfl) (eM_0 cI ad _) rfl) rfl rfl hl.1 rfl (lv_room (Nat.le_of_ble_eq_true rfl)) dX9_of_24 ⟨Nat.zero_le _, Nat.zero_le _⟩) (fun r24 σ24 H locs h hP hD hS => ?_)
        refine lv_goto (tgt := 86) hx hb dX9_of_27 (by decide) ?_
        exact Rt _ _ _ _ _ _ h hP hD hS dX9_of_86
    · have h := h.2 c9
      refine lv_aload_n hx hb dX9_of_12 rfl (lv_at hl 0 rfl) ?_
      refine lv_bipush (v := (-2)) hx hb dX9_of_13 (by decide) ?_
      refine wx_ci C hD hS (va_runV (As := [.int (-2)]) (rest := []) C.1 (cX9_bad (l := l) (D := D) (sz := H.size) h) (cwV 1 hts gX9_of_X9_bad rfl rfl rfl nyX9_bad ⟨Nat.le_of_ble_eq_true rfl, Nat.le_of_ble_eq_true rfl⟩) (wx_pv C hP hD hS (q := 0) (ci := 9) (Nat.le_of_ble_eq_true rfl) (eM_0 cI ad _) rfl) rfl rfl hl.1 rfl (lv_room (Nat.le_of_ble_eq_true rfl)) dX9_of_15 ⟨Nat.zero_le _, Nat.zero_le _⟩) (fun r15 σ15 H locs h hP hD hS => ?_)
      exact Rt _ _ _ _ _ _ h hP hD hS dX9_of_18
  rw [eH, eL] at goal
  exact goal
end
