/-! ===== BEGIN words of one list among another's, by their places ===== -/
theorem goodIn_r {big : List Cond} (ws : List Cond) (ps : List Nat) (hp : ws = ps.filterMap (fun i => big[i]?)) (h : ws.all goodWord = true) : GoodIn big ws := by
  intro w hw
  have h1 := List.all_eq_true.mp h w hw
  rw [hp] at hw
  obtain ⟨i, -, hi⟩ := List.mem_filterMap.mp hw
  have hm : w ∈ big := by first | exact List.mem_of_getElem? hi | exact List.getElem?_mem hi
  exact ⟨hm, good_of_word h1⟩
theorem goodIn_app {big a b : List Cond} (ha : GoodIn big a) (hb : GoodIn big b) : GoodIn big (a ++ b) := fun w h => (List.mem_append.mp h).elim (ha w) (hb w)
theorem goodIn_ca {big a b : List Cond} {c : Cond} (ha : GoodIn big (c :: a)) (hb : GoodIn big b) : GoodIn big (c :: (a ++ b)) := fun w h => (List.mem_cons.mp h).elim (fun e => ha w (List.mem_cons.mpr (Or.inl e))) (fun h => (List.mem_append.mp h).elim (fun h => ha w (List.mem_cons.mpr (Or.inr h))) (hb w))
theorem goodIn_sub {big ws : List Cond} (hm : ∀ w ∈ ws, w ∈ big) (h : ws.all goodWord = true) : GoodIn big ws := fun w hw => ⟨hm w hw, good_of_word (List.all_eq_true.mp h w hw)⟩
/-! ===== END ===== -/


/-! ===== BEGIN printed: names, fields, word lists, decode rows ===== -/
def RX0 : String := "DrinkingRoofs$Blame"
def TX0 : u_T := fun k => match k with
  | 0 => ("DrinkingRoofs$Blame", "shareAbove", "J", false)
  | 1 => ("DrinkingRoofs$Blame", "shareBelow", "J", false)
  | 2 => ("DrinkingRoofs$Blame", "count", "I", false)
  | 3 => ("DrinkingRoofs$Blame", "clogged", "[I", true)
  | _ => ("DrinkingRoofs$Blame", "overs", "[I", true)
def tyX0 : Nat → FieldType := fun k => match k with
  | 0 => .long
  | 1 => .long
  | 2 => .int
  | 3 => .array .int
  | _ => .array .int
abbrev wsX00 : List Cond := u_ws RX0 TX0 5
theorem nmX0 : ∀ a, a < 5 → ∀ b, b < 5 → a ≠ b → (TX0 a).2.1 ≠ (TX0 b).2.1 := by decide +kernel
theorem tyX0_ok : ∀ k, k < 5 → parseFieldDescriptor (TX0 k).2.2.1 = some (tyX0 k) := by decide +kernel
abbrev cX0_init : ByteArray := prog_2_method_1_code
def yX0_init : MethodName := ⟨RX0, "<init>", "()V"⟩
abbrev cX0_choose : ByteArray := prog_2_method_2_code
def yX0_choose : MethodName := ⟨RX0, "choose", "(LDrinkingRoofs$Roofs;)Z"⟩
abbrev cX0_overWith : ByteArray := prog_2_method_3_code
def yX0_overWith : MethodName := ⟨RX0, "overWith", "(IILDrinkingRoofs$Roofs;LDrinkingRoofs$Roofs;LDrinkingRoofs$Storm;)I"⟩
abbrev cX0_weigh : ByteArray := prog_2_method_4_code
def yX0_weigh : MethodName := ⟨RX0, "weigh", "(IILDrinkingRoofs$Roofs;LDrinkingRoofs$Roofs;LDrinkingRoofs$Storm;)V"⟩
abbrev cX0_addOrders : ByteArray := prog_2_method_5_code
def yX0_addOrders : MethodName := ⟨RX0, "addOrders", "(I)J"⟩
abbrev cX0_commonPart : ByteArray := prog_2_method_6_code
def yX0_commonPart : MethodName := ⟨RX0, "commonPart", "(JJ)J"⟩
def RX1 : String := "DrinkingRoofs$Cleaning"
def TX1 : u_T := fun k => match k with
  | 0 => ("DrinkingRoofs$Cleaning", "stormCount", "I", false)
  | 1 => ("DrinkingRoofs$Cleaning", "fewest", "I", false)
  | 2 => ("DrinkingRoofs$Cleaning", "storms", "[I", true)
  | 3 => ("DrinkingRoofs$Cleaning", "sets", "[I", true)
  | _ => ("DrinkingRoofs$Cleaning", "mostGot", "[I", true)
def tyX1 : Nat → FieldType := fun k => match k with
  | 0 => .int
  | 1 => .int
  | 2 => .array .int
  | 3 => .array .int
  | _ => .array .int
abbrev wsX10 : List Cond := u_ws RX1 TX1 5
theorem nmX1 : ∀ a, a < 5 → ∀ b, b < 5 → a ≠ b → (TX1 a).2.1 ≠ (TX1 b).2.1 := by decide +kernel
theorem tyX1_ok : ∀ k, k < 5 → parseFieldDescriptor (TX1 k).2.2.1 = some (tyX1 k) := by decide +kernel
abbrev cX1_init : ByteArray := prog_3_method_1_code
def yX1_init : MethodName := ⟨RX1, "<init>", "()V"⟩
abbrev cX1_rain : ByteArray := prog_3_method_2_code
def yX1_rain : MethodName := ⟨RX1, "rain", "(LDrinkingRoofs$Street;LDrinkingRoofs$Roofs;)V"⟩
abbrev cX1_plan : ByteArray := prog_3_method_3_code
def yX1_plan : MethodName := ⟨RX1, "plan", "(LDrinkingRoofs$Roofs;)Z"⟩
abbrev cX1_isAhead : ByteArray := prog_3_method_4_code
def yX1_isAhead : MethodName := ⟨RX1, "isAhead", "(II)Z"⟩
abbrev cX1_bestTimes : ByteArray := prog_3_method_5_code
def yX1_bestTimes : MethodName := ⟨RX1, "bestTimes", "(LDrinkingRoofs$House;I)I"⟩
abbrev cX1_staysDry : ByteArray := prog_3_method_6_code
def yX1_staysDry : MethodName := ⟨RX1, "staysDry", "(LDrinkingRoofs$House;II)Z"⟩
def RX2 : String := "DrinkingRoofs$House"
def TX2 : u_T := fun k => match k with
  | 0 => ("DrinkingRoofs$House", "area", "I", false)
  | 1 => ("DrinkingRoofs$House", "carries", "I", false)
  | 2 => ("DrinkingRoofs$House", "leaves", "I", false)
  | 3 => ("DrinkingRoofs$House", "price", "I", false)
  | 4 => ("DrinkingRoofs$House", "empties", "I", false)
  | 5 => ("DrinkingRoofs$House", "clog", "I", false)
  | 6 => ("DrinkingRoofs$House", "barrel", "I", false)
  | 7 => ("DrinkingRoofs$House", "let", "I", false)
  | 8 => ("DrinkingRoofs$House", "held", "I", false)
  | 9 => ("DrinkingRoofs$House", "snow", "I", false)
  | 10 => ("DrinkingRoofs$House", "coin", "I", false)
  | 11 => ("DrinkingRoofs$House", "wet", "I", false)
  | 12 => ("DrinkingRoofs$House", "over", "I", false)
  | 13 => ("DrinkingRoofs$House", "dry", "I", false)
  | 14 => ("DrinkingRoofs$House", "mostGot", "I", false)
  | 15 => ("DrinkingRoofs$House", "above", "[I", true)
  | 16 => ("DrinkingRoofs$House", "got", "[I", true)
  | 17 => ("DrinkingRoofs$House", "carried", "[I", true)
  | _ => ("DrinkingRoofs$House", "spilt", "[I", true)
def tyX2 : Nat → FieldType := fun k => match k with
  | 0 => .int
  | 1 => .int
  | 2 => .int
  | 3 => .int
  | 4 => .int
  | 5 => .int
  | 6 => .int
  | 7 => .int
  | 8 => .int
  | 9 => .int
  | 10 => .int
  | 11 => .int
  | 12 => .int
  | 13 => .int
  | 14 => .int
  | 15 => .array .int
  | 16 => .array .int
  | 17 => .array .int
  | _ => .array .int
abbrev wsX20 : List Cond := u_ws RX2 TX2 19
theorem nmX2 : ∀ a, a < 19 → ∀ b, b < 19 → a ≠ b → (TX2 a).2.1 ≠ (TX2 b).2.1 := by decide +kernel
theorem tyX2_ok : ∀ k, k < 19 → parseFieldDescriptor (TX2 k).2.2.1 = some (tyX2 k) := by decide +kernel
abbrev cX2_init : ByteArray := prog_4_method_1_code
def yX2_init : MethodName := ⟨RX2, "<init>", "()V"⟩
abbrev cX2_build : ByteArray := prog_4_method_2_code
def yX2_build : MethodName := ⟨RX2, "build", "(IIII)V"⟩
abbrev cX2_imagine : ByteArray := prog_4_method_3_code
def yX2_imagine : MethodName := ⟨RX2, "imagine", "(LDrinkingRoofs$House;)V"⟩
abbrev cX2_copy : ByteArray := prog_4_method_4_code
def yX2_copy : MethodName := ⟨RX2, "copy", "(LDrinkingRoofs$House;)V"⟩
abbrev cX2_change : ByteArray := prog_4_method_5_code
def yX2_change : MethodName := ⟨RX2, "change", "(II)Z"⟩
abbrev cX2_mostOf : ByteArray := prog_4_method_6_code
def yX2_mostOf : MethodName := ⟨RX2, "mostOf", "(I)I"⟩
abbrev cX2_told : ByteArray := prog_4_method_7_code
def yX2_told : MethodName := ⟨RX2, "told", "(I)I"⟩
abbrev cX2_toldOf : ByteArray := prog_4_method_8_code
def yX2_toldOf : MethodName := ⟨RX2, "toldOf", "(II)I"⟩
abbrev cX2_carriesAt : ByteArray := prog_4_method_9_code
def yX2_carriesAt : MethodName := ⟨RX2, "carriesAt", "(I)I"⟩
abbrev cX2_drink : ByteArray := prog_4_method_10_code
def yX2_drink : MethodName := ⟨RX2, "drink", "(LDrinkingRoofs$Storm;I)V"⟩
abbrev cX2_land : ByteArray := prog_4_method_11_code
def yX2_land : MethodName := ⟨RX2, "land", "(LDrinkingRoofs$Storm;II)I"⟩
abbrev cX2_passBarrel : ByteArray := prog_4_method_12_code
def yX2_passBarrel : MethodName := ⟨RX2, "passBarrel", "(I)I"⟩
abbrev cX2_carriedInAll : ByteArray := prog_4_method_13_code
def yX2_carriedInAll : MethodName := ⟨RX2, "carriedInAll", "(I)I"⟩
abbrev cX2_closeStorm : ByteArray := prog_4_method_14_code
def yX2_closeStorm : MethodName := ⟨RX2, "closeStorm", "()V"⟩
def RX3 : String := "DrinkingRoofs$Law"
def TX3 : u_T := fun k => match k with
  | 0 => ("DrinkingRoofs$Law", "lines", "I", false)
  | 1 => ("DrinkingRoofs$Law", "length", "I", false)
  | 2 => ("DrinkingRoofs$Law", "code", "[I", true)
  | 3 => ("DrinkingRoofs$Law", "sumFrom", "[I", true)
  | 4 => ("DrinkingRoofs$Law", "whenFrom", "[I", true)
  | _ => ("DrinkingRoofs$Law", "stack", "[I", true)
def tyX3 : Nat → FieldType := fun k => match k with
  | 0 => .int
  | 1 => .int
  | 2 => .array .int
  | 3 => .array .int
  | 4 => .array .int
  | _ => .array .int
abbrev wsX30 : List Cond := u_ws RX3 TX3 6
theorem nmX3 : ∀ a, a < 6 → ∀ b, b < 6 → a ≠ b → (TX3 a).2.1 ≠ (TX3 b).2.1 := by decide +kernel
theorem tyX3_ok : ∀ k, k < 6 → parseFieldDescriptor (TX3 k).2.2.1 = some (tyX3 k) := by decide +kernel
abbrev cX3_init : ByteArray := prog_5_method_1_code
def yX3_init : MethodName := ⟨RX3, "<init>", "()V"⟩
abbrev cX3_clear : ByteArray := prog_5_method_2_code
def yX3_clear : MethodName := ⟨RX3, "clear", "()V"⟩
abbrev cX3_copy : ByteArray := prog_5_method_3_code
def yX3_copy : MethodName := ⟨RX3, "copy", "(LDrinkingRoofs$Law;)V"⟩
abbrev cX3_add : ByteArray := prog_5_method_4_code
def yX3_add : MethodName := ⟨RX3, "add", "(I)V"⟩
abbrev cX3_closeSum : ByteArray := prog_5_method_5_code
def yX3_closeSum : MethodName := ⟨RX3, "closeSum", "()V"⟩
abbrev cX3_closeLine : ByteArray := prog_5_method_6_code
def yX3_closeLine : MethodName := ⟨RX3, "closeLine", "()V"⟩
abbrev cX3_asks : ByteArray := prog_5_method_7_code
def yX3_asks : MethodName := ⟨RX3, "asks", "([I)I"⟩
abbrev cX3_worth : ByteArray := prog_5_method_8_code
def yX3_worth : MethodName := ⟨RX3, "worth", "(II[I)I"⟩
abbrev cX3_joined : ByteArray := prog_5_method_9_code
def yX3_joined : MethodName := ⟨RX3, "joined", "(III)I"⟩
def RX4 : String := "DrinkingRoofs$Reader"
def TX4 : u_T := fun k => match k with
  | 0 => ("DrinkingRoofs$Reader", "fault", "I", false)
  | 1 => ("DrinkingRoofs$Reader", "faultPlace", "I", false)
  | 2 => ("DrinkingRoofs$Reader", "state", "I", false)
  | 3 => ("DrinkingRoofs$Reader", "side", "I", false)
  | 4 => ("DrinkingRoofs$Reader", "open", "I", false)
  | 5 => ("DrinkingRoofs$Reader", "brackets", "I", false)
  | 6 => ("DrinkingRoofs$Reader", "waits", "I", false)
  | 7 => ("DrinkingRoofs$Reader", "waiting", "[I", true)
  | 8 => ("DrinkingRoofs$Reader", "ended", "Z", false)
  | 9 => ("DrinkingRoofs$Reader", "value", "I", false)
  | _ => ("DrinkingRoofs$Reader", "law", "LDrinkingRoofs$Law;", true)
def tyX4 : Nat → FieldType := fun k => match k with
  | 0 => .int
  | 1 => .int
  | 2 => .int
  | 3 => .int
  | 4 => .int
  | 5 => .int
  | 6 => .int
  | 7 => .array .int
  | 8 => .boolean
  | 9 => .int
  | _ => .object "DrinkingRoofs$Law"
abbrev wsX40 : List Cond := u_ws RX4 TX4 11
theorem nmX4 : ∀ a, a < 11 → ∀ b, b < 11 → a ≠ b → (TX4 a).2.1 ≠ (TX4 b).2.1 := by decide +kernel
theorem tyX4_ok : ∀ k, k < 11 → parseFieldDescriptor (TX4 k).2.2.1 = some (tyX4 k) := by decide +kernel
abbrev cX4_init : ByteArray := prog_6_method_1_code
def yX4_init : MethodName := ⟨RX4, "<init>", "()V"⟩
abbrev cX4_read : ByteArray := prog_6_method_2_code
def yX4_read : MethodName := ⟨RX4, "read", "(LDrinkingRoofs$Tape;)V"⟩
abbrev cX4_take : ByteArray := prog_6_method_3_code
def yX4_take : MethodName := ⟨RX4, "take", "(I)V"⟩
abbrev cX4_takeLine : ByteArray := prog_6_method_4_code
def yX4_takeLine : MethodName := ⟨RX4, "takeLine", "(I)V"⟩
abbrev cX4_takeUnit : ByteArray := prog_6_method_5_code
def yX4_takeUnit : MethodName := ⟨RX4, "takeUnit", "(I)V"⟩
abbrev cX4_takePart : ByteArray := prog_6_method_6_code
def yX4_takePart : MethodName := ⟨RX4, "takePart", "(I)V"⟩
abbrev cX4_takeCase : ByteArray := prog_6_method_7_code
def yX4_takeCase : MethodName := ⟨RX4, "takeCase", "(I)V"⟩
abbrev cX4_takeBehindUnit : ByteArray := prog_6_method_8_code
def yX4_takeBehindUnit : MethodName := ⟨RX4, "takeBehindUnit", "(I)V"⟩
abbrev cX4_takeBehindCase : ByteArray := prog_6_method_9_code
def yX4_takeBehindCase : MethodName := ⟨RX4, "takeBehindCase", "(I)V"⟩
abbrev cX4_closeLine : ByteArray := prog_6_method_10_code
def yX4_closeLine : MethodName := ⟨RX4, "closeLine", "()V"⟩
abbrev cX4_join : ByteArray := prog_6_method_11_code
def yX4_join : MethodName := ⟨RX4, "join", "(I)V"⟩
abbrev cX4_await : ByteArray := prog_6_method_12_code
def yX4_await : MethodName := ⟨RX4, "await", "(I)V"⟩
abbrev cX4_writeDownTo : ByteArray := prog_6_method_13_code
def yX4_writeDownTo : MethodName := ⟨RX4, "writeDownTo", "(I)V"⟩
abbrev cX4_closeBracket : ByteArray := prog_6_method_14_code
def yX4_closeBracket : MethodName := ⟨RX4, "closeBracket", "()V"⟩
def RX5 : String := "DrinkingRoofs$Roofs"
def TX5 : u_T := fun k => match k with
  | 0 => ("DrinkingRoofs$Roofs", "count", "I", false)
  | 1 => ("DrinkingRoofs$Roofs", "thaw", "I", false)
  | _ => ("DrinkingRoofs$Roofs", "houses", "[LDrinkingRoofs$House;", true)
def tyX5 : Nat → FieldType := fun k => match k with
  | 0 => .int
  | 1 => .int
  | _ => .array (.object "DrinkingRoofs$House")
abbrev wsX50 : List Cond := u_ws RX5 TX5 3
theorem nmX5 : ∀ a, a < 3 → ∀ b, b < 3 → a ≠ b → (TX5 a).2.1 ≠ (TX5 b).2.1 := by decide +kernel
theorem tyX5_ok : ∀ k, k < 3 → parseFieldDescriptor (TX5 k).2.2.1 = some (tyX5 k) := by decide +kernel
abbrev cX5_init : ByteArray := prog_7_method_1_code
def yX5_init : MethodName := ⟨RX5, "<init>", "()V"⟩
abbrev cX5_copy : ByteArray := prog_7_method_2_code
def yX5_copy : MethodName := ⟨RX5, "copy", "(LDrinkingRoofs$Roofs;)V"⟩
abbrev cX5_imagine : ByteArray := prog_7_method_3_code
def yX5_imagine : MethodName := ⟨RX5, "imagine", "(LDrinkingRoofs$Roofs;)V"⟩
abbrev cX5_imagineAdded : ByteArray := prog_7_method_4_code
def yX5_imagineAdded : MethodName := ⟨RX5, "imagineAdded", "(LDrinkingRoofs$Roofs;III)V"⟩
abbrev cX5_widen : ByteArray := prog_7_method_5_code
def yX5_widen : MethodName := ⟨RX5, "widen", "()V"⟩
abbrev cX5_strip : ByteArray := prog_7_method_6_code
def yX5_strip : MethodName := ⟨RX5, "strip", "()V"⟩
abbrev cX5_pour : ByteArray := prog_7_method_7_code
def yX5_pour : MethodName := ⟨RX5, "pour", "(LDrinkingRoofs$Storm;I)I"⟩
abbrev cX5_pass : ByteArray := prog_7_method_8_code
def yX5_pass : MethodName := ⟨RX5, "pass", "(ILDrinkingRoofs$Storm;)V"⟩
def RX6 : String := "DrinkingRoofs$Stains"
def TX6 : u_T := fun k => match k with
  | 0 => ("DrinkingRoofs$Stains", "seen", "I", false)
  | 1 => ("DrinkingRoofs$Stains", "count", "I", false)
  | 2 => ("DrinkingRoofs$Stains", "leastStorm", "I", false)
  | 3 => ("DrinkingRoofs$Stains", "leastSet", "I", false)
  | 4 => ("DrinkingRoofs$Stains", "inAll", "I", false)
  | _ => ("DrinkingRoofs$Stains", "storm", "I", false)
def tyX6 : Nat → FieldType := fun k => match k with
  | 0 => .int
  | 1 => .int
  | 2 => .int
  | 3 => .int
  | 4 => .int
  | _ => .int
abbrev wsX60 : List Cond := u_ws RX6 TX6 6
theorem nmX6 : ∀ a, a < 6 → ∀ b, b < 6 → a ≠ b → (TX6 a).2.1 ≠ (TX6 b).2.1 := by decide +kernel
theorem tyX6_ok : ∀ k, k < 6 → parseFieldDescriptor (TX6 k).2.2.1 = some (tyX6 k) := by decide +kernel
abbrev cX6_init : ByteArray := prog_8_method_1_code
def yX6_init : MethodName := ⟨RX6, "<init>", "()V"⟩
abbrev cX6_explain : ByteArray := prog_8_method_2_code
def yX6_explain : MethodName := ⟨RX6, "explain", "(ILDrinkingRoofs$Street;LDrinkingRoofs$Roofs;)V"⟩
abbrev cX6_told : ByteArray := prog_8_method_3_code
def yX6_told : MethodName := ⟨RX6, "told", "(I)I"⟩
abbrev cX6_tryHouse : ByteArray := prog_8_method_4_code
def yX6_tryHouse : MethodName := ⟨RX6, "tryHouse", "(LDrinkingRoofs$Stains;LDrinkingRoofs$Roofs;LDrinkingRoofs$Storm;II)V"⟩
abbrev cX6_runsOver : ByteArray := prog_8_method_5_code
def yX6_runsOver : MethodName := ⟨RX6, "runsOver", "(LDrinkingRoofs$Roofs;LDrinkingRoofs$Storm;II)Z"⟩
abbrev cX6_note : ByteArray := prog_8_method_6_code
def yX6_note : MethodName := ⟨RX6, "note", "(I)V"⟩
def RX7 : String := "DrinkingRoofs$Storm"
def TX7 : u_T := fun k => match k with
  | 0 => ("DrinkingRoofs$Storm", "hours", "I", false)
  | 1 => ("DrinkingRoofs$Storm", "falls", "[I", true)
  | _ => ("DrinkingRoofs$Storm", "snows", "[Z", true)
def tyX7 : Nat → FieldType := fun k => match k with
  | 0 => .int
  | 1 => .array .int
  | _ => .array .boolean
abbrev wsX70 : List Cond := u_ws RX7 TX7 3
theorem nmX7 : ∀ a, a < 3 → ∀ b, b < 3 → a ≠ b → (TX7 a).2.1 ≠ (TX7 b).2.1 := by decide +kernel
theorem tyX7_ok : ∀ k, k < 3 → parseFieldDescriptor (TX7 k).2.2.1 = some (tyX7 k) := by decide +kernel
abbrev cX7_init : ByteArray := prog_9_method_1_code
def yX7_init : MethodName := ⟨RX7, "<init>", "()V"⟩
abbrev cX7_brew : ByteArray := prog_9_method_2_code
def yX7_brew : MethodName := ⟨RX7, "brew", "(I)V"⟩
abbrev cX7_copy : ByteArray := prog_9_method_3_code
def yX7_copy : MethodName := ⟨RX7, "copy", "(LDrinkingRoofs$Storm;)V"⟩
abbrev cX7_told : ByteArray := prog_9_method_4_code
def yX7_told : MethodName := ⟨RX7, "told", "(I)I"⟩
abbrev cX7_fallInAll : ByteArray := prog_9_method_5_code
def yX7_fallInAll : MethodName := ⟨RX7, "fallInAll", "()I"⟩
def RX8 : String := "DrinkingRoofs$Street"
def TX8 : u_T := fun k => match k with
  | 0 => ("DrinkingRoofs$Street", "roofs", "LDrinkingRoofs$Roofs;", true)
  | 1 => ("DrinkingRoofs$Street", "stormCount", "I", false)
  | 2 => ("DrinkingRoofs$Street", "storms", "[LDrinkingRoofs$Storm;", true)
  | 3 => ("DrinkingRoofs$Street", "law", "LDrinkingRoofs$Law;", true)
  | 4 => ("DrinkingRoofs$Street", "size", "I", false)
  | 5 => ("DrinkingRoofs$Street", "has", "I", false)
  | 6 => ("DrinkingRoofs$Street", "off", "I", false)
  | 7 => ("DrinkingRoofs$Street", "stormsCame", "I", false)
  | 8 => ("DrinkingRoofs$Street", "fell", "I", false)
  | 9 => ("DrinkingRoofs$Street", "latestHouses", "I", false)
  | 10 => ("DrinkingRoofs$Street", "latestHours", "I", false)
  | _ => ("DrinkingRoofs$Street", "measures", "[I", true)
def tyX8 : Nat → FieldType := fun k => match k with
  | 0 => .object "DrinkingRoofs$Roofs"
  | 1 => .int
  | 2 => .array (.object "DrinkingRoofs$Storm")
  | 3 => .object "DrinkingRoofs$Law"
  | 4 => .int
  | 5 => .int
  | 6 => .int
  | 7 => .int
  | 8 => .int
  | 9 => .int
  | 10 => .int
  | _ => .array .int
abbrev wsX80 : List Cond := u_ws RX8 TX8 12
theorem nmX8 : ∀ a, a < 12 → ∀ b, b < 12 → a ≠ b → (TX8 a).2.1 ≠ (TX8 b).2.1 := by decide +kernel
theorem tyX8_ok : ∀ k, k < 12 → parseFieldDescriptor (TX8 k).2.2.1 = some (tyX8 k) := by decide +kernel
abbrev cX8_init : ByteArray := prog_10_method_1_code
def yX8_init : MethodName := ⟨RX8, "<init>", "()V"⟩
abbrev cX8_copy : ByteArray := prog_10_method_2_code
def yX8_copy : MethodName := ⟨RX8, "copy", "(LDrinkingRoofs$Street;)V"⟩
abbrev cX8_told : ByteArray := prog_10_method_3_code
def yX8_told : MethodName := ⟨RX8, "told", "(I)I"⟩
abbrev cX8_weather : ByteArray := prog_10_method_4_code
def yX8_weather : MethodName := ⟨RX8, "weather", "(LDrinkingRoofs$Storm;)I"⟩
abbrev cX8_store : ByteArray := prog_10_method_5_code
def yX8_store : MethodName := ⟨RX8, "store", "(I)V"⟩
abbrev cX8_settle : ByteArray := prog_10_method_6_code
def yX8_settle : MethodName := ⟨RX8, "settle", "()V"⟩
abbrev cX8_pay : ByteArray := prog_10_method_7_code
def yX8_pay : MethodName := ⟨RX8, "pay", "(II)V"⟩
def RX9 : String := "DrinkingRoofs$Tape"
def TX9 : u_T := fun k => match k with
  | 0 => ("DrinkingRoofs$Tape", "length", "I", false)
  | 1 => ("DrinkingRoofs$Tape", "bytes", "[B", true)
  | 2 => ("DrinkingRoofs$Tape", "at", "I", false)
  | 3 => ("DrinkingRoofs$Tape", "kind", "I", false)
  | 4 => ("DrinkingRoofs$Tape", "value", "I", false)
  | _ => ("DrinkingRoofs$Tape", "place", "I", false)
def tyX9 : Nat → FieldType := fun k => match k with
  | 0 => .int
  | 1 => .array .byte
  | 2 => .int
  | 3 => .int
  | 4 => .int
  | _ => .int
abbrev wsX90 : List Cond := u_ws RX9 TX9 6
theorem nmX9 : ∀ a, a < 6 → ∀ b, b < 6 → a ≠ b → (TX9 a).2.1 ≠ (TX9 b).2.1 := by decide +kernel
theorem tyX9_ok : ∀ k, k < 6 → parseFieldDescriptor (TX9 k).2.2.1 = some (tyX9 k) := by decide +kernel
abbrev cX9_init : ByteArray := prog_11_method_1_code
def yX9_init : MethodName := ⟨RX9, "<init>", "()V"⟩
abbrev cX9_hasRoom : ByteArray := prog_11_method_2_code
def yX9_hasRoom : MethodName := ⟨RX9, "hasRoom", "(I)Z"⟩
abbrev cX9_add : ByteArray := prog_11_method_3_code
def yX9_add : MethodName := ⟨RX9, "add", "(I)V"⟩
abbrev cX9_rewind : ByteArray := prog_11_method_4_code
def yX9_rewind : MethodName := ⟨RX9, "rewind", "()V"⟩
abbrev cX9_scan : ByteArray := prog_11_method_5_code
def yX9_scan : MethodName := ⟨RX9, "scan", "()V"⟩
abbrev cX9_scanWord : ByteArray := prog_11_method_6_code
def yX9_scanWord : MethodName := ⟨RX9, "scanWord", "()V"⟩
abbrev cX9_isWord : ByteArray := prog_11_method_7_code
def yX9_isWord : MethodName := ⟨RX9, "isWord", "(I)Z"⟩
abbrev cX9_scanNumber : ByteArray := prog_11_method_8_code
def yX9_scanNumber : MethodName := ⟨RX9, "scanNumber", "()V"⟩
abbrev cX9_isLetter : ByteArray := prog_11_method_9_code
def yX9_isLetter : MethodName := ⟨RX9, "isLetter", "(I)Z"⟩
abbrev cX9_isDigit : ByteArray := prog_11_method_10_code
def yX9_isDigit : MethodName := ⟨RX9, "isDigit", "(I)Z"⟩
def RX10 : String := "DrinkingRoofs"
def TX10 : u_T := fun k => match k with
  | 0 => ("DrinkingRoofs", "now", "LDrinkingRoofs$Street;", true)
  | 1 => ("DrinkingRoofs", "kept", "LDrinkingRoofs$Street;", true)
  | 2 => ("DrinkingRoofs", "thought", "LDrinkingRoofs$Roofs;", true)
  | 3 => ("DrinkingRoofs", "tape", "LDrinkingRoofs$Tape;", true)
  | 4 => ("DrinkingRoofs", "reader", "LDrinkingRoofs$Reader;", true)
  | 5 => ("DrinkingRoofs", "blame", "LDrinkingRoofs$Blame;", true)
  | 6 => ("DrinkingRoofs", "cleaning", "LDrinkingRoofs$Cleaning;", true)
  | 7 => ("DrinkingRoofs", "stains", "LDrinkingRoofs$Stains;", true)
  | _ => ("DrinkingRoofs", "imageTaken", "Z", false)
def tyX10 : Nat → FieldType := fun k => match k with
  | 0 => .object "DrinkingRoofs$Street"
  | 1 => .object "DrinkingRoofs$Street"
  | 2 => .object "DrinkingRoofs$Roofs"
  | 3 => .object "DrinkingRoofs$Tape"
  | 4 => .object "DrinkingRoofs$Reader"
  | 5 => .object "DrinkingRoofs$Blame"
  | 6 => .object "DrinkingRoofs$Cleaning"
  | 7 => .object "DrinkingRoofs$Stains"
  | _ => .boolean
abbrev wsX100 : List Cond := u_ws RX10 TX10 9
theorem nmX10 : ∀ a, a < 9 → ∀ b, b < 9 → a ≠ b → (TX10 a).2.1 ≠ (TX10 b).2.1 := by decide +kernel
theorem tyX10_ok : ∀ k, k < 9 → parseFieldDescriptor (TX10 k).2.2.1 = some (tyX10 k) := by decide +kernel
abbrev cX10_init : ByteArray := prog_1_method_1_code
def yX10_init : MethodName := ⟨RX10, "<init>", "()V"⟩
abbrev cX10_house : ByteArray := prog_1_method_2_code
def yX10_house : MethodName := ⟨RX10, "house", "(IIII)I"⟩
abbrev cX10_next : ByteArray := prog_1_method_3_code
def yX10_next : MethodName := ⟨RX10, "next", "(II)Z"⟩
abbrev cX10_tell : ByteArray := prog_1_method_4_code
def yX10_tell : MethodName := ⟨RX10, "tell", "(III)Z"⟩
abbrev cX10_storm : ByteArray := prog_1_method_5_code
def yX10_storm : MethodName := ⟨RX10, "storm", "(I)I"⟩
abbrev cX10_fall : ByteArray := prog_1_method_6_code
def yX10_fall : MethodName := ⟨RX10, "fall", "(IIIZ)Z"⟩
abbrev cX10_feed : ByteArray := prog_1_method_7_code
def yX10_feed : MethodName := ⟨RX10, "feed", "(IIIII)I"⟩
abbrev cX10_end : ByteArray := prog_1_method_8_code
def yX10_end : MethodName := ⟨RX10, "end", "(I)Z"⟩
abbrev cX10_text : ByteArray := prog_1_method_9_code
def yX10_text : MethodName := ⟨RX10, "text", "()I"⟩
abbrev cX10_fault : ByteArray := prog_1_method_10_code
def yX10_fault : MethodName := ⟨RX10, "fault", "(I)I"⟩
abbrev cX10_comes : ByteArray := prog_1_method_11_code
def yX10_comes : MethodName := ⟨RX10, "comes", "(I)I"⟩
abbrev cX10_of : ByteArray := prog_1_method_12_code
def yX10_of : MethodName := ⟨RX10, "of", "(II)I"⟩
abbrev cX10_hour : ByteArray := prog_1_method_13_code
def yX10_hour : MethodName := ⟨RX10, "hour", "(III)I"⟩
abbrev cX10_blame : ByteArray := prog_1_method_14_code
def yX10_blame : MethodName := ⟨RX10, "blame", "(IIII)J"⟩
abbrev cX10_cleanings : ByteArray := prog_1_method_15_code
def yX10_cleanings : MethodName := ⟨RX10, "cleanings", "(IIIII)I"⟩
abbrev cX10_gutters : ByteArray := prog_1_method_16_code
def yX10_gutters : MethodName := ⟨RX10, "gutters", "(II)I"⟩
abbrev cX10_stains : ByteArray := prog_1_method_17_code
def yX10_stains : MethodName := ⟨RX10, "stains", "(II)I"⟩
abbrev cX10_drain : ByteArray := prog_1_method_18_code
def yX10_drain : MethodName := ⟨RX10, "drain", "(I)I"⟩
abbrev cX10_added : ByteArray := prog_1_method_19_code
def yX10_added : MethodName := ⟨RX10, "added", "(IIII)I"⟩
abbrev cX10_image : ByteArray := prog_1_method_20_code
def yX10_image : MethodName := ⟨RX10, "image", "(Z)Z"⟩
abbrev cX10_look : ByteArray := prog_1_method_21_code
def yX10_look : MethodName := ⟨RX10, "look", "(I)I"⟩
abbrev cX10_within : ByteArray := prog_1_method_22_code
def yX10_within : MethodName := ⟨RX10, "within", "(III)Z"⟩
abbrev cX10_canStand : ByteArray := prog_1_method_23_code
def yX10_canStand : MethodName := ⟨RX10, "canStand", "(II)Z"⟩
abbrev cX10_isHouse : ByteArray := prog_1_method_24_code
def yX10_isHouse : MethodName := ⟨RX10, "isHouse", "(I)Z"⟩
abbrev cX10_isStorm : ByteArray := prog_1_method_25_code
def yX10_isStorm : MethodName := ⟨RX10, "isStorm", "(I)Z"⟩
abbrev cX10_tellSize : ByteArray := prog_1_method_26_code
def yX10_tellSize : MethodName := ⟨RX10, "tellSize", "(I)Z"⟩
abbrev cX10_tellThaw : ByteArray := prog_1_method_27_code
def yX10_tellThaw : MethodName := ⟨RX10, "tellThaw", "(I)Z"⟩
abbrev cX10_planStorms : ByteArray := prog_1_method_28_code
def yX10_planStorms : MethodName := ⟨RX10, "planStorms", "(IIII)Z"⟩
abbrev cX10_planStorm : ByteArray := prog_1_method_29_code
def yX10_planStorm : MethodName := ⟨RX10, "planStorm", "(I)Z"⟩
abbrev cX10_widerPrice : ByteArray := prog_1_method_30_code
def yX10_widerPrice : MethodName := ⟨RX10, "widerPrice", "()I"⟩
abbrev cX10_overAsNow : ByteArray := prog_1_method_31_code
def yX10_overAsNow : MethodName := ⟨RX10, "overAsNow", "(LDrinkingRoofs$Storm;)I"⟩
abbrev cX10_overIfDrained : ByteArray := prog_1_method_32_code
def yX10_overIfDrained : MethodName := ⟨RX10, "overIfDrained", "(ILDrinkingRoofs$Storm;)I"⟩
def RX11 : String := "DrinkingRoofsModel"
def TX11 : u_T := fun k => match k with
  | 0 => ("DrinkingRoofsModel", "w", "[I", true)
  | 1 => ("DrinkingRoofsModel", "kept", "[I", true)
  | 2 => ("DrinkingRoofsModel", "hasImage", "Z", false)
  | 3 => ("DrinkingRoofsModel", "freshLine", "[I", true)
  | 4 => ("DrinkingRoofsModel", "freshStep", "[I", true)
  | 5 => ("DrinkingRoofsModel", "tape", "[I", true)
  | 6 => ("DrinkingRoofsModel", "pile", "[I", true)
  | 7 => ("DrinkingRoofsModel", "facts", "[I", true)
  | 8 => ("DrinkingRoofsModel", "lines", "I", false)
  | 9 => ("DrinkingRoofsModel", "steps", "I", false)
  | 10 => ("DrinkingRoofsModel", "taped", "I", false)
  | 11 => ("DrinkingRoofsModel", "at", "I", false)
  | 12 => ("DrinkingRoofsModel", "token", "I", false)
  | 13 => ("DrinkingRoofsModel", "tokenAt", "I", false)
  | 14 => ("DrinkingRoofsModel", "value", "I", false)
  | 15 => ("DrinkingRoofsModel", "wrong", "I", false)
  | 16 => ("DrinkingRoofsModel", "wrongAt", "I", false)
  | 17 => ("DrinkingRoofsModel", "faultKind", "I", false)
  | 18 => ("DrinkingRoofsModel", "depth", "I", false)
  | 19 => ("DrinkingRoofsModel", "faultPlace", "I", false)
  | 20 => ("DrinkingRoofsModel", "area", "[I", true)
  | 21 => ("DrinkingRoofsModel", "carries", "[I", true)
  | 22 => ("DrinkingRoofsModel", "next", "[I", true)
  | 23 => ("DrinkingRoofsModel", "clog", "[I", true)
  | 24 => ("DrinkingRoofsModel", "barrel", "[I", true)
  | 25 => ("DrinkingRoofsModel", "lets", "[I", true)
  | 26 => ("DrinkingRoofsModel", "held", "[I", true)
  | 27 => ("DrinkingRoofsModel", "snow", "[I", true)
  | 28 => ("DrinkingRoofsModel", "over", "[I", true)
  | 29 => ("DrinkingRoofsModel", "above", "[I", true)
  | 30 => ("DrinkingRoofsModel", "many", "I", false)
  | 31 => ("DrinkingRoofsModel", "drained", "I", false)
  | 32 => ("DrinkingRoofsModel", "fell", "I", false)
  | 33 => ("DrinkingRoofsModel", "isWritten", "Z", false)
  | 34 => ("DrinkingRoofsModel", "overWith", "[J", true)
  | 35 => ("DrinkingRoofsModel", "rowOf", "[I", true)
  | 36 => ("DrinkingRoofsModel", "triedSet", "[I", true)
  | 37 => ("DrinkingRoofsModel", "bestSet", "[I", true)
  | 38 => ("DrinkingRoofsModel", "clogAt", "[[I", true)
  | 39 => ("DrinkingRoofsModel", "heldAt", "[[I", true)
  | 40 => ("DrinkingRoofsModel", "snowAt", "[[I", true)
  | 41 => ("DrinkingRoofsModel", "rowMany", "I", false)
  | 42 => ("DrinkingRoofsModel", "leastCleaned", "I", false)
  | _ => ("DrinkingRoofsModel", "must", "[I", true)
def tyX11 : Nat → FieldType := fun k => match k with
  | 0 => .array .int
  | 1 => .array .int
  | 2 => .boolean
  | 3 => .array .int
  | 4 => .array .int
  | 5 => .array .int
  | 6 => .array .int
  | 7 => .array .int
  | 8 => .int
  | 9 => .int
  | 10 => .int
  | 11 => .int
  | 12 => .int
  | 13 => .int
  | 14 => .int
  | 15 => .int
  | 16 => .int
  | 17 => .int
  | 18 => .int
  | 19 => .int
  | 20 => .array .int
  | 21 => .array .int
  | 22 => .array .int
  | 23 => .array .int
  | 24 => .array .int
  | 25 => .array .int
  | 26 => .array .int
  | 27 => .array .int
  | 28 => .array .int
  | 29 => .array .int
  | 30 => .int
  | 31 => .int
  | 32 => .int
  | 33 => .boolean
  | 34 => .array .long
  | 35 => .array .int
  | 36 => .array .int
  | 37 => .array .int
  | 38 => .array (.array .int)
  | 39 => .array (.array .int)
  | 40 => .array (.array .int)
  | 41 => .int
  | 42 => .int
  | _ => .array .int
abbrev wsX110 : List Cond := u_ws RX11 TX11 44
theorem nmX11 : ∀ a, a < 44 → ∀ b, b < 44 → a ≠ b → (TX11 a).2.1 ≠ (TX11 b).2.1 := by decide +kernel
theorem tyX11_ok : ∀ k, k < 44 → parseFieldDescriptor (TX11 k).2.2.1 = some (tyX11 k) := by decide +kernel
abbrev cX11_init : ByteArray := prog_13_method_1_code
def yX11_init : MethodName := ⟨RX11, "<init>", "()V"⟩
abbrev cX11_isIn : ByteArray := prog_13_method_2_code
def yX11_isIn : MethodName := ⟨RX11, "isIn", "(III)Z"⟩
abbrev cX11_least : ByteArray := prog_13_method_3_code
def yX11_least : MethodName := ⟨RX11, "least", "(II)I"⟩
abbrev cX11_most : ByteArray := prog_13_method_4_code
def yX11_most : MethodName := ⟨RX11, "most", "(II)I"⟩
abbrev cX11_isHouse : ByteArray := prog_13_method_5_code
def yX11_isHouse : MethodName := ⟨RX11, "isHouse", "(I)Z"⟩
abbrev cX11_isStorm : ByteArray := prog_13_method_6_code
def yX11_isStorm : MethodName := ⟨RX11, "isStorm", "(I)Z"⟩
abbrev cX11_own : ByteArray := prog_13_method_7_code
def yX11_own : MethodName := ⟨RX11, "own", "(II)I"⟩
abbrev cX11_gives : ByteArray := prog_13_method_8_code
def yX11_gives : MethodName := ⟨RX11, "gives", "(III)V"⟩
abbrev cX11_house : ByteArray := prog_13_method_9_code
def yX11_house : MethodName := ⟨RX11, "house", "(IIII)I"⟩
abbrev cX11_next : ByteArray := prog_13_method_10_code
def yX11_next : MethodName := ⟨RX11, "next", "(II)Z"⟩
abbrev cX11_tell : ByteArray := prog_13_method_11_code
def yX11_tell : MethodName := ⟨RX11, "tell", "(III)Z"⟩
abbrev cX11_storm : ByteArray := prog_13_method_12_code
def yX11_storm : MethodName := ⟨RX11, "storm", "(I)I"⟩
abbrev cX11_hoursOf : ByteArray := prog_13_method_13_code
def yX11_hoursOf : MethodName := ⟨RX11, "hoursOf", "(I)I"⟩
abbrev cX11_fallOf : ByteArray := prog_13_method_14_code
def yX11_fallOf : MethodName := ⟨RX11, "fallOf", "(II)I"⟩
abbrev cX11_isSnow : ByteArray := prog_13_method_15_code
def yX11_isSnow : MethodName := ⟨RX11, "isSnow", "(II)Z"⟩
abbrev cX11_fall : ByteArray := prog_13_method_16_code
def yX11_fall : MethodName := ⟨RX11, "fall", "(IIIZ)Z"⟩
abbrev cX11_feed : ByteArray := prog_13_method_17_code
def yX11_feed : MethodName := ⟨RX11, "feed", "(IIIII)I"⟩
abbrev cX11_end : ByteArray := prog_13_method_18_code
def yX11_end : MethodName := ⟨RX11, "end", "(I)Z"⟩
abbrev cX11_see : ByteArray := prog_13_method_19_code
def yX11_see : MethodName := ⟨RX11, "see", "(I)I"⟩
abbrev cX11_isLetter : ByteArray := prog_13_method_20_code
def yX11_isLetter : MethodName := ⟨RX11, "isLetter", "(I)Z"⟩
abbrev cX11_isDigit : ByteArray := prog_13_method_21_code
def yX11_isDigit : MethodName := ⟨RX11, "isDigit", "(I)Z"⟩
abbrev cX11_is : ByteArray := prog_13_method_22_code
def yX11_is : MethodName := ⟨RX11, "is", "(Ljava/lang/String;)Z"⟩
abbrev cX11_nameWord : ByteArray := prog_13_method_23_code
def yX11_nameWord : MethodName := ⟨RX11, "nameWord", "()I"⟩
abbrev cX11_word : ByteArray := prog_13_method_24_code
def yX11_word : MethodName := ⟨RX11, "word", "()I"⟩
abbrev cX11_next0 : ByteArray := prog_13_method_25_code
def yX11_next0 : MethodName := ⟨RX11, "next0", "()V"⟩
abbrev cX11_bad : ByteArray := prog_13_method_26_code
def yX11_bad : MethodName := ⟨RX11, "bad", "(I)Z"⟩
abbrev cX11_need : ByteArray := prog_13_method_27_code
def yX11_need : MethodName := ⟨RX11, "need", "(I)Z"⟩
abbrev cX11_lay : ByteArray := prog_13_method_28_code
def yX11_lay : MethodName := ⟨RX11, "lay", "(II)V"⟩
abbrev cX11_opens : ByteArray := prog_13_method_29_code
def yX11_opens : MethodName := ⟨RX11, "opens", "()Z"⟩
abbrev cX11_sumUp : ByteArray := prog_13_method_30_code
def yX11_sumUp : MethodName := ⟨RX11, "sumUp", "()Z"⟩
abbrev cX11_product : ByteArray := prog_13_method_31_code
def yX11_product : MethodName := ⟨RX11, "product", "()Z"⟩
abbrev cX11_unit : ByteArray := prog_13_method_32_code
def yX11_unit : MethodName := ⟨RX11, "unit", "()Z"⟩
abbrev cX11_any : ByteArray := prog_13_method_33_code
def yX11_any : MethodName := ⟨RX11, "any", "()Z"⟩
abbrev cX11_every : ByteArray := prog_13_method_34_code
def yX11_every : MethodName := ⟨RX11, "every", "()Z"⟩
abbrev cX11_oneTest : ByteArray := prog_13_method_35_code
def yX11_oneTest : MethodName := ⟨RX11, "oneTest", "()Z"⟩
abbrev cX11_aLine : ByteArray := prog_13_method_36_code
def yX11_aLine : MethodName := ⟨RX11, "aLine", "()Z"⟩
abbrev cX11_text : ByteArray := prog_13_method_37_code
def yX11_text : MethodName := ⟨RX11, "text", "()I"⟩
abbrev cX11_fault : ByteArray := prog_13_method_38_code
def yX11_fault : MethodName := ⟨RX11, "fault", "(I)I"⟩
abbrev cX11_both : ByteArray := prog_13_method_39_code
def yX11_both : MethodName := ⟨RX11, "both", "(III)I"⟩
abbrev cX11_comesTo : ByteArray := prog_13_method_40_code
def yX11_comesTo : MethodName := ⟨RX11, "comesTo", "(II)I"⟩
abbrev cX11_laysHouses : ByteArray := prog_13_method_41_code
def yX11_laysHouses : MethodName := ⟨RX11, "laysHouses", "()V"⟩
abbrev cX11_writes : ByteArray := prog_13_method_42_code
def yX11_writes : MethodName := ⟨RX11, "writes", "(IIII)V"⟩
abbrev cX11_gets : ByteArray := prog_13_method_43_code
def yX11_gets : MethodName := ⟨RX11, "gets", "(II)I"⟩
abbrev cX11_runs : ByteArray := prog_13_method_44_code
def yX11_runs : MethodName := ⟨RX11, "runs", "(I)I"⟩
abbrev cX11_pays : ByteArray := prog_13_method_45_code
def yX11_pays : MethodName := ⟨RX11, "pays", "(II)I"⟩
abbrev cX11_comes : ByteArray := prog_13_method_46_code
def yX11_comes : MethodName := ⟨RX11, "comes", "(I)I"⟩
abbrev cX11_of : ByteArray := prog_13_method_47_code
def yX11_of : MethodName := ⟨RX11, "of", "(II)I"⟩
abbrev cX11_hour : ByteArray := prog_13_method_48_code
def yX11_hour : MethodName := ⟨RX11, "hour", "(III)I"⟩
abbrev cX11_count : ByteArray := prog_13_method_49_code
def yX11_count : MethodName := ⟨RX11, "count", "(I)I"⟩
abbrev cX11_orders : ByteArray := prog_13_method_50_code
def yX11_orders : MethodName := ⟨RX11, "orders", "(I)J"⟩
abbrev cX11_overAt : ByteArray := prog_13_method_51_code
def yX11_overAt : MethodName := ⟨RX11, "overAt", "(III)I"⟩
abbrev cX11_blame : ByteArray := prog_13_method_52_code
def yX11_blame : MethodName := ⟨RX11, "blame", "(IIII)J"⟩
abbrev cX11_goesOn : ByteArray := prog_13_method_53_code
def yX11_goesOn : MethodName := ⟨RX11, "goesOn", "(II)V"⟩
abbrev cX11_cleanings : ByteArray := prog_13_method_54_code
def yX11_cleanings : MethodName := ⟨RX11, "cleanings", "(IIIII)I"⟩
abbrev cX11_gutters : ByteArray := prog_13_method_55_code
def yX11_gutters : MethodName := ⟨RX11, "gutters", "(II)I"⟩
abbrev cX11_stains : ByteArray := prog_13_method_56_code
def yX11_stains : MethodName := ⟨RX11, "stains", "(II)I"⟩
abbrev cX11_drain : ByteArray := prog_13_method_57_code
def yX11_drain : MethodName := ⟨RX11, "drain", "(I)I"⟩
abbrev cX11_movesDown : ByteArray := prog_13_method_58_code
def yX11_movesDown : MethodName := ⟨RX11, "movesDown", "(I)V"⟩
abbrev cX11_added : ByteArray := prog_13_method_59_code
def yX11_added : MethodName := ⟨RX11, "added", "(IIII)I"⟩
abbrev cX11_image : ByteArray := prog_13_method_60_code
def yX11_image : MethodName := ⟨RX11, "image", "(Z)Z"⟩
abbrev cX11_look : ByteArray := prog_13_method_61_code
def yX11_look : MethodName := ⟨RX11, "look", "(I)I"⟩
def RJ11 : String := "java/lang/Character"
def TJ11 : u_T := fun k => match k with
  | _ => ("", "", "", false)
def tyJ11 : Nat → FieldType := fun k => match k with
  | _ => .int
abbrev wsJ110 : List Cond := u_ws RJ11 TJ11 0
theorem nmJ11 : ∀ a, a < 0 → ∀ b, b < 0 → a ≠ b → (TJ11 a).2.1 ≠ (TJ11 b).2.1 := by decide +kernel
theorem tyJ11_ok : ∀ k, k < 0 → parseFieldDescriptor (TJ11 k).2.2.1 = some (tyJ11 k) := by decide +kernel
abbrev cJ11_isValidCodePoint_9a6ad : ByteArray := prog_14_method_11_code
def yJ11_isValidCodePoint_9a6ad : MethodName := ⟨RJ11, "isValidCodePoint", "(I)Z"⟩
abbrev cJ11_highSurrogate_5068e : ByteArray := prog_14_method_28_code
def yJ11_highSurrogate_5068e : MethodName := ⟨RJ11, "highSurrogate", "(I)C"⟩
abbrev cJ11_lowSurrogate_5068e : ByteArray := prog_14_method_29_code
def yJ11_lowSurrogate_5068e : MethodName := ⟨RJ11, "lowSurrogate", "(I)C"⟩
def RJ6 : String := "java/lang/Integer"
def TJ6 : u_T := fun k => match k with
  | _ => ("", "", "", false)
def tyJ6 : Nat → FieldType := fun k => match k with
  | _ => .int
abbrev wsJ60 : List Cond := u_ws RJ6 TJ6 0
theorem nmJ6 : ∀ a, a < 0 → ∀ b, b < 0 → a ≠ b → (TJ6 a).2.1 ≠ (TJ6 b).2.1 := by decide +kernel
theorem tyJ6_ok : ∀ k, k < 0 → parseFieldDescriptor (TJ6 k).2.2.1 = some (tyJ6 k) := by decide +kernel
abbrev cJ6_bitCount_0f7a4 : ByteArray := prog_15_method_49_code
def yJ6_bitCount_0f7a4 : MethodName := ⟨RJ6, "bitCount", "(I)I"⟩
def RJ9 : String := "java/lang/Math"
def TJ9 : u_T := fun k => match k with
  | _ => ("", "", "", false)
def tyJ9 : Nat → FieldType := fun k => match k with
  | _ => .int
abbrev wsJ90 : List Cond := u_ws RJ9 TJ9 0
theorem nmJ9 : ∀ a, a < 0 → ∀ b, b < 0 → a ≠ b → (TJ9 a).2.1 ≠ (TJ9 b).2.1 := by decide +kernel
theorem tyJ9_ok : ∀ k, k < 0 → parseFieldDescriptor (TJ9 k).2.2.1 = some (tyJ9 k) := by decide +kernel
abbrev cJ9_abs_0f7a4 : ByteArray := prog_16_method_59_code
def yJ9_abs_0f7a4 : MethodName := ⟨RJ9, "abs", "(I)I"⟩
abbrev cJ9_abs_067f4 : ByteArray := prog_16_method_61_code
def yJ9_abs_067f4 : MethodName := ⟨RJ9, "abs", "(J)J"⟩
abbrev cJ9_max_7cf53 : ByteArray := prog_16_method_65_code
def yJ9_max_7cf53 : MethodName := ⟨RJ9, "max", "(II)I"⟩
abbrev cJ9_max_f86c9 : ByteArray := prog_16_method_66_code
def yJ9_max_f86c9 : MethodName := ⟨RJ9, "max", "(JJ)J"⟩
abbrev cJ9_min_7cf53 : ByteArray := prog_16_method_69_code
def yJ9_min_7cf53 : MethodName := ⟨RJ9, "min", "(II)I"⟩
def RJ0 : String := "java/lang/String"
def TJ0 : u_T := fun k => match k with
  | _ => ("", "", "", false)
def tyJ0 : Nat → FieldType := fun k => match k with
  | _ => .int
abbrev wsJ00 : List Cond := u_ws RJ0 TJ0 0
theorem nmJ0 : ∀ a, a < 0 → ∀ b, b < 0 → a ≠ b → (TJ0 a).2.1 ≠ (TJ0 b).2.1 := by decide +kernel
theorem tyJ0_ok : ∀ k, k < 0 → parseFieldDescriptor (TJ0 k).2.2.1 = some (tyJ0 k) := by decide +kernel
abbrev cJ0_length_8abf5 : ByteArray := prog_17_method_54_code
def yJ0_length_8abf5 : MethodName := ⟨RJ0, "length", "()I"⟩
abbrev cJ0_charAt_5068e : ByteArray := prog_17_method_56_code
def yJ0_charAt_5068e : MethodName := ⟨RJ0, "charAt", "(I)C"⟩
abbrev cJ0_indexOf_0f7a4 : ByteArray := prog_17_method_79_code
def yJ0_indexOf_0f7a4 : MethodName := ⟨RJ0, "indexOf", "(I)I"⟩
abbrev cJ0_indexOf_7cf53 : ByteArray := prog_17_method_80_code
def yJ0_indexOf_7cf53 : MethodName := ⟨RJ0, "indexOf", "(II)I"⟩
abbrev cJ0_coder_7d493 : ByteArray := prog_17_method_152_code
def yJ0_coder_7d493 : MethodName := ⟨RJ0, "coder", "()B"⟩
abbrev cJ0_isLatin1_aae02 : ByteArray := prog_17_method_154_code
def yJ0_isLatin1_aae02 : MethodName := ⟨RJ0, "isLatin1", "()Z"⟩
abbrev cJ0_checkIndex_df160 : ByteArray := prog_17_method_155_code
def yJ0_checkIndex_df160 : MethodName := ⟨RJ0, "checkIndex", "(II)V"⟩
abbrev cJ0_checkBoundsBeginEnd_23922 : ByteArray := prog_17_method_158_code
def yJ0_checkBoundsBeginEnd_23922 : MethodName := ⟨RJ0, "checkBoundsBeginEnd", "(III)V"⟩
def RJ1 : String := "java/lang/StringLatin1"
def TJ1 : u_T := fun k => match k with
  | _ => ("", "", "", false)
def tyJ1 : Nat → FieldType := fun k => match k with
  | _ => .int
abbrev wsJ10 : List Cond := u_ws RJ1 TJ1 0
theorem nmJ1 : ∀ a, a < 0 → ∀ b, b < 0 → a ≠ b → (TJ1 a).2.1 ≠ (TJ1 b).2.1 := by decide +kernel
theorem tyJ1_ok : ∀ k, k < 0 → parseFieldDescriptor (TJ1 k).2.2.1 = some (tyJ1 k) := by decide +kernel
abbrev cJ1_charAt_3b067 : ByteArray := prog_18_method_2_code
def yJ1_charAt_3b067 : MethodName := ⟨RJ1, "charAt", "([BI)C"⟩
abbrev cJ1_canEncode_9a6ad : ByteArray := prog_18_method_4_code
def yJ1_canEncode_9a6ad : MethodName := ⟨RJ1, "canEncode", "(I)Z"⟩
abbrev cJ1_indexOf_4cfef : ByteArray := prog_18_method_22_code
def yJ1_indexOf_4cfef : MethodName := ⟨RJ1, "indexOf", "([BIII)I"⟩
abbrev cJ1_indexOfChar_4cfef : ByteArray := prog_18_method_23_code
def yJ1_indexOfChar_4cfef : MethodName := ⟨RJ1, "indexOfChar", "([BIII)I"⟩
def RJ2 : String := "java/lang/StringUTF16"
def TJ2 : u_T := fun k => match k with
  | _ => ("", "", "", false)
def tyJ2 : Nat → FieldType := fun k => match k with
  | _ => .int
abbrev wsJ20 : List Cond := u_ws RJ2 TJ2 0
theorem nmJ2 : ∀ a, a < 0 → ∀ b, b < 0 → a ≠ b → (TJ2 a).2.1 ≠ (TJ2 b).2.1 := by decide +kernel
theorem tyJ2_ok : ∀ k, k < 0 → parseFieldDescriptor (TJ2 k).2.2.1 = some (tyJ2 k) := by decide +kernel
abbrev cJ2_getChar_3b067 : ByteArray := prog_19_method_5_code
def yJ2_getChar_3b067 : MethodName := ⟨RJ2, "getChar", "([BI)C"⟩
abbrev cJ2_length_9d52b : ByteArray := prog_19_method_6_code
def yJ2_length_9d52b : MethodName := ⟨RJ2, "length", "([B)I"⟩
abbrev cJ2_indexOf_4cfef : ByteArray := prog_19_method_40_code
def yJ2_indexOf_4cfef : MethodName := ⟨RJ2, "indexOf", "([BIII)I"⟩
abbrev cJ2_indexOfChar_4cfef : ByteArray := prog_19_method_47_code
def yJ2_indexOfChar_4cfef : MethodName := ⟨RJ2, "indexOfChar", "([BIII)I"⟩
abbrev cJ2_indexOfCharUnsafe_4cfef : ByteArray := prog_19_method_48_code
def yJ2_indexOfCharUnsafe_4cfef : MethodName := ⟨RJ2, "indexOfCharUnsafe", "([BIII)I"⟩
abbrev cJ2_indexOfSupplementary_4cfef : ByteArray := prog_19_method_49_code
def yJ2_indexOfSupplementary_4cfef : MethodName := ⟨RJ2, "indexOfSupplementary", "([BIII)I"⟩
abbrev cJ2_charAt_3b067 : ByteArray := prog_19_method_83_code
def yJ2_charAt_3b067 : MethodName := ⟨RJ2, "charAt", "([BI)C"⟩
abbrev cJ2_checkIndex_2214a : ByteArray := prog_19_method_91_code
def yJ2_checkIndex_2214a : MethodName := ⟨RJ2, "checkIndex", "(I[B)V"⟩
abbrev cJ2_checkBoundsBeginEnd_d044e : ByteArray := prog_19_method_93_code
def yJ2_checkBoundsBeginEnd_d044e : MethodName := ⟨RJ2, "checkBoundsBeginEnd", "(II[B)V"⟩
def RJ10 : String := "java/lang/System"
def TJ10 : u_T := fun k => match k with
  | _ => ("", "", "", false)
def tyJ10 : Nat → FieldType := fun k => match k with
  | _ => .int
abbrev wsJ100 : List Cond := u_ws RJ10 TJ10 0
theorem nmJ10 : ∀ a, a < 0 → ∀ b, b < 0 → a ≠ b → (TJ10 a).2.1 ≠ (TJ10 b).2.1 := by decide +kernel
theorem tyJ10_ok : ∀ k, k < 0 → parseFieldDescriptor (TJ10 k).2.2.1 = some (tyJ10 k) := by decide +kernel
def RJ3 : String := "jdk/internal/util/Preconditions"
def TJ3 : u_T := fun k => match k with
  | _ => ("", "", "", false)
def tyJ3 : Nat → FieldType := fun k => match k with
  | _ => .int
abbrev wsJ30 : List Cond := u_ws RJ3 TJ3 0
theorem nmJ3 : ∀ a, a < 0 → ∀ b, b < 0 → a ≠ b → (TJ3 a).2.1 ≠ (TJ3 b).2.1 := by decide +kernel
theorem tyJ3_ok : ∀ k, k < 0 → parseFieldDescriptor (TJ3 k).2.2.1 = some (tyJ3 k) := by decide +kernel
abbrev cJ3_checkIndex_8e157 : ByteArray := prog_21_method_11_code
def yJ3_checkIndex_8e157 : MethodName := ⟨RJ3, "checkIndex", "(IILjava/util/function/BiFunction;)I"⟩
abbrev cJ3_checkFromToIndex_8c36e : ByteArray := prog_21_method_12_code
def yJ3_checkFromToIndex_8c36e : MethodName := ⟨RJ3, "checkFromToIndex", "(IIILjava/util/function/BiFunction;)I"⟩
def RL : String := "DrinkingRoofsLaw"
abbrev cL_law : ByteArray := code
def yL_law : MethodName := ⟨RL, "law", "([I)Z"⟩
set_option maxRecDepth 20000 in
theorem inX0 : ∀ w ∈ wsX00, w ∈ lw_tbl := by decide +kernel
set_option maxRecDepth 20000 in
theorem inX1 : ∀ w ∈ wsX10, w ∈ lw_tbl := by decide +kernel
set_option maxRecDepth 20000 in
theorem inX2 : ∀ w ∈ wsX20, w ∈ lw_tbl := by decide +kernel
set_option maxRecDepth 20000 in
theorem inX3 : ∀ w ∈ wsX30, w ∈ lw_tbl := by decide +kernel
set_option maxRecDepth 20000 in
theorem inX4 : ∀ w ∈ wsX40, w ∈ lw_tbl := by decide +kernel
set_option maxRecDepth 20000 in
theorem inX5 : ∀ w ∈ wsX50, w ∈ lw_tbl := by decide +kernel
set_option maxRecDepth 20000 in
theorem inX6 : ∀ w ∈ wsX60, w ∈ lw_tbl := by decide +kernel
set_option maxRecDepth 20000 in
theorem inX7 : ∀ w ∈ wsX70, w ∈ lw_tbl := by decide +kernel
set_option maxRecDepth 20000 in
theorem inX8 : ∀ w ∈ wsX80, w ∈ lw_tbl := by decide +kernel
set_option maxRecDepth 20000 in
theorem inX9 : ∀ w ∈ wsX90, w ∈ lw_tbl := by decide +kernel
set_option maxRecDepth 20000 in
theorem inX10 : ∀ w ∈ wsX100, w ∈ lw_tbl := by decide +kernel
set_option maxRecDepth 20000 in
theorem inX11 : ∀ w ∈ wsX110, w ∈ lw_tbl := by decide +kernel
set_option maxRecDepth 20000 in
theorem inJ11 : ∀ w ∈ wsJ110, w ∈ lw_tbl := by decide +kernel
set_option maxRecDepth 20000 in
theorem inJ6 : ∀ w ∈ wsJ60, w ∈ lw_tbl := by decide +kernel
set_option maxRecDepth 20000 in
theorem inJ9 : ∀ w ∈ wsJ90, w ∈ lw_tbl := by decide +kernel
set_option maxRecDepth 20000 in
theorem inJ0 : ∀ w ∈ wsJ00, w ∈ lw_tbl := by decide +kernel
set_option maxRecDepth 20000 in
theorem inJ1 : ∀ w ∈ wsJ10, w ∈ lw_tbl := by decide +kernel
set_option maxRecDepth 20000 in
theorem inJ2 : ∀ w ∈ wsJ20, w ∈ lw_tbl := by decide +kernel
set_option maxRecDepth 20000 in
theorem inJ10 : ∀ w ∈ wsJ100, w ∈ lw_tbl := by decide +kernel
set_option maxRecDepth 20000 in
theorem inJ3 : ∀ w ∈ wsJ30, w ∈ lw_tbl := by decide +kernel
abbrev vwCl : List vw_C := [(RX0, TX0, 5), (RX1, TX1, 5), (RX2, TX2, 19), (RX3, TX3, 6), (RX4, TX4, 11), (RX5, TX5, 3), (RX6, TX6, 6), (RX7, TX7, 3), (RX8, TX8, 12), (RX9, TX9, 6), (RX10, TX10, 9), (RX11, TX11, 44)]
