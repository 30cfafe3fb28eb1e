/-! ===== BEGIN words of one list among another's, by their places ===== -/
theorem goodIn_r {big : List Cond} (ws : List Cond) (ps : List Nat) (hp : ws = ps.filterMap (fun i => big[i]?)) (h : ws.all goodWord = true) : GoodIn big ws := by
  intro w hw
  have h1 := List.all_eq_true.mp h w hw
  rw [hp] at hw
  obtain ⟨i, -, hi⟩ := List.mem_filterMap.mp hw
  have hm : w ∈ big := by first | exact List.mem_of_getElem? hi | exact List.getElem?_mem hi
  exact ⟨hm, good_of_word h1⟩
theorem goodIn_app {big a b : List Cond} (ha : GoodIn big a) (hb : GoodIn big b) : GoodIn big (a ++ b) := fun w h => (List.mem_append.mp h).elim (ha w) (hb w)
theorem goodIn_ca {big a b : List Cond} {c : Cond} (ha : GoodIn big (c :: a)) (hb : GoodIn big b) : GoodIn big (c :: (a ++ b)) := fun w h => (List.mem_cons.mp h).elim (fun e => ha w (List.mem_cons.mpr (Or.inl e))) (fun h => (List.mem_append.mp h).elim (fun h => ha w (List.mem_cons.mpr (Or.inr h))) (hb w))
theorem goodIn_sub {big ws : List Cond} (hm : ∀ w ∈ ws, w ∈ big) (h : ws.all goodWord = true) : GoodIn big ws := fun w hw => ⟨hm w hw, good_of_word (List.all_eq_true.mp h w hw)⟩
/-! ===== END ===== -/

/-! ===== BEGIN printed: names, fields, word lists, decode rows ===== -/
def RX0 : String := "FogNets$Coast"
def TX0 : u_T := fun k => match k with
  | 0 => ("FogNets$Coast", "cells", "I", false)
  | 1 => ("FogNets$Coast", "burns", "I", false)
  | 2 => ("FogNets$Coast", "hours", "I", false)
  | 3 => ("FogNets$Coast", "posts", "I", false)
  | 4 => ("FogNets$Coast", "goats", "I", false)
  | 5 => ("FogNets$Coast", "side", "[I", true)
  | 6 => ("FogNets$Coast", "thickness", "[I", true)
  | 7 => ("FogNets$Coast", "firstCell", "[I", true)
  | 8 => ("FogNets$Coast", "firstMesh", "[I", true)
  | 9 => ("FogNets$Coast", "jarSize", "[I", true)
  | 10 => ("FogNets$Coast", "owner", "[I", true)
  | 11 => ("FogNets$Coast", "hangDays", "[I", true)
  | 12 => ("FogNets$Coast", "uses", "[I", true)
  | 13 => ("FogNets$Coast", "goatCell", "[I", true)
  | _ => ("FogNets$Coast", "goatDrinks", "[I", true)
def tyX0 : Nat → FieldType := fun k => match k with
  | 0 => .int
  | 1 => .int
  | 2 => .int
  | 3 => .int
  | 4 => .int
  | 5 => .array .int
  | 6 => .array .int
  | 7 => .array .int
  | 8 => .array .int
  | 9 => .array .int
  | 10 => .array .int
  | 11 => .array .int
  | 12 => .array .int
  | 13 => .array .int
  | _ => .array .int
abbrev wsX00 : List Cond := u_ws RX0 TX0 15
theorem nmX0 : ∀ a, a < 15 → ∀ b, b < 15 → a ≠ b → (TX0 a).2.1 ≠ (TX0 b).2.1 := by decide +kernel
theorem tyX0_ok : ∀ k, k < 15 → parseFieldDescriptor (TX0 k).2.2.1 = some (tyX0 k) := by decide +kernel
abbrev cX0_init : ByteArray := prog_2_method_1_code
def yX0_init : MethodName := ⟨RX0, "<init>", "()V"⟩
abbrev cX0_wipe : ByteArray := prog_2_method_2_code
def yX0_wipe : MethodName := ⟨RX0, "wipe", "()V"⟩
abbrev cX0_hoursOfDay : ByteArray := prog_2_method_3_code
def yX0_hoursOfDay : MethodName := ⟨RX0, "hoursOfDay", "()I"⟩
abbrev cX0_sideAt : ByteArray := prog_2_method_4_code
def yX0_sideAt : MethodName := ⟨RX0, "sideAt", "(I)I"⟩
abbrev cX0_fogAt : ByteArray := prog_2_method_5_code
def yX0_fogAt : MethodName := ⟨RX0, "fogAt", "(I)I"⟩
abbrev cX0_hangsOn : ByteArray := prog_2_method_6_code
def yX0_hangsOn : MethodName := ⟨RX0, "hangsOn", "(II)Z"⟩
abbrev cX0_postsOf : ByteArray := prog_2_method_7_code
def yX0_postsOf : MethodName := ⟨RX0, "postsOf", "(I)I"⟩
abbrev cX0_hasPostIn : ByteArray := prog_2_method_8_code
def yX0_hasPostIn : MethodName := ⟨RX0, "hasPostIn", "(I)Z"⟩
def RX1 : String := "FogNets$Notes"
def TX1 : u_T := fun k => match k with
  | 0 => ("FogNets$Notes", "posts", "[I", true)
  | 1 => ("FogNets$Notes", "sides", "[I", true)
  | 2 => ("FogNets$Notes", "amounts", "[I", true)
  | _ => ("FogNets$Notes", "many", "I", false)
def tyX1 : Nat → FieldType := fun k => match k with
  | 0 => .array .int
  | 1 => .array .int
  | 2 => .array .int
  | _ => .int
abbrev wsX10 : List Cond := u_ws RX1 TX1 4
theorem nmX1 : ∀ a, a < 4 → ∀ b, b < 4 → a ≠ b → (TX1 a).2.1 ≠ (TX1 b).2.1 := by decide +kernel
theorem tyX1_ok : ∀ k, k < 4 → parseFieldDescriptor (TX1 k).2.2.1 = some (tyX1 k) := by decide +kernel
abbrev cX1_init : ByteArray := prog_3_method_1_code
def yX1_init : MethodName := ⟨RX1, "<init>", "(I)V"⟩
abbrev cX1_note : ByteArray := prog_3_method_2_code
def yX1_note : MethodName := ⟨RX1, "note", "(III)I"⟩
def RX2 : String := "FogNets$Past"
def TX2 : u_T := fun k => match k with
  | 0 => ("FogNets$Past", "ring", "[LFogNets$State;", true)
  | 1 => ("FogNets$Past", "oldest", "I", false)
  | _ => ("FogNets$Past", "many", "I", false)
def tyX2 : Nat → FieldType := fun k => match k with
  | 0 => .array (.object "FogNets$State")
  | 1 => .int
  | _ => .int
abbrev wsX20 : List Cond := u_ws RX2 TX2 3
theorem nmX2 : ∀ a, a < 3 → ∀ b, b < 3 → a ≠ b → (TX2 a).2.1 ≠ (TX2 b).2.1 := by decide +kernel
theorem tyX2_ok : ∀ k, k < 3 → parseFieldDescriptor (TX2 k).2.2.1 = some (tyX2 k) := by decide +kernel
abbrev cX2_init : ByteArray := prog_4_method_1_code
def yX2_init : MethodName := ⟨RX2, "<init>", "()V"⟩
abbrev cX2_remember : ByteArray := prog_4_method_2_code
def yX2_remember : MethodName := ⟨RX2, "remember", "(LFogNets$State;)V"⟩
abbrev cX2_takeBack : ByteArray := prog_4_method_3_code
def yX2_takeBack : MethodName := ⟨RX2, "takeBack", "(LFogNets$State;I)V"⟩
abbrev cX2_stateAt : ByteArray := prog_4_method_4_code
def yX2_stateAt : MethodName := ⟨RX2, "stateAt", "(I)LFogNets$State;"⟩
def RX3 : String := "FogNets$Reader"
def TX3 : u_T := fun k => match k with
  | 0 => ("FogNets$Reader", "letters", "[I", true)
  | 1 => ("FogNets$Reader", "length", "I", false)
  | 2 => ("FogNets$Reader", "place", "I", false)
  | 3 => ("FogNets$Reader", "numberPlace", "I", false)
  | 4 => ("FogNets$Reader", "fault", "I", false)
  | 5 => ("FogNets$Reader", "faultPlace", "I", false)
  | 6 => ("FogNets$Reader", "daysTold", "Z", false)
  | _ => ("FogNets$Reader", "usesTold", "Z", false)
def tyX3 : Nat → FieldType := fun k => match k with
  | 0 => .array .int
  | 1 => .int
  | 2 => .int
  | 3 => .int
  | 4 => .int
  | 5 => .int
  | 6 => .boolean
  | _ => .boolean
abbrev wsX30 : List Cond := u_ws RX3 TX3 8
theorem nmX3 : ∀ a, a < 8 → ∀ b, b < 8 → a ≠ b → (TX3 a).2.1 ≠ (TX3 b).2.1 := by decide +kernel
theorem tyX3_ok : ∀ k, k < 8 → parseFieldDescriptor (TX3 k).2.2.1 = some (tyX3 k) := by decide +kernel
abbrev cX3_init : ByteArray := prog_5_method_1_code
def yX3_init : MethodName := ⟨RX3, "<init>", "()V"⟩
abbrev cX3_append : ByteArray := prog_5_method_2_code
def yX3_append : MethodName := ⟨RX3, "append", "(I)I"⟩
abbrev cX3_readAll : ByteArray := prog_5_method_3_code
def yX3_readAll : MethodName := ⟨RX3, "readAll", "(LFogNets$Coast;)I"⟩
abbrev cX3_letterAt : ByteArray := prog_5_method_4_code
def yX3_letterAt : MethodName := ⟨RX3, "letterAt", "(I)I"⟩
abbrev cX3_nextLetter : ByteArray := prog_5_method_5_code
def yX3_nextLetter : MethodName := ⟨RX3, "nextLetter", "()I"⟩
abbrev cX3_fail : ByteArray := prog_5_method_6_code
def yX3_fail : MethodName := ⟨RX3, "fail", "(II)V"⟩
abbrev cX3_readClause : ByteArray := prog_5_method_7_code
def yX3_readClause : MethodName := ⟨RX3, "readClause", "(LFogNets$Coast;I)V"⟩
abbrev cX3_faultOfWord : ByteArray := prog_5_method_8_code
def yX3_faultOfWord : MethodName := ⟨RX3, "faultOfWord", "(LFogNets$Coast;I)I"⟩
abbrev cX3_readCells : ByteArray := prog_5_method_9_code
def yX3_readCells : MethodName := ⟨RX3, "readCells", "(LFogNets$Coast;)V"⟩
abbrev cX3_readHour : ByteArray := prog_5_method_10_code
def yX3_readHour : MethodName := ⟨RX3, "readHour", "(LFogNets$Coast;)V"⟩
abbrev cX3_readPost : ByteArray := prog_5_method_11_code
def yX3_readPost : MethodName := ⟨RX3, "readPost", "(LFogNets$Coast;)V"⟩
abbrev cX3_readPair : ByteArray := prog_5_method_12_code
def yX3_readPair : MethodName := ⟨RX3, "readPair", "([II)V"⟩
abbrev cX3_readGoat : ByteArray := prog_5_method_13_code
def yX3_readGoat : MethodName := ⟨RX3, "readGoat", "(LFogNets$Coast;)V"⟩
abbrev cX3_readNumber : ByteArray := prog_5_method_14_code
def yX3_readNumber : MethodName := ⟨RX3, "readNumber", "(II)I"⟩
abbrev cX3_readEnd : ByteArray := prog_5_method_15_code
def yX3_readEnd : MethodName := ⟨RX3, "readEnd", "()V"⟩
def RX4 : String := "FogNets$State"
def TX4 : u_T := fun k => match k with
  | 0 => ("FogNets$State", "days", "I", false)
  | 1 => ("FogNets$State", "hour", "I", false)
  | 2 => ("FogNets$State", "lit", "Z", false)
  | 3 => ("FogNets$State", "spilled", "I", false)
  | 4 => ("FogNets$State", "drunk", "I", false)
  | 5 => ("FogNets$State", "cell", "[I", true)
  | 6 => ("FogNets$State", "mesh", "[I", true)
  | 7 => ("FogNets$State", "jar", "[I", true)
  | 8 => ("FogNets$State", "cistern", "[I", true)
  | _ => ("FogNets$State", "thirst", "[I", true)
def tyX4 : Nat → FieldType := fun k => match k with
  | 0 => .int
  | 1 => .int
  | 2 => .boolean
  | 3 => .int
  | 4 => .int
  | 5 => .array .int
  | 6 => .array .int
  | 7 => .array .int
  | 8 => .array .int
  | _ => .array .int
abbrev wsX40 : List Cond := u_ws RX4 TX4 10
theorem nmX4 : ∀ a, a < 10 → ∀ b, b < 10 → a ≠ b → (TX4 a).2.1 ≠ (TX4 b).2.1 := by decide +kernel
theorem tyX4_ok : ∀ k, k < 10 → parseFieldDescriptor (TX4 k).2.2.1 = some (tyX4 k) := by decide +kernel
abbrev cX4_init : ByteArray := prog_6_method_1_code
def yX4_init : MethodName := ⟨RX4, "<init>", "()V"⟩
abbrev cX4_begin : ByteArray := prog_6_method_2_code
def yX4_begin : MethodName := ⟨RX4, "begin", "(LFogNets$Coast;)V"⟩
abbrev cX4_become : ByteArray := prog_6_method_3_code
def yX4_become : MethodName := ⟨RX4, "become", "(LFogNets$State;)V"⟩
abbrev cX4_hanging : ByteArray := prog_6_method_4_code
def yX4_hanging : MethodName := ⟨RX4, "hanging", "(LFogNets$Coast;)I"⟩
abbrev cX4_postIn : ByteArray := prog_6_method_5_code
def yX4_postIn : MethodName := ⟨RX4, "postIn", "(I)I"⟩
abbrev cX4_inJars : ByteArray := prog_6_method_6_code
def yX4_inJars : MethodName := ⟨RX4, "inJars", "()I"⟩
abbrev cX4_lampedFog : ByteArray := prog_6_method_7_code
def yX4_lampedFog : MethodName := ⟨RX4, "lampedFog", "(LFogNets$Coast;I)I"⟩
abbrev cX4_passHour : ByteArray := prog_6_method_8_code
def yX4_passHour : MethodName := ⟨RX4, "passHour", "(LFogNets$Coast;LFogNets$Wind;IIZ)I"⟩
abbrev cX4_endDay : ByteArray := prog_6_method_9_code
def yX4_endDay : MethodName := ⟨RX4, "endDay", "(LFogNets$Coast;Z)V"⟩
abbrev cX4_emptyJarsOf : ByteArray := prog_6_method_10_code
def yX4_emptyJarsOf : MethodName := ⟨RX4, "emptyJarsOf", "(LFogNets$Coast;I)I"⟩
abbrev cX4_loseFromJar : ByteArray := prog_6_method_11_code
def yX4_loseFromJar : MethodName := ⟨RX4, "loseFromJar", "(II)I"⟩
abbrev cX4_counted : ByteArray := prog_6_method_12_code
def yX4_counted : MethodName := ⟨RX4, "counted", "(I)I"⟩
def RX5 : String := "FogNets$Wind"
def TX5 : u_T := fun k => match k with
  | 0 => ("FogNets$Wind", "took", "[I", true)
  | 1 => ("FogNets$Wind", "order", "[I", true)
  | _ => ("FogNets$Wind", "beyond", "I", false)
def tyX5 : Nat → FieldType := fun k => match k with
  | 0 => .array .int
  | 1 => .array .int
  | _ => .int
abbrev wsX50 : List Cond := u_ws RX5 TX5 3
theorem nmX5 : ∀ a, a < 3 → ∀ b, b < 3 → a ≠ b → (TX5 a).2.1 ≠ (TX5 b).2.1 := by decide +kernel
theorem tyX5_ok : ∀ k, k < 3 → parseFieldDescriptor (TX5 k).2.2.1 = some (tyX5 k) := by decide +kernel
abbrev cX5_init : ByteArray := prog_7_method_1_code
def yX5_init : MethodName := ⟨RX5, "<init>", "()V"⟩
abbrev cX5_blow : ByteArray := prog_7_method_2_code
def yX5_blow : MethodName := ⟨RX5, "blow", "(LFogNets$State;IIII)V"⟩
abbrev cX5_takerOf : ByteArray := prog_7_method_3_code
def yX5_takerOf : MethodName := ⟨RX5, "takerOf", "(I)I"⟩
abbrev cX5_lineUp : ByteArray := prog_7_method_4_code
def yX5_lineUp : MethodName := ⟨RX5, "lineUp", "(LFogNets$State;III)V"⟩
def RX6 : String := "FogNets"
def TX6 : u_T := fun k => match k with
  | 0 => ("FogNets", "reader", "LFogNets$Reader;", true)
  | 1 => ("FogNets", "ridge", "LFogNets$Coast;", false)
  | 2 => ("FogNets", "draft", "LFogNets$Coast;", false)
  | 3 => ("FogNets", "now", "LFogNets$State;", true)
  | 4 => ("FogNets", "trial", "LFogNets$State;", true)
  | 5 => ("FogNets", "hauls", "[I", true)
  | 6 => ("FogNets", "wind", "LFogNets$Wind;", true)
  | 7 => ("FogNets", "past", "LFogNets$Past;", true)
  | 8 => ("FogNets", "images", "[LFogNets$State;", true)
  | 9 => ("FogNets", "imageSeeds", "[I", true)
  | 10 => ("FogNets", "seed", "I", false)
  | 11 => ("FogNets", "gotten", "LFogNets$Notes;", true)
  | 12 => ("FogNets", "book", "LFogNets$Notes;", true)
  | _ => ("FogNets", "parts", "[I", true)
def tyX6 : Nat → FieldType := fun k => match k with
  | 0 => .object "FogNets$Reader"
  | 1 => .object "FogNets$Coast"
  | 2 => .object "FogNets$Coast"
  | 3 => .object "FogNets$State"
  | 4 => .object "FogNets$State"
  | 5 => .array .int
  | 6 => .object "FogNets$Wind"
  | 7 => .object "FogNets$Past"
  | 8 => .array (.object "FogNets$State")
  | 9 => .array .int
  | 10 => .int
  | 11 => .object "FogNets$Notes"
  | 12 => .object "FogNets$Notes"
  | _ => .array .int
abbrev wsX60 : List Cond := u_ws RX6 TX6 14
theorem nmX6 : ∀ a, a < 14 → ∀ b, b < 14 → a ≠ b → (TX6 a).2.1 ≠ (TX6 b).2.1 := by decide +kernel
theorem tyX6_ok : ∀ k, k < 14 → parseFieldDescriptor (TX6 k).2.2.1 = some (tyX6 k) := by decide +kernel
abbrev cX6_init : ByteArray := prog_1_method_1_code
def yX6_init : MethodName := ⟨RX6, "<init>", "()V"⟩
abbrev cX6_feed : ByteArray := prog_1_method_2_code
def yX6_feed : MethodName := ⟨RX6, "feed", "(I)I"⟩
abbrev cX6_coast : ByteArray := prog_1_method_3_code
def yX6_coast : MethodName := ⟨RX6, "coast", "()I"⟩
abbrev cX6_fault : ByteArray := prog_1_method_4_code
def yX6_fault : MethodName := ⟨RX6, "fault", "()I"⟩
abbrev cX6_told : ByteArray := prog_1_method_5_code
def yX6_told : MethodName := ⟨RX6, "told", "(I)I"⟩
abbrev cX6_post : ByteArray := prog_1_method_6_code
def yX6_post : MethodName := ⟨RX6, "post", "(II)I"⟩
abbrev cX6_fog : ByteArray := prog_1_method_7_code
def yX6_fog : MethodName := ⟨RX6, "fog", "(II)I"⟩
abbrev cX6_village : ByteArray := prog_1_method_8_code
def yX6_village : MethodName := ⟨RX6, "village", "(II)I"⟩
abbrev cX6_goat : ByteArray := prog_1_method_9_code
def yX6_goat : MethodName := ⟨RX6, "goat", "(II)I"⟩
abbrev cX6_hour : ByteArray := prog_1_method_10_code
def yX6_hour : MethodName := ⟨RX6, "hour", "(I)I"⟩
abbrev cX6_carry : ByteArray := prog_1_method_11_code
def yX6_carry : MethodName := ⟨RX6, "carry", "(I)I"⟩
abbrev cX6_lick : ByteArray := prog_1_method_12_code
def yX6_lick : MethodName := ⟨RX6, "lick", "(II)I"⟩
abbrev cX6_mesh : ByteArray := prog_1_method_13_code
def yX6_mesh : MethodName := ⟨RX6, "mesh", "(II)I"⟩
abbrev cX6_move : ByteArray := prog_1_method_14_code
def yX6_move : MethodName := ⟨RX6, "move", "(II)I"⟩
abbrev cX6_lamp : ByteArray := prog_1_method_15_code
def yX6_lamp : MethodName := ⟨RX6, "lamp", "(Z)I"⟩
abbrev cX6_drift : ByteArray := prog_1_method_16_code
def yX6_drift : MethodName := ⟨RX6, "drift", "(I)I"⟩
abbrev cX6_undo : ByteArray := prog_1_method_17_code
def yX6_undo : MethodName := ⟨RX6, "undo", "(I)I"⟩
abbrev cX6_gets : ByteArray := prog_1_method_18_code
def yX6_gets : MethodName := ⟨RX6, "gets", "(II)I"⟩
abbrev cX6_left : ByteArray := prog_1_method_21_code
def yX6_left : MethodName := ⟨RX6, "left", "()I"⟩
abbrev cX6_bestMesh : ByteArray := prog_1_method_22_code
def yX6_bestMesh : MethodName := ⟨RX6, "bestMesh", "(II)I"⟩
abbrev cX6_bestCell : ByteArray := prog_1_method_23_code
def yX6_bestCell : MethodName := ⟨RX6, "bestCell", "(II)I"⟩
abbrev cX6_lampCosts : ByteArray := prog_1_method_25_code
def yX6_lampCosts : MethodName := ⟨RX6, "lampCosts", "(I)I"⟩
abbrev cX6_thirsty : ByteArray := prog_1_method_26_code
def yX6_thirsty : MethodName := ⟨RX6, "thirsty", "(I)I"⟩
abbrev cX6_lasts : ByteArray := prog_1_method_27_code
def yX6_lasts : MethodName := ⟨RX6, "lasts", "(I)I"⟩
abbrev cX6_share : ByteArray := prog_1_method_30_code
def yX6_share : MethodName := ⟨RX6, "share", "(II)I"⟩
abbrev cX6_led : ByteArray := prog_1_method_31_code
def yX6_led : MethodName := ⟨RX6, "led", "(III)I"⟩
abbrev cX6_yards : ByteArray := prog_1_method_32_code
def yX6_yards : MethodName := ⟨RX6, "yards", "(II)I"⟩
abbrev cX6_got : ByteArray := prog_1_method_34_code
def yX6_got : MethodName := ⟨RX6, "got", "(III)I"⟩
abbrev cX6_thick : ByteArray := prog_1_method_35_code
def yX6_thick : MethodName := ⟨RX6, "thick", "(I)I"⟩
abbrev cX6_lookAt : ByteArray := prog_1_method_36_code
def yX6_lookAt : MethodName := ⟨RX6, "lookAt", "(I)I"⟩
abbrev cX6_needs : ByteArray := prog_1_method_37_code
def yX6_needs : MethodName := ⟨RX6, "needs", "(III)I"⟩
abbrev cX6_tear : ByteArray := prog_1_method_40_code
def yX6_tear : MethodName := ⟨RX6, "tear", "()I"⟩
abbrev cX6_seed : ByteArray := prog_1_method_41_code
def yX6_seed : MethodName := ⟨RX6, "seed", "(I)I"⟩
abbrev cX6_keep : ByteArray := prog_1_method_42_code
def yX6_keep : MethodName := ⟨RX6, "keep", "(I)I"⟩
abbrev cX6_goBack : ByteArray := prog_1_method_43_code
def yX6_goBack : MethodName := ⟨RX6, "goBack", "(I)I"⟩
abbrev cX6_within : ByteArray := prog_1_method_44_code
def yX6_within : MethodName := ⟨RX6, "within", "(III)Z"⟩
abbrev cX6_at : ByteArray := prog_1_method_45_code
def yX6_at : MethodName := ⟨RX6, "at", "([II)I"⟩
abbrev cX6_put : ByteArray := prog_1_method_46_code
def yX6_put : MethodName := ⟨RX6, "put", "([III)V"⟩
abbrev cX6_isBare : ByteArray := prog_1_method_47_code
def yX6_isBare : MethodName := ⟨RX6, "isBare", "()Z"⟩
abbrev cX6_isCell : ByteArray := prog_1_method_48_code
def yX6_isCell : MethodName := ⟨RX6, "isCell", "(I)Z"⟩
abbrev cX6_isPost : ByteArray := prog_1_method_49_code
def yX6_isPost : MethodName := ⟨RX6, "isPost", "(I)Z"⟩
abbrev cX6_isGoat : ByteArray := prog_1_method_50_code
def yX6_isGoat : MethodName := ⟨RX6, "isGoat", "(I)Z"⟩
abbrev cX6_isVillage : ByteArray := prog_1_method_51_code
def yX6_isVillage : MethodName := ⟨RX6, "isVillage", "(I)Z"⟩
abbrev cX6_isOpenTo : ByteArray := prog_1_method_52_code
def yX6_isOpenTo : MethodName := ⟨RX6, "isOpenTo", "(III)Z"⟩
abbrev cX6_imageOf : ByteArray := prog_1_method_53_code
def yX6_imageOf : MethodName := ⟨RX6, "imageOf", "(I)LFogNets$State;"⟩
abbrev cX6_draw : ByteArray := prog_1_method_54_code
def yX6_draw : MethodName := ⟨RX6, "draw", "(I)I"⟩
abbrev cX6_lickByDraws : ByteArray := prog_1_method_55_code
def yX6_lickByDraws : MethodName := ⟨RX6, "lickByDraws", "()V"⟩
abbrev cX6_tryHours : ByteArray := prog_1_method_56_code
def yX6_tryHours : MethodName := ⟨RX6, "tryHours", "(I)I"⟩
abbrev cX6_blowNext : ByteArray := prog_1_method_58_code
def yX6_blowNext : MethodName := ⟨RX6, "blowNext", "(I)V"⟩
abbrev cX6_takenOf : ByteArray := prog_1_method_59_code
def yX6_takenOf : MethodName := ⟨RX6, "takenOf", "(III)I"⟩
abbrev cX6_fitting : ByteArray := prog_1_method_60_code
def yX6_fitting : MethodName := ⟨RX6, "fitting", "()J"⟩
abbrev cX6_fitsAll : ByteArray := prog_1_method_61_code
def yX6_fitsAll : MethodName := ⟨RX6, "fitsAll", "(I)Z"⟩
abbrev cX6_greatestPart : ByteArray := prog_1_method_62_code
def yX6_greatestPart : MethodName := ⟨RX6, "greatestPart", "(JII)I"⟩
def RX7 : String := "FogNetsModel"
def TX7 : u_T := fun k => match k with
  | _ => ("", "", "", false)
def tyX7 : Nat → FieldType := fun k => match k with
  | _ => .int
abbrev wsX70 : List Cond := u_ws RX7 TX7 0
theorem nmX7 : ∀ a, a < 0 → ∀ b, b < 0 → a ≠ b → (TX7 a).2.1 ≠ (TX7 b).2.1 := by decide +kernel
theorem tyX7_ok : ∀ k, k < 0 → parseFieldDescriptor (TX7 k).2.2.1 = some (tyX7 k) := by decide +kernel
def RJ6 : String := "java/lang/Integer"
def TJ6 : u_T := fun k => match k with
  | _ => ("", "", "", false)
def tyJ6 : Nat → FieldType := fun k => match k with
  | _ => .int
theorem nmJ6 : ∀ a, a < 0 → ∀ b, b < 0 → a ≠ b → (TJ6 a).2.1 ≠ (TJ6 b).2.1 := by decide +kernel
theorem tyJ6_ok : ∀ k, k < 0 → parseFieldDescriptor (TJ6 k).2.2.1 = some (tyJ6 k) := by decide +kernel
abbrev cJ6_bitCount_0f7a4 : ByteArray := prog_10_method_49_code
def yJ6_bitCount_0f7a4 : MethodName := ⟨RJ6, "bitCount", "(I)I"⟩
def RJ13 : String := "java/lang/Long"
def TJ13 : u_T := fun k => match k with
  | _ => ("", "", "", false)
def tyJ13 : Nat → FieldType := fun k => match k with
  | _ => .int
theorem nmJ13 : ∀ a, a < 0 → ∀ b, b < 0 → a ≠ b → (TJ13 a).2.1 ≠ (TJ13 b).2.1 := by decide +kernel
theorem tyJ13_ok : ∀ k, k < 0 → parseFieldDescriptor (TJ13 k).2.2.1 = some (tyJ13 k) := by decide +kernel
abbrev cJ13_bitCount_95d88 : ByteArray := prog_11_method_50_code
def yJ13_bitCount_95d88 : MethodName := ⟨RJ13, "bitCount", "(J)I"⟩
def RJ9 : String := "java/lang/Math"
def TJ9 : u_T := fun k => match k with
  | _ => ("", "", "", false)
def tyJ9 : Nat → FieldType := fun k => match k with
  | _ => .int
theorem nmJ9 : ∀ a, a < 0 → ∀ b, b < 0 → a ≠ b → (TJ9 a).2.1 ≠ (TJ9 b).2.1 := by decide +kernel
theorem tyJ9_ok : ∀ k, k < 0 → parseFieldDescriptor (TJ9 k).2.2.1 = some (tyJ9 k) := by decide +kernel
abbrev cJ9_abs_0f7a4 : ByteArray := prog_12_method_59_code
def yJ9_abs_0f7a4 : MethodName := ⟨RJ9, "abs", "(I)I"⟩
abbrev cJ9_max_7cf53 : ByteArray := prog_12_method_65_code
def yJ9_max_7cf53 : MethodName := ⟨RJ9, "max", "(II)I"⟩
abbrev cJ9_min_7cf53 : ByteArray := prog_12_method_69_code
def yJ9_min_7cf53 : MethodName := ⟨RJ9, "min", "(II)I"⟩
def RJ10 : String := "java/lang/System"
def TJ10 : u_T := fun k => match k with
  | _ => ("", "", "", false)
def tyJ10 : Nat → FieldType := fun k => match k with
  | _ => .int
theorem nmJ10 : ∀ a, a < 0 → ∀ b, b < 0 → a ≠ b → (TJ10 a).2.1 ≠ (TJ10 b).2.1 := by decide +kernel
theorem tyJ10_ok : ∀ k, k < 0 → parseFieldDescriptor (TJ10 k).2.2.1 = some (tyJ10 k) := by decide +kernel
def RL : String := "FogNetsLaw"
abbrev cL_cell : ByteArray := method_2_code
def yL_cell : MethodName := ⟨RL, "cell", "([II)I"⟩
abbrev cL_put : ByteArray := method_3_code
def yL_put : MethodName := ⟨RL, "put", "(LFogNets;II)I"⟩
abbrev cL_number : ByteArray := method_4_code
def yL_number : MethodName := ⟨RL, "number", "(LFogNets;III)I"⟩
abbrev cL_numbers : ByteArray := method_5_code
def yL_numbers : MethodName := ⟨RL, "numbers", "([III[I[I)V"⟩
abbrev cL_coast : ByteArray := method_6_code
def yL_coast : MethodName := ⟨RL, "coast", "(LFogNets;[I[I)Z"⟩
abbrev cL_hang : ByteArray := method_7_code
def yL_hang : MethodName := ⟨RL, "hang", "([I[I)I"⟩
abbrev cL_dayLong : ByteArray := method_10_code
def yL_dayLong : MethodName := ⟨RL, "dayLong", "([I)I"⟩
abbrev cL_side : ByteArray := method_11_code
def yL_side : MethodName := ⟨RL, "side", "([I[I)I"⟩
abbrev cL_fog : ByteArray := method_12_code
def yL_fog : MethodName := ⟨RL, "fog", "([I[I)I"⟩
abbrev cL_isCoast : ByteArray := method_19_code
def yL_isCoast : MethodName := ⟨RL, "isCoast", "(LFogNets;[I[I)Z"⟩
abbrev cL_law : ByteArray := code
def yL_law : MethodName := ⟨RL, "law", "([I)Z"⟩
abbrev cL_best : ByteArray := method_21_code
def yL_best : MethodName := ⟨RL, "best", "(LFogNets;[III)Z"⟩
abbrev cL_thick : ByteArray := method_22_code
def yL_thick : MethodName := ⟨RL, "thick", "(LFogNets;[III)Z"⟩
abbrev cL_took : ByteArray := method_23_code
def yL_took : MethodName := ⟨RL, "took", "(LFogNets;I)I"⟩
abbrev cL_lamps : ByteArray := method_24_code
def yL_lamps : MethodName := ⟨RL, "lamps", "(LFogNets;II)Z"⟩
abbrev cL_thirst : ByteArray := method_25_code
def yL_thirst : MethodName := ⟨RL, "thirst", "(LFogNets;[III)Z"⟩
abbrev cL_led : ByteArray := method_26_code
def yL_led : MethodName := ⟨RL, "led", "(LFogNets;[III)Z"⟩
abbrev cL_shares : ByteArray := method_27_code
def yL_shares : MethodName := ⟨RL, "shares", "(LFogNets;[II)Z"⟩
abbrev cL_yards : ByteArray := method_28_code
def yL_yards : MethodName := ⟨RL, "yards", "(LFogNets;[II)Z"⟩
abbrev cL_carried : ByteArray := method_29_code
def yL_carried : MethodName := ⟨RL, "carried", "(LFogNets;[II)Z"⟩
