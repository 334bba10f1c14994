-- names and decode rows, as claim/NAMES.whole.lean.txt prints them (picked by wip/whole/gen/gen_names.py)
def RX0 : String := "MessengerCasts$Bottle"
def TX0 : u_T := fun k => match k with
  | 0 => ("MessengerCasts$Bottle", "mark", "I", false)
  | 1 => ("MessengerCasts$Bottle", "hasMessenger", "Z", false)
  | 2 => ("MessengerCasts$Bottle", "struck", "I", false)
  | 3 => ("MessengerCasts$Bottle", "isShut", "Z", false)
  | 4 => ("MessengerCasts$Bottle", "isJerked", "Z", false)
  | 5 => ("MessengerCasts$Bottle", "shutSecond", "I", false)
  | 6 => ("MessengerCasts$Bottle", "shutMetre", "I", false)
  | 7 => ("MessengerCasts$Bottle", "shutLayer", "I", false)
  | 8 => ("MessengerCasts$Bottle", "guarded", "I", false)
  | 9 => ("MessengerCasts$Bottle", "bare", "I", false)
  | _ => ("MessengerCasts$Bottle", "salt", "I", false)
def tyX0 : Nat → FieldType := fun k => match k with
  | 0 => .int
  | 1 => .boolean
  | 2 => .int
  | 3 => .boolean
  | 4 => .boolean
  | 5 => .int
  | 6 => .int
  | 7 => .int
  | 8 => .int
  | 9 => .int
  | _ => .int
abbrev wsX00 : List Cond := u_ws RX0 TX0 11
theorem nmX0 : ∀ a, a < 11 → ∀ b, b < 11 → a ≠ b → (TX0 a).2.1 ≠ (TX0 b).2.1 := by decide +kernel
theorem tyX0_ok : ∀ k, k < 11 → parseFieldDescriptor (TX0 k).2.2.1 = some (tyX0 k) := by decide +kernel
abbrev cX0_init : ByteArray := prog_2_method_1_code
def yX0_init : MethodName := ⟨RX0, "<init>", "()V"⟩
abbrev cX0_clampAt : ByteArray := prog_2_method_2_code
def yX0_clampAt : MethodName := ⟨RX0, "clampAt", "(IZ)V"⟩
abbrev cX0_copyFrom : ByteArray := prog_2_method_3_code
def yX0_copyFrom : MethodName := ⟨RX0, "copyFrom", "(LMessengerCasts$Bottle;)V"⟩
abbrev cX0_depthByPair : ByteArray := prog_2_method_4_code
def yX0_depthByPair : MethodName := ⟨RX0, "depthByPair", "()I"⟩
abbrev cX0_difference : ByteArray := prog_2_method_5_code
def yX0_difference : MethodName := ⟨RX0, "difference", "()I"⟩
def RX1 : String := "MessengerCasts$Cable"
def TX1 : u_T := fun k => match k with
  | 0 => ("MessengerCasts$Cable", "paid", "I", false)
  | 1 => ("MessengerCasts$Cable", "slope", "I", false)
  | _ => ("MessengerCasts$Cable", "isWeightLost", "Z", false)
def tyX1 : Nat → FieldType := fun k => match k with
  | 0 => .int
  | 1 => .int
  | _ => .boolean
abbrev wsX10 : List Cond := u_ws RX1 TX1 3
theorem nmX1 : ∀ a, a < 3 → ∀ b, b < 3 → a ≠ b → (TX1 a).2.1 ≠ (TX1 b).2.1 := by decide +kernel
theorem tyX1_ok : ∀ k, k < 3 → parseFieldDescriptor (TX1 k).2.2.1 = some (tyX1 k) := by decide +kernel
abbrev cX1_init : ByteArray := prog_3_method_1_code
def yX1_init : MethodName := ⟨RX1, "<init>", "()V"⟩
abbrev cX1_copyFrom : ByteArray := prog_3_method_2_code
def yX1_copyFrom : MethodName := ⟨RX1, "copyFrom", "(LMessengerCasts$Cable;)V"⟩
abbrev cX1_countedSlope : ByteArray := prog_3_method_3_code
def yX1_countedSlope : MethodName := ⟨RX1, "countedSlope", "()I"⟩
abbrev cX1_isSticking : ByteArray := prog_3_method_4_code
def yX1_isSticking : MethodName := ⟨RX1, "isSticking", "()Z"⟩
abbrev cX1_step : ByteArray := prog_3_method_5_code
def yX1_step : MethodName := ⟨RX1, "step", "()I"⟩
abbrev cX1_isInWater : ByteArray := prog_3_method_6_code
def yX1_isInWater : MethodName := ⟨RX1, "isInWater", "(I)Z"⟩
abbrev cX1_metreOf : ByteArray := prog_3_method_7_code
def yX1_metreOf : MethodName := ⟨RX1, "metreOf", "(I)I"⟩
abbrev cX1_depthOf : ByteArray := prog_3_method_8_code
def yX1_depthOf : MethodName := ⟨RX1, "depthOf", "(I)I"⟩
def RX2 : String := "MessengerCasts$Cast"
def TX2 : u_T := fun k => match k with
  | 0 => ("MessengerCasts$Cast", "kinds", "[C", true)
  | 1 => ("MessengerCasts$Cast", "numbers", "[I", true)
  | 2 => ("MessengerCasts$Cast", "things", "I", false)
  | _ => ("MessengerCasts$Cast", "place", "I", false)
def tyX2 : Nat → FieldType := fun k => match k with
  | 0 => .array .char
  | 1 => .array .int
  | 2 => .int
  | _ => .int
abbrev wsX20 : List Cond := u_ws RX2 TX2 4
theorem nmX2 : ∀ a, a < 4 → ∀ b, b < 4 → a ≠ b → (TX2 a).2.1 ≠ (TX2 b).2.1 := by decide +kernel
theorem tyX2_ok : ∀ k, k < 4 → parseFieldDescriptor (TX2 k).2.2.1 = some (tyX2 k) := by decide +kernel
abbrev cX2_init : ByteArray := prog_4_method_1_code
def yX2_init : MethodName := ⟨RX2, "<init>", "()V"⟩
abbrev cX2_kindAt : ByteArray := prog_4_method_2_code
def yX2_kindAt : MethodName := ⟨RX2, "kindAt", "(I)C"⟩
abbrev cX2_numberAt : ByteArray := prog_4_method_3_code
def yX2_numberAt : MethodName := ⟨RX2, "numberAt", "(I)I"⟩
abbrev cX2_read : ByteArray := prog_4_method_4_code
def yX2_read : MethodName := ⟨RX2, "read", "(LMessengerCasts$Text;)I"⟩
abbrev cX2_readThing : ByteArray := prog_4_method_5_code
def yX2_readThing : MethodName := ⟨RX2, "readThing", "(LMessengerCasts$Text;)Z"⟩
abbrev cX2_readNumber : ByteArray := prog_4_method_6_code
def yX2_readNumber : MethodName := ⟨RX2, "readNumber", "(LMessengerCasts$Text;CII)Z"⟩
abbrev cX2_addThing : ByteArray := prog_4_method_7_code
def yX2_addThing : MethodName := ⟨RX2, "addThing", "(CI)V"⟩
def RX3 : String := "MessengerCasts$History"
def TX3 : u_T := fun k => match k with
  | 0 => ("MessengerCasts$History", "rows", "[LMessengerCasts$State;", true)
  | _ => ("MessengerCasts$History", "states", "I", false)
def tyX3 : Nat → FieldType := fun k => match k with
  | 0 => .array (.object "MessengerCasts$State")
  | _ => .int
abbrev wsX30 : List Cond := u_ws RX3 TX3 2
theorem nmX3 : ∀ a, a < 2 → ∀ b, b < 2 → a ≠ b → (TX3 a).2.1 ≠ (TX3 b).2.1 := by decide +kernel
theorem tyX3_ok : ∀ k, k < 2 → parseFieldDescriptor (TX3 k).2.2.1 = some (tyX3 k) := by decide +kernel
abbrev cX3_init : ByteArray := prog_5_method_1_code
def yX3_init : MethodName := ⟨RX3, "<init>", "()V"⟩
abbrev cX3_add : ByteArray := prog_5_method_2_code
def yX3_add : MethodName := ⟨RX3, "add", "(LMessengerCasts$State;)V"⟩
abbrev cX3_dropOldest : ByteArray := prog_5_method_3_code
def yX3_dropOldest : MethodName := ⟨RX3, "dropOldest", "()V"⟩
abbrev cX3_takeLatest : ByteArray := prog_5_method_4_code
def yX3_takeLatest : MethodName := ⟨RX3, "takeLatest", "(LMessengerCasts$State;)Z"⟩
def RX4 : String := "MessengerCasts$Messengers"
def TX4 : u_T := fun k => match k with
  | 0 => ("MessengerCasts$Messengers", "marks", "[I", true)
  | 1 => ("MessengerCasts$Messengers", "onWay", "I", false)
  | 2 => ("MessengerCasts$Messengers", "letGo", "I", false)
  | 3 => ("MessengerCasts$Messengers", "letLoose", "I", false)
  | 4 => ("MessengerCasts$Messengers", "stoppedAtBottles", "I", false)
  | 5 => ("MessengerCasts$Messengers", "gone", "I", false)
  | _ => ("MessengerCasts$Messengers", "takenBack", "I", false)
def tyX4 : Nat → FieldType := fun k => match k with
  | 0 => .array .int
  | 1 => .int
  | 2 => .int
  | 3 => .int
  | 4 => .int
  | 5 => .int
  | _ => .int
abbrev wsX40 : List Cond := u_ws RX4 TX4 7
theorem nmX4 : ∀ a, a < 7 → ∀ b, b < 7 → a ≠ b → (TX4 a).2.1 ≠ (TX4 b).2.1 := by decide +kernel
theorem tyX4_ok : ∀ k, k < 7 → parseFieldDescriptor (TX4 k).2.2.1 = some (tyX4 k) := by decide +kernel
abbrev cX4_init : ByteArray := prog_6_method_1_code
def yX4_init : MethodName := ⟨RX4, "<init>", "()V"⟩
abbrev cX4_copyFrom : ByteArray := prog_6_method_2_code
def yX4_copyFrom : MethodName := ⟨RX4, "copyFrom", "(LMessengerCasts$Messengers;)V"⟩
abbrev cX4_markAt : ByteArray := prog_6_method_3_code
def yX4_markAt : MethodName := ⟨RX4, "markAt", "(I)I"⟩
abbrev cX4_put : ByteArray := prog_6_method_4_code
def yX4_put : MethodName := ⟨RX4, "put", "(II)V"⟩
abbrev cX4_isAnyAbove : ByteArray := prog_6_method_5_code
def yX4_isAnyAbove : MethodName := ⟨RX4, "isAnyAbove", "(I)Z"⟩
abbrev cX4_takeBackAbove : ByteArray := prog_6_method_6_code
def yX4_takeBackAbove : MethodName := ⟨RX4, "takeBackAbove", "(I)I"⟩
abbrev cX4_sinkAll : ByteArray := prog_6_method_7_code
def yX4_sinkAll : MethodName := ⟨RX4, "sinkAll", "(I)V"⟩
def RX5 : String := "MessengerCasts$State"
def TX5 : u_T := fun k => match k with
  | 0 => ("MessengerCasts$State", "cable", "LMessengerCasts$Cable;", true)
  | 1 => ("MessengerCasts$State", "water", "LMessengerCasts$Water;", true)
  | 2 => ("MessengerCasts$State", "messengers", "LMessengerCasts$Messengers;", true)
  | 3 => ("MessengerCasts$State", "bottles", "[LMessengerCasts$Bottle;", true)
  | 4 => ("MessengerCasts$State", "bottleCount", "I", false)
  | 5 => ("MessengerCasts$State", "second", "I", false)
  | 6 => ("MessengerCasts$State", "doubtFrom", "I", false)
  | _ => ("MessengerCasts$State", "jerkFrom", "I", false)
def tyX5 : Nat → FieldType := fun k => match k with
  | 0 => .object "MessengerCasts$Cable"
  | 1 => .object "MessengerCasts$Water"
  | 2 => .object "MessengerCasts$Messengers"
  | 3 => .array (.object "MessengerCasts$Bottle")
  | 4 => .int
  | 5 => .int
  | 6 => .int
  | _ => .int
abbrev wsX50 : List Cond := u_ws RX5 TX5 8
theorem nmX5 : ∀ a, a < 8 → ∀ b, b < 8 → a ≠ b → (TX5 a).2.1 ≠ (TX5 b).2.1 := by decide +kernel
theorem tyX5_ok : ∀ k, k < 8 → parseFieldDescriptor (TX5 k).2.2.1 = some (tyX5 k) := by decide +kernel
abbrev cX5_init : ByteArray := prog_7_method_1_code
def yX5_init : MethodName := ⟨RX5, "<init>", "()V"⟩
abbrev cX5_copyFrom : ByteArray := prog_7_method_2_code
def yX5_copyFrom : MethodName := ⟨RX5, "copyFrom", "(LMessengerCasts$State;)V"⟩
abbrev cX5_bottleAt : ByteArray := prog_7_method_3_code
def yX5_bottleAt : MethodName := ⟨RX5, "bottleAt", "(I)LMessengerCasts$Bottle;"⟩
abbrev cX5_payOut : ByteArray := prog_7_method_4_code
def yX5_payOut : MethodName := ⟨RX5, "payOut", "(I)I"⟩
abbrev cX5_changeSlope : ByteArray := prog_7_method_5_code
def yX5_changeSlope : MethodName := ⟨RX5, "changeSlope", "(I)I"⟩
abbrev cX5_changeWeight : ByteArray := prog_7_method_6_code
def yX5_changeWeight : MethodName := ⟨RX5, "changeWeight", "(Z)I"⟩
abbrev cX5_addBottle : ByteArray := prog_7_method_7_code
def yX5_addBottle : MethodName := ⟨RX5, "addBottle", "(Z)I"⟩
abbrev cX5_removeBottle : ByteArray := prog_7_method_8_code
def yX5_removeBottle : MethodName := ⟨RX5, "removeBottle", "(I)I"⟩
abbrev cX5_letGo : ByteArray := prog_7_method_9_code
def yX5_letGo : MethodName := ⟨RX5, "letGo", "()I"⟩
abbrev cX5_letPass : ByteArray := prog_7_method_10_code
def yX5_letPass : MethodName := ⟨RX5, "letPass", "(I)I"⟩
abbrev cX5_changeSetting : ByteArray := prog_7_method_11_code
def yX5_changeSetting : MethodName := ⟨RX5, "changeSetting", "(II)I"⟩
abbrev cX5_insertBottle : ByteArray := prog_7_method_12_code
def yX5_insertBottle : MethodName := ⟨RX5, "insertBottle", "(IZ)V"⟩
abbrev cX5_jerk : ByteArray := prog_7_method_13_code
def yX5_jerk : MethodName := ⟨RX5, "jerk", "()V"⟩
abbrev cX5_shut : ByteArray := prog_7_method_14_code
def yX5_shut : MethodName := ⟨RX5, "shut", "(LMessengerCasts$Bottle;)V"⟩
abbrev cX5_skipQuietSeconds : ByteArray := prog_7_method_15_code
def yX5_skipQuietSeconds : MethodName := ⟨RX5, "skipQuietSeconds", "(I)V"⟩
abbrev cX5_secondsOnWay : ByteArray := prog_7_method_16_code
def yX5_secondsOnWay : MethodName := ⟨RX5, "secondsOnWay", "(I)I"⟩
abbrev cX5_passOneSecond : ByteArray := prog_7_method_17_code
def yX5_passOneSecond : MethodName := ⟨RX5, "passOneSecond", "()V"⟩
abbrev cX5_firstBottleBetween : ByteArray := prog_7_method_18_code
def yX5_firstBottleBetween : MethodName := ⟨RX5, "firstBottleBetween", "(II)LMessengerCasts$Bottle;"⟩
abbrev cX5_strike : ByteArray := prog_7_method_19_code
def yX5_strike : MethodName := ⟨RX5, "strike", "(LMessengerCasts$Bottle;)Z"⟩
abbrev cX5_runUntilShut : ByteArray := prog_7_method_20_code
def yX5_runUntilShut : MethodName := ⟨RX5, "runUntilShut", "(I)I"⟩
abbrev cX5_runUntilQuiet : ByteArray := prog_7_method_21_code
def yX5_runUntilQuiet : MethodName := ⟨RX5, "runUntilQuiet", "()I"⟩
abbrev cX5_isDoubtful : ByteArray := prog_7_method_22_code
def yX5_isDoubtful : MethodName := ⟨RX5, "isDoubtful", "(LMessengerCasts$Bottle;)Z"⟩
abbrev cX5_bottlesInWater : ByteArray := prog_7_method_23_code
def yX5_bottlesInWater : MethodName := ⟨RX5, "bottlesInWater", "()I"⟩
abbrev cX5_shutBottles : ByteArray := prog_7_method_24_code
def yX5_shutBottles : MethodName := ⟨RX5, "shutBottles", "()I"⟩
abbrev cX5_doubtfulBottles : ByteArray := prog_7_method_25_code
def yX5_doubtfulBottles : MethodName := ⟨RX5, "doubtfulBottles", "()I"⟩
abbrev cX5_openInLayer : ByteArray := prog_7_method_26_code
def yX5_openInLayer : MethodName := ⟨RX5, "openInLayer", "(I)I"⟩
abbrev cX5_shutInLayer : ByteArray := prog_7_method_27_code
def yX5_shutInLayer : MethodName := ⟨RX5, "shutInLayer", "(I)I"⟩
def RX6 : String := "MessengerCasts$Text"
def TX6 : u_T := fun k => match k with
  | 0 => ("MessengerCasts$Text", "characters", "[C", true)
  | _ => ("MessengerCasts$Text", "length", "I", false)
def tyX6 : Nat → FieldType := fun k => match k with
  | 0 => .array .char
  | _ => .int
abbrev wsX60 : List Cond := u_ws RX6 TX6 2
theorem nmX6 : ∀ a, a < 2 → ∀ b, b < 2 → a ≠ b → (TX6 a).2.1 ≠ (TX6 b).2.1 := by decide +kernel
theorem tyX6_ok : ∀ k, k < 2 → parseFieldDescriptor (TX6 k).2.2.1 = some (tyX6 k) := by decide +kernel
abbrev cX6_init : ByteArray := prog_8_method_1_code
def yX6_init : MethodName := ⟨RX6, "<init>", "()V"⟩
abbrev cX6_append : ByteArray := prog_8_method_2_code
def yX6_append : MethodName := ⟨RX6, "append", "(C)Z"⟩
abbrev cX6_at : ByteArray := prog_8_method_3_code
def yX6_at : MethodName := ⟨RX6, "at", "(I)C"⟩
abbrev cX6_digitAt : ByteArray := prog_8_method_4_code
def yX6_digitAt : MethodName := ⟨RX6, "digitAt", "(I)I"⟩
def RX7 : String := "MessengerCasts$Water"
def TX7 : u_T := fun k => match k with
  | 0 => ("MessengerCasts$Water", "warmths", "[I", true)
  | _ => ("MessengerCasts$Water", "salts", "[I", true)
def tyX7 : Nat → FieldType := fun k => match k with
  | 0 => .array .int
  | _ => .array .int
abbrev wsX70 : List Cond := u_ws RX7 TX7 2
theorem nmX7 : ∀ a, a < 2 → ∀ b, b < 2 → a ≠ b → (TX7 a).2.1 ≠ (TX7 b).2.1 := by decide +kernel
theorem tyX7_ok : ∀ k, k < 2 → parseFieldDescriptor (TX7 k).2.2.1 = some (tyX7 k) := by decide +kernel
abbrev cX7_init : ByteArray := prog_9_method_1_code
def yX7_init : MethodName := ⟨RX7, "<init>", "()V"⟩
abbrev cX7_copyFrom : ByteArray := prog_9_method_2_code
def yX7_copyFrom : MethodName := ⟨RX7, "copyFrom", "(LMessengerCasts$Water;)V"⟩
abbrev cX7_has : ByteArray := prog_9_method_3_code
def yX7_has : MethodName := ⟨RX7, "has", "(I)Z"⟩
abbrev cX7_warmthIn : ByteArray := prog_9_method_4_code
def yX7_warmthIn : MethodName := ⟨RX7, "warmthIn", "(I)I"⟩
abbrev cX7_saltIn : ByteArray := prog_9_method_5_code
def yX7_saltIn : MethodName := ⟨RX7, "saltIn", "(I)I"⟩
abbrev cX7_change : ByteArray := prog_9_method_6_code
def yX7_change : MethodName := ⟨RX7, "change", "(III)I"⟩
def RX8 : String := "MessengerCasts"
def TX8 : u_T := fun k => match k with
  | 0 => ("MessengerCasts", "now", "LMessengerCasts$State;", true)
  | 1 => ("MessengerCasts", "before", "LMessengerCasts$State;", true)
  | 2 => ("MessengerCasts", "ahead", "LMessengerCasts$State;", true)
  | 3 => ("MessengerCasts", "kept", "LMessengerCasts$State;", true)
  | 4 => ("MessengerCasts", "isKept", "Z", false)
  | 5 => ("MessengerCasts", "history", "LMessengerCasts$History;", true)
  | 6 => ("MessengerCasts", "text", "LMessengerCasts$Text;", true)
  | 7 => ("MessengerCasts", "cast", "LMessengerCasts$Cast;", true)
  | 8 => ("MessengerCasts", "wasStopped", "Z", false)
  | 9 => ("MessengerCasts", "stopNumber", "I", false)
  | _ => ("MessengerCasts", "stopError", "I", false)
def tyX8 : Nat → FieldType := fun k => match k with
  | 0 => .object "MessengerCasts$State"
  | 1 => .object "MessengerCasts$State"
  | 2 => .object "MessengerCasts$State"
  | 3 => .object "MessengerCasts$State"
  | 4 => .boolean
  | 5 => .object "MessengerCasts$History"
  | 6 => .object "MessengerCasts$Text"
  | 7 => .object "MessengerCasts$Cast"
  | 8 => .boolean
  | 9 => .int
  | _ => .int
abbrev wsX80 : List Cond := u_ws RX8 TX8 11
theorem nmX8 : ∀ a, a < 11 → ∀ b, b < 11 → a ≠ b → (TX8 a).2.1 ≠ (TX8 b).2.1 := by decide +kernel
theorem tyX8_ok : ∀ k, k < 11 → parseFieldDescriptor (TX8 k).2.2.1 = some (tyX8 k) := by decide +kernel
abbrev cX8_init : ByteArray := prog_1_method_1_code
def yX8_init : MethodName := ⟨RX8, "<init>", "()V"⟩
abbrev cX8_pay : ByteArray := prog_1_method_2_code
def yX8_pay : MethodName := ⟨RX8, "pay", "(I)I"⟩
abbrev cX8_setSlope : ByteArray := prog_1_method_3_code
def yX8_setSlope : MethodName := ⟨RX8, "setSlope", "(I)I"⟩
abbrev cX8_weight : ByteArray := prog_1_method_4_code
def yX8_weight : MethodName := ⟨RX8, "weight", "(Z)I"⟩
abbrev cX8_clamp : ByteArray := prog_1_method_5_code
def yX8_clamp : MethodName := ⟨RX8, "clamp", "(Z)I"⟩
abbrev cX8_takeOff : ByteArray := prog_1_method_6_code
def yX8_takeOff : MethodName := ⟨RX8, "takeOff", "(I)I"⟩
abbrev cX8_send : ByteArray := prog_1_method_7_code
def yX8_send : MethodName := ⟨RX8, "send", "()I"⟩
abbrev cX8_pass : ByteArray := prog_1_method_8_code
def yX8_pass : MethodName := ⟨RX8, "pass", "(I)I"⟩
abbrev cX8_setWater : ByteArray := prog_1_method_9_code
def yX8_setWater : MethodName := ⟨RX8, "setWater", "(III)I"⟩
abbrev cX8_set : ByteArray := prog_1_method_10_code
def yX8_set : MethodName := ⟨RX8, "set", "(II)I"⟩
abbrev cX8_type : ByteArray := prog_1_method_11_code
def yX8_type : MethodName := ⟨RX8, "type", "(C)I"⟩
abbrev cX8_clearText : ByteArray := prog_1_method_12_code
def yX8_clearText : MethodName := ⟨RX8, "clearText", "()I"⟩
abbrev cX8_perform : ByteArray := prog_1_method_13_code
def yX8_perform : MethodName := ⟨RX8, "perform", "()I"⟩
abbrev cX8_stopped : ByteArray := prog_1_method_14_code
def yX8_stopped : MethodName := ⟨RX8, "stopped", "(I)I"⟩
abbrev cX8_undo : ByteArray := prog_1_method_15_code
def yX8_undo : MethodName := ⟨RX8, "undo", "()I"⟩
abbrev cX8_keep : ByteArray := prog_1_method_16_code
def yX8_keep : MethodName := ⟨RX8, "keep", "()I"⟩
abbrev cX8_restore : ByteArray := prog_1_method_17_code
def yX8_restore : MethodName := ⟨RX8, "restore", "()I"⟩
abbrev cX8_bottle : ByteArray := prog_1_method_18_code
def yX8_bottle : MethodName := ⟨RX8, "bottle", "(II)I"⟩
abbrev cX8_messenger : ByteArray := prog_1_method_19_code
def yX8_messenger : MethodName := ⟨RX8, "messenger", "(II)I"⟩
abbrev cX8_layer : ByteArray := prog_1_method_20_code
def yX8_layer : MethodName := ⟨RX8, "layer", "(II)I"⟩
abbrev cX8_depth : ByteArray := prog_1_method_21_code
def yX8_depth : MethodName := ⟨RX8, "depth", "(II)I"⟩
abbrev cX8_reason : ByteArray := prog_1_method_22_code
def yX8_reason : MethodName := ⟨RX8, "reason", "(I)I"⟩
abbrev cX8_shutIn : ByteArray := prog_1_method_23_code
def yX8_shutIn : MethodName := ⟨RX8, "shutIn", "(I)I"⟩
abbrev cX8_quietIn : ByteArray := prog_1_method_24_code
def yX8_quietIn : MethodName := ⟨RX8, "quietIn", "()I"⟩
abbrev cX8_worst : ByteArray := prog_1_method_25_code
def yX8_worst : MethodName := ⟨RX8, "worst", "()I"⟩
abbrev cX8_count : ByteArray := prog_1_method_26_code
def yX8_count : MethodName := ⟨RX8, "count", "(I)I"⟩
abbrev cX8_depthAt : ByteArray := prog_1_method_27_code
def yX8_depthAt : MethodName := ⟨RX8, "depthAt", "(II)I"⟩
abbrev cX8_layerAt : ByteArray := prog_1_method_28_code
def yX8_layerAt : MethodName := ⟨RX8, "layerAt", "(I)I"⟩
abbrev cX8_isDone : ByteArray := prog_1_method_29_code
def yX8_isDone : MethodName := ⟨RX8, "isDone", "(I)Z"⟩
abbrev cX8_recorded : ByteArray := prog_1_method_30_code
def yX8_recorded : MethodName := ⟨RX8, "recorded", "(I)I"⟩
abbrev cX8_rememberStop : ByteArray := prog_1_method_31_code
def yX8_rememberStop : MethodName := ⟨RX8, "rememberStop", "(II)V"⟩
abbrev cX8_doThing : ByteArray := prog_1_method_32_code
def yX8_doThing : MethodName := ⟨RX8, "doThing", "(CI)I"⟩
abbrev cX8_secondsToShut : ByteArray := prog_1_method_33_code
def yX8_secondsToShut : MethodName := ⟨RX8, "secondsToShut", "(I)I"⟩
abbrev cX8_tellOfAny : ByteArray := prog_1_method_34_code
def yX8_tellOfAny : MethodName := ⟨RX8, "tellOfAny", "(LMessengerCasts$Bottle;I)I"⟩
abbrev cX8_tellOfShut : ByteArray := prog_1_method_35_code
def yX8_tellOfShut : MethodName := ⟨RX8, "tellOfShut", "(LMessengerCasts$Bottle;I)I"⟩
abbrev cX8_countOnCable : ByteArray := prog_1_method_36_code
def yX8_countOnCable : MethodName := ⟨RX8, "countOnCable", "(I)I"⟩
abbrev cX8_countOthers : ByteArray := prog_1_method_37_code
def yX8_countOthers : MethodName := ⟨RX8, "countOthers", "(I)I"⟩
def RX9 : String := "MessengerCastsModel"
def TX9 : u_T := fun k => match k with
  | 0 => ("MessengerCastsModel", "s", "[I", true)
  | 1 => ("MessengerCastsModel", "states", "I", false)
  | 2 => ("MessengerCastsModel", "isKept", "Z", false)
  | 3 => ("MessengerCastsModel", "text", "[I", true)
  | 4 => ("MessengerCastsModel", "typed", "I", false)
  | 5 => ("MessengerCastsModel", "stopNumber", "I", false)
  | 6 => ("MessengerCastsModel", "stopError", "I", false)
  | 7 => ("MessengerCastsModel", "spot", "I", false)
  | _ => ("MessengerCastsModel", "number", "I", false)
def tyX9 : Nat → FieldType := fun k => match k with
  | 0 => .array .int
  | 1 => .int
  | 2 => .boolean
  | 3 => .array .int
  | 4 => .int
  | 5 => .int
  | 6 => .int
  | 7 => .int
  | _ => .int
abbrev wsX90 : List Cond := u_ws RX9 TX9 9
theorem nmX9 : ∀ a, a < 9 → ∀ b, b < 9 → a ≠ b → (TX9 a).2.1 ≠ (TX9 b).2.1 := by decide +kernel
theorem tyX9_ok : ∀ k, k < 9 → parseFieldDescriptor (TX9 k).2.2.1 = some (tyX9 k) := by decide +kernel
abbrev cX9_init : ByteArray := prog_11_method_1_code
def yX9_init : MethodName := ⟨RX9, "<init>", "()V"⟩
abbrev cX9_in : ByteArray := prog_11_method_3_code
def yX9_in : MethodName := ⟨RX9, "in", "(III)Z"⟩
abbrev cX9_flag : ByteArray := prog_11_method_4_code
def yX9_flag : MethodName := ⟨RX9, "flag", "(Z)I"⟩
abbrev cX9_size : ByteArray := prog_11_method_5_code
def yX9_size : MethodName := ⟨RX9, "size", "(I)I"⟩
abbrev cX9_copies : ByteArray := prog_11_method_6_code
def yX9_copies : MethodName := ⟨RX9, "copies", "(II)V"⟩
abbrev cX9_records : ByteArray := prog_11_method_7_code
def yX9_records : MethodName := ⟨RX9, "records", "(I)V"⟩
abbrev cX9_bottleAt : ByteArray := prog_11_method_8_code
def yX9_bottleAt : MethodName := ⟨RX9, "bottleAt", "(II)I"⟩
abbrev cX9_messengerAt : ByteArray := prog_11_method_9_code
def yX9_messengerAt : MethodName := ⟨RX9, "messengerAt", "(II)I"⟩
abbrev cX9_counted : ByteArray := prog_11_method_10_code
def yX9_counted : MethodName := ⟨RX9, "counted", "(I)I"⟩
abbrev cX9_factor : ByteArray := prog_11_method_11_code
def yX9_factor : MethodName := ⟨RX9, "factor", "(I)I"⟩
abbrev cX9_deep : ByteArray := prog_11_method_12_code
def yX9_deep : MethodName := ⟨RX9, "deep", "(II)I"⟩
abbrev cX9_isInWater : ByteArray := prog_11_method_13_code
def yX9_isInWater : MethodName := ⟨RX9, "isInWater", "(II)Z"⟩
abbrev cX9_metre : ByteArray := prog_11_method_14_code
def yX9_metre : MethodName := ⟨RX9, "metre", "(II)I"⟩
abbrev cX9_layerOf : ByteArray := prog_11_method_15_code
def yX9_layerOf : MethodName := ⟨RX9, "layerOf", "(I)I"⟩
abbrev cX9_shuts : ByteArray := prog_11_method_16_code
def yX9_shuts : MethodName := ⟨RX9, "shuts", "(II)V"⟩
abbrev cX9_removes : ByteArray := prog_11_method_17_code
def yX9_removes : MethodName := ⟨RX9, "removes", "(II)V"⟩
abbrev cX9_starts : ByteArray := prog_11_method_18_code
def yX9_starts : MethodName := ⟨RX9, "starts", "(III)V"⟩
abbrev cX9_met : ByteArray := prog_11_method_19_code
def yX9_met : MethodName := ⟨RX9, "met", "(III)I"⟩
abbrev cX9_strikes : ByteArray := prog_11_method_20_code
def yX9_strikes : MethodName := ⟨RX9, "strikes", "(II)Z"⟩
abbrev cX9_second : ByteArray := prog_11_method_21_code
def yX9_second : MethodName := ⟨RX9, "second", "(I)I"⟩
abbrev cX9_seconds : ByteArray := prog_11_method_22_code
def yX9_seconds : MethodName := ⟨RX9, "seconds", "(II)I"⟩
abbrev cX9_pays : ByteArray := prog_11_method_23_code
def yX9_pays : MethodName := ⟨RX9, "pays", "(I)I"⟩
abbrev cX9_jerks : ByteArray := prog_11_method_24_code
def yX9_jerks : MethodName := ⟨RX9, "jerks", "()V"⟩
abbrev cX9_slopes : ByteArray := prog_11_method_25_code
def yX9_slopes : MethodName := ⟨RX9, "slopes", "(I)I"⟩
abbrev cX9_weighs : ByteArray := prog_11_method_26_code
def yX9_weighs : MethodName := ⟨RX9, "weighs", "(I)I"⟩
abbrev cX9_clamps : ByteArray := prog_11_method_27_code
def yX9_clamps : MethodName := ⟨RX9, "clamps", "(I)I"⟩
abbrev cX9_sends : ByteArray := prog_11_method_28_code
def yX9_sends : MethodName := ⟨RX9, "sends", "()I"⟩
abbrev cX9_passes : ByteArray := prog_11_method_29_code
def yX9_passes : MethodName := ⟨RX9, "passes", "(I)I"⟩
abbrev cX9_isBottle : ByteArray := prog_11_method_30_code
def yX9_isBottle : MethodName := ⟨RX9, "isBottle", "(I)Z"⟩
abbrev cX9_takes : ByteArray := prog_11_method_31_code
def yX9_takes : MethodName := ⟨RX9, "takes", "(I)I"⟩
abbrev cX9_waters : ByteArray := prog_11_method_32_code
def yX9_waters : MethodName := ⟨RX9, "waters", "(III)I"⟩
abbrev cX9_sets : ByteArray := prog_11_method_33_code
def yX9_sets : MethodName := ⟨RX9, "sets", "(II)I"⟩
abbrev cX9_isDone : ByteArray := prog_11_method_34_code
def yX9_isDone : MethodName := ⟨RX9, "isDone", "(I)Z"⟩
abbrev cX9_done : ByteArray := prog_11_method_35_code
def yX9_done : MethodName := ⟨RX9, "done", "(I)I"⟩
abbrev cX9_pay : ByteArray := prog_11_method_36_code
def yX9_pay : MethodName := ⟨RX9, "pay", "(I)I"⟩
abbrev cX9_setSlope : ByteArray := prog_11_method_37_code
def yX9_setSlope : MethodName := ⟨RX9, "setSlope", "(I)I"⟩
abbrev cX9_weight : ByteArray := prog_11_method_38_code
def yX9_weight : MethodName := ⟨RX9, "weight", "(Z)I"⟩
abbrev cX9_clamp : ByteArray := prog_11_method_39_code
def yX9_clamp : MethodName := ⟨RX9, "clamp", "(Z)I"⟩
abbrev cX9_takeOff : ByteArray := prog_11_method_40_code
def yX9_takeOff : MethodName := ⟨RX9, "takeOff", "(I)I"⟩
abbrev cX9_send : ByteArray := prog_11_method_41_code
def yX9_send : MethodName := ⟨RX9, "send", "()I"⟩
abbrev cX9_pass : ByteArray := prog_11_method_42_code
def yX9_pass : MethodName := ⟨RX9, "pass", "(I)I"⟩
abbrev cX9_setWater : ByteArray := prog_11_method_43_code
def yX9_setWater : MethodName := ⟨RX9, "setWater", "(III)I"⟩
abbrev cX9_set : ByteArray := prog_11_method_44_code
def yX9_set : MethodName := ⟨RX9, "set", "(II)I"⟩
abbrev cX9_type : ByteArray := prog_11_method_45_code
def yX9_type : MethodName := ⟨RX9, "type", "(C)I"⟩
abbrev cX9_clearText : ByteArray := prog_11_method_46_code
def yX9_clearText : MethodName := ⟨RX9, "clearText", "()I"⟩
abbrev cX9_readsNumber : ByteArray := prog_11_method_47_code
def yX9_readsNumber : MethodName := ⟨RX9, "readsNumber", "(II)I"⟩
abbrev cX9_part : ByteArray := prog_11_method_48_code
def yX9_part : MethodName := ⟨RX9, "part", "()I"⟩
abbrev cX9_fault : ByteArray := prog_11_method_49_code
def yX9_fault : MethodName := ⟨RX9, "fault", "()I"⟩
abbrev cX9_does : ByteArray := prog_11_method_50_code
def yX9_does : MethodName := ⟨RX9, "does", "(I)I"⟩
abbrev cX9_perform : ByteArray := prog_11_method_51_code
def yX9_perform : MethodName := ⟨RX9, "perform", "()I"⟩
abbrev cX9_stopped : ByteArray := prog_11_method_52_code
def yX9_stopped : MethodName := ⟨RX9, "stopped", "(I)I"⟩
abbrev cX9_undo : ByteArray := prog_11_method_53_code
def yX9_undo : MethodName := ⟨RX9, "undo", "()I"⟩
abbrev cX9_keep : ByteArray := prog_11_method_54_code
def yX9_keep : MethodName := ⟨RX9, "keep", "()I"⟩
abbrev cX9_restore : ByteArray := prog_11_method_55_code
def yX9_restore : MethodName := ⟨RX9, "restore", "()I"⟩
abbrev cX9_pairDepth : ByteArray := prog_11_method_56_code
def yX9_pairDepth : MethodName := ⟨RX9, "pairDepth", "(I)I"⟩
abbrev cX9_difference : ByteArray := prog_11_method_57_code
def yX9_difference : MethodName := ⟨RX9, "difference", "(I)I"⟩
abbrev cX9_isShut : ByteArray := prog_11_method_58_code
def yX9_isShut : MethodName := ⟨RX9, "isShut", "(I)Z"⟩
abbrev cX9_asShut : ByteArray := prog_11_method_59_code
def yX9_asShut : MethodName := ⟨RX9, "asShut", "(II)I"⟩
abbrev cX9_bottle : ByteArray := prog_11_method_60_code
def yX9_bottle : MethodName := ⟨RX9, "bottle", "(II)I"⟩
abbrev cX9_messenger : ByteArray := prog_11_method_61_code
def yX9_messenger : MethodName := ⟨RX9, "messenger", "(II)I"⟩
abbrev cX9_bottlesIn : ByteArray := prog_11_method_62_code
def yX9_bottlesIn : MethodName := ⟨RX9, "bottlesIn", "(IZ)I"⟩
abbrev cX9_layer : ByteArray := prog_11_method_63_code
def yX9_layer : MethodName := ⟨RX9, "layer", "(II)I"⟩
abbrev cX9_depth : ByteArray := prog_11_method_64_code
def yX9_depth : MethodName := ⟨RX9, "depth", "(II)I"⟩
abbrev cX9_secondsTo : ByteArray := prog_11_method_65_code
def yX9_secondsTo : MethodName := ⟨RX9, "secondsTo", "(I)I"⟩
abbrev cX9_reason : ByteArray := prog_11_method_66_code
def yX9_reason : MethodName := ⟨RX9, "reason", "(I)I"⟩
abbrev cX9_shutIn : ByteArray := prog_11_method_67_code
def yX9_shutIn : MethodName := ⟨RX9, "shutIn", "(I)I"⟩
abbrev cX9_quietIn : ByteArray := prog_11_method_68_code
def yX9_quietIn : MethodName := ⟨RX9, "quietIn", "()I"⟩
abbrev cX9_worst : ByteArray := prog_11_method_69_code
def yX9_worst : MethodName := ⟨RX9, "worst", "()I"⟩
abbrev cX9_many : ByteArray := prog_11_method_70_code
def yX9_many : MethodName := ⟨RX9, "many", "(I)I"⟩
abbrev cX9_count : ByteArray := prog_11_method_71_code
def yX9_count : MethodName := ⟨RX9, "count", "(I)I"⟩
def RL : String := "MessengerCastsLaw"
abbrev cL_law : ByteArray := code
def yL_law : MethodName := ⟨RL, "law", "([I)Z"⟩
abbrev vwCl : List vw_C := [(RX0, TX0, 11), (RX1, TX1, 3), (RX2, TX2, 4), (RX3, TX3, 2), (RX4, TX4, 7), (RX5, TX5, 8), (RX6, TX6, 2), (RX7, TX7, 2), (RX8, TX8, 11), (RX9, TX9, 9)]
theorem dX0_init_0 : decode cX0_init 0 = .ok (.aload_n 0, 1) := by decide +kernel
theorem dX0_init_1 : decode cX0_init 1 = .ok (.invokespecial 3, 3) := by decide +kernel
theorem dX0_init_4 : decode cX0_init 4 = .ok (.return_, 1) := by decide +kernel
theorem dX0_clampAt_0 : decode cX0_clampAt 0 = .ok (.aload_n 0, 1) := by decide +kernel
theorem dX0_clampAt_1 : decode cX0_clampAt 1 = .ok (.iload_n 1, 1) := by decide +kernel
theorem dX0_clampAt_2 : decode cX0_clampAt 2 = .ok (.putfield 9, 3) := by decide +kernel
theorem dX0_clampAt_5 : decode cX0_clampAt 5 = .ok (.aload_n 0, 1) := by decide +kernel
theorem dX0_clampAt_6 : decode cX0_clampAt 6 = .ok (.iload_n 2, 1) := by decide +kernel
theorem dX0_clampAt_7 : decode cX0_clampAt 7 = .ok (.putfield 15, 3) := by decide +kernel
theorem dX0_clampAt_10 : decode cX0_clampAt 10 = .ok (.aload_n 0, 1) := by decide +kernel
theorem dX0_clampAt_11 : decode cX0_clampAt 11 = .ok (.iconst 0, 1) := by decide +kernel
theorem dX0_clampAt_12 : decode cX0_clampAt 12 = .ok (.putfield 19, 3) := by decide +kernel
theorem dX0_clampAt_15 : decode cX0_clampAt 15 = .ok (.aload_n 0, 1) := by decide +kernel
theorem dX0_clampAt_16 : decode cX0_clampAt 16 = .ok (.iconst 0, 1) := by decide +kernel
theorem dX0_clampAt_17 : decode cX0_clampAt 17 = .ok (.putfield 22, 3) := by decide +kernel
theorem dX0_clampAt_20 : decode cX0_clampAt 20 = .ok (.aload_n 0, 1) := by decide +kernel
theorem dX0_clampAt_21 : decode cX0_clampAt 21 = .ok (.iconst 0, 1) := by decide +kernel
theorem dX0_clampAt_22 : decode cX0_clampAt 22 = .ok (.putfield 25, 3) := by decide +kernel
theorem dX0_clampAt_25 : decode cX0_clampAt 25 = .ok (.return_, 1) := by decide +kernel
theorem dX0_copyFrom_0 : decode cX0_copyFrom 0 = .ok (.aload_n 0, 1) := by decide +kernel
theorem dX0_copyFrom_1 : decode cX0_copyFrom 1 = .ok (.aload_n 1, 1) := by decide +kernel
theorem dX0_copyFrom_2 : decode cX0_copyFrom 2 = .ok (.getfield 9, 3) := by decide +kernel
theorem dX0_copyFrom_5 : decode cX0_copyFrom 5 = .ok (.putfield 9, 3) := by decide +kernel
theorem dX0_copyFrom_8 : decode cX0_copyFrom 8 = .ok (.aload_n 0, 1) := by decide +kernel
theorem dX0_copyFrom_9 : decode cX0_copyFrom 9 = .ok (.aload_n 1, 1) := by decide +kernel
theorem dX0_copyFrom_10 : decode cX0_copyFrom 10 = .ok (.getfield 15, 3) := by decide +kernel
theorem dX0_copyFrom_13 : decode cX0_copyFrom 13 = .ok (.putfield 15, 3) := by decide +kernel
theorem dX0_copyFrom_16 : decode cX0_copyFrom 16 = .ok (.aload_n 0, 1) := by decide +kernel
theorem dX0_copyFrom_17 : decode cX0_copyFrom 17 = .ok (.aload_n 1, 1) := by decide +kernel
theorem dX0_copyFrom_18 : decode cX0_copyFrom 18 = .ok (.getfield 19, 3) := by decide +kernel
theorem dX0_copyFrom_21 : decode cX0_copyFrom 21 = .ok (.putfield 19, 3) := by decide +kernel
theorem dX0_copyFrom_24 : decode cX0_copyFrom 24 = .ok (.aload_n 0, 1) := by decide +kernel
theorem dX0_copyFrom_25 : decode cX0_copyFrom 25 = .ok (.aload_n 1, 1) := by decide +kernel
theorem dX0_copyFrom_26 : decode cX0_copyFrom 26 = .ok (.getfield 22, 3) := by decide +kernel
theorem dX0_copyFrom_29 : decode cX0_copyFrom 29 = .ok (.putfield 22, 3) := by decide +kernel
theorem dX0_copyFrom_32 : decode cX0_copyFrom 32 = .ok (.aload_n 0, 1) := by decide +kernel
theorem dX0_copyFrom_33 : decode cX0_copyFrom 33 = .ok (.aload_n 1, 1) := by decide +kernel
theorem dX0_copyFrom_34 : decode cX0_copyFrom 34 = .ok (.getfield 25, 3) := by decide +kernel
theorem dX0_copyFrom_37 : decode cX0_copyFrom 37 = .ok (.putfield 25, 3) := by decide +kernel
theorem dX0_copyFrom_40 : decode cX0_copyFrom 40 = .ok (.aload_n 0, 1) := by decide +kernel
theorem dX0_copyFrom_41 : decode cX0_copyFrom 41 = .ok (.aload_n 1, 1) := by decide +kernel
theorem dX0_copyFrom_42 : decode cX0_copyFrom 42 = .ok (.getfield 28, 3) := by decide +kernel
theorem dX0_copyFrom_45 : decode cX0_copyFrom 45 = .ok (.putfield 28, 3) := by decide +kernel
theorem dX0_copyFrom_48 : decode cX0_copyFrom 48 = .ok (.aload_n 0, 1) := by decide +kernel
theorem dX0_copyFrom_49 : decode cX0_copyFrom 49 = .ok (.aload_n 1, 1) := by decide +kernel
theorem dX0_copyFrom_50 : decode cX0_copyFrom 50 = .ok (.getfield 31, 3) := by decide +kernel
theorem dX0_copyFrom_53 : decode cX0_copyFrom 53 = .ok (.putfield 31, 3) := by decide +kernel
theorem dX0_copyFrom_56 : decode cX0_copyFrom 56 = .ok (.aload_n 0, 1) := by decide +kernel
theorem dX0_copyFrom_57 : decode cX0_copyFrom 57 = .ok (.aload_n 1, 1) := by decide +kernel
theorem dX0_copyFrom_58 : decode cX0_copyFrom 58 = .ok (.getfield 34, 3) := by decide +kernel
theorem dX0_copyFrom_61 : decode cX0_copyFrom 61 = .ok (.putfield 34, 3) := by decide +kernel
theorem dX0_copyFrom_64 : decode cX0_copyFrom 64 = .ok (.aload_n 0, 1) := by decide +kernel
theorem dX0_copyFrom_65 : decode cX0_copyFrom 65 = .ok (.aload_n 1, 1) := by decide +kernel
theorem dX0_copyFrom_66 : decode cX0_copyFrom 66 = .ok (.getfield 37, 3) := by decide +kernel
theorem dX0_copyFrom_69 : decode cX0_copyFrom 69 = .ok (.putfield 37, 3) := by decide +kernel
theorem dX0_copyFrom_72 : decode cX0_copyFrom 72 = .ok (.aload_n 0, 1) := by decide +kernel
theorem dX0_copyFrom_73 : decode cX0_copyFrom 73 = .ok (.aload_n 1, 1) := by decide +kernel
theorem dX0_copyFrom_74 : decode cX0_copyFrom 74 = .ok (.getfield 40, 3) := by decide +kernel
theorem dX0_copyFrom_77 : decode cX0_copyFrom 77 = .ok (.putfield 40, 3) := by decide +kernel
theorem dX0_copyFrom_80 : decode cX0_copyFrom 80 = .ok (.aload_n 0, 1) := by decide +kernel
theorem dX0_copyFrom_81 : decode cX0_copyFrom 81 = .ok (.aload_n 1, 1) := by decide +kernel
theorem dX0_copyFrom_82 : decode cX0_copyFrom 82 = .ok (.getfield 43, 3) := by decide +kernel
theorem dX0_copyFrom_85 : decode cX0_copyFrom 85 = .ok (.putfield 43, 3) := by decide +kernel
theorem dX0_copyFrom_88 : decode cX0_copyFrom 88 = .ok (.return_, 1) := by decide +kernel
theorem dX0_depthByPair_0 : decode cX0_depthByPair 0 = .ok (.aload_n 0, 1) := by decide +kernel
theorem dX0_depthByPair_1 : decode cX0_depthByPair 1 = .ok (.getfield 40, 3) := by decide +kernel
theorem dX0_depthByPair_4 : decode cX0_depthByPair 4 = .ok (.aload_n 0, 1) := by decide +kernel
theorem dX0_depthByPair_5 : decode cX0_depthByPair 5 = .ok (.getfield 37, 3) := by decide +kernel
theorem dX0_depthByPair_8 : decode cX0_depthByPair 8 = .ok (.isub, 1) := by decide +kernel
theorem dX0_depthByPair_9 : decode cX0_depthByPair 9 = .ok (.bipush 10, 2) := by decide +kernel
theorem dX0_depthByPair_11 : decode cX0_depthByPair 11 = .ok (.imul, 1) := by decide +kernel
theorem dX0_depthByPair_12 : decode cX0_depthByPair 12 = .ok (.ireturn, 1) := by decide +kernel
theorem dX0_difference_0 : decode cX0_difference 0 = .ok (.aload_n 0, 1) := by decide +kernel
theorem dX0_difference_1 : decode cX0_difference 1 = .ok (.invokevirtual 46, 3) := by decide +kernel
theorem dX0_difference_4 : decode cX0_difference 4 = .ok (.aload_n 0, 1) := by decide +kernel
theorem dX0_difference_5 : decode cX0_difference 5 = .ok (.getfield 31, 3) := by decide +kernel
theorem dX0_difference_8 : decode cX0_difference 8 = .ok (.isub, 1) := by decide +kernel
theorem dX0_difference_9 : decode cX0_difference 9 = .ok (.invokestatic 50, 3) := by decide +kernel
theorem dX0_difference_12 : decode cX0_difference 12 = .ok (.ireturn, 1) := by decide +kernel
theorem dX1_init_0 : decode cX1_init 0 = .ok (.aload_n 0, 1) := by decide +kernel
theorem dX1_init_1 : decode cX1_init 1 = .ok (.invokespecial 3, 3) := by decide +kernel
theorem dX1_init_4 : decode cX1_init 4 = .ok (.return_, 1) := by decide +kernel
theorem dX1_copyFrom_0 : decode cX1_copyFrom 0 = .ok (.aload_n 0, 1) := by decide +kernel
theorem dX1_copyFrom_1 : decode cX1_copyFrom 1 = .ok (.aload_n 1, 1) := by decide +kernel
theorem dX1_copyFrom_2 : decode cX1_copyFrom 2 = .ok (.getfield 9, 3) := by decide +kernel
theorem dX1_copyFrom_5 : decode cX1_copyFrom 5 = .ok (.putfield 9, 3) := by decide +kernel
theorem dX1_copyFrom_8 : decode cX1_copyFrom 8 = .ok (.aload_n 0, 1) := by decide +kernel
theorem dX1_copyFrom_9 : decode cX1_copyFrom 9 = .ok (.aload_n 1, 1) := by decide +kernel
theorem dX1_copyFrom_10 : decode cX1_copyFrom 10 = .ok (.getfield 15, 3) := by decide +kernel
theorem dX1_copyFrom_13 : decode cX1_copyFrom 13 = .ok (.putfield 15, 3) := by decide +kernel
theorem dX1_copyFrom_16 : decode cX1_copyFrom 16 = .ok (.aload_n 0, 1) := by decide +kernel
theorem dX1_copyFrom_17 : decode cX1_copyFrom 17 = .ok (.aload_n 1, 1) := by decide +kernel
theorem dX1_copyFrom_18 : decode cX1_copyFrom 18 = .ok (.getfield 18, 3) := by decide +kernel
theorem dX1_copyFrom_21 : decode cX1_copyFrom 21 = .ok (.putfield 18, 3) := by decide +kernel
theorem dX1_copyFrom_24 : decode cX1_copyFrom 24 = .ok (.return_, 1) := by decide +kernel
theorem dX1_countedSlope_0 : decode cX1_countedSlope 0 = .ok (.aload_n 0, 1) := by decide +kernel
theorem dX1_countedSlope_1 : decode cX1_countedSlope 1 = .ok (.getfield 18, 3) := by decide +kernel
theorem dX1_countedSlope_4 : decode cX1_countedSlope 4 = .ok (.ifCond .eq 17, 3) := by decide +kernel
theorem dX1_countedSlope_7 : decode cX1_countedSlope 7 = .ok (.bipush 6, 2) := by decide +kernel
theorem dX1_countedSlope_9 : decode cX1_countedSlope 9 = .ok (.aload_n 0, 1) := by decide +kernel
theorem dX1_countedSlope_10 : decode cX1_countedSlope 10 = .ok (.getfield 15, 3) := by decide +kernel
theorem dX1_countedSlope_13 : decode cX1_countedSlope 13 = .ok (.iconst 2, 1) := by decide +kernel
theorem dX1_countedSlope_14 : decode cX1_countedSlope 14 = .ok (.iadd, 1) := by decide +kernel
theorem dX1_countedSlope_15 : decode cX1_countedSlope 15 = .ok (.invokestatic 22, 3) := by decide +kernel
theorem dX1_countedSlope_18 : decode cX1_countedSlope 18 = .ok (.goto 7, 3) := by decide +kernel
theorem dX1_countedSlope_21 : decode cX1_countedSlope 21 = .ok (.aload_n 0, 1) := by decide +kernel
theorem dX1_countedSlope_22 : decode cX1_countedSlope 22 = .ok (.getfield 15, 3) := by decide +kernel
theorem dX1_countedSlope_25 : decode cX1_countedSlope 25 = .ok (.ireturn, 1) := by decide +kernel
theorem dX1_isSticking_0 : decode cX1_isSticking 0 = .ok (.aload_n 0, 1) := by decide +kernel
theorem dX1_isSticking_1 : decode cX1_isSticking 1 = .ok (.invokevirtual 28, 3) := by decide +kernel
theorem dX1_isSticking_4 : decode cX1_isSticking 4 = .ok (.bipush 6, 2) := by decide +kernel
theorem dX1_isSticking_6 : decode cX1_isSticking 6 = .ok (.if_icmp .lt 7, 3) := by decide +kernel
theorem dX1_isSticking_9 : decode cX1_isSticking 9 = .ok (.iconst 1, 1) := by decide +kernel
theorem dX1_isSticking_10 : decode cX1_isSticking 10 = .ok (.goto 4, 3) := by decide +kernel
theorem dX1_isSticking_13 : decode cX1_isSticking 13 = .ok (.iconst 0, 1) := by decide +kernel
theorem dX1_isSticking_14 : decode cX1_isSticking 14 = .ok (.ireturn, 1) := by decide +kernel
theorem dX1_step_0 : decode cX1_step 0 = .ok (.iconst 1, 1) := by decide +kernel
theorem dX1_step_1 : decode cX1_step 1 = .ok (.iconst 5, 1) := by decide +kernel
theorem dX1_step_2 : decode cX1_step 2 = .ok (.aload_n 0, 1) := by decide +kernel
theorem dX1_step_3 : decode cX1_step 3 = .ok (.invokevirtual 28, 3) := by decide +kernel
theorem dX1_step_6 : decode cX1_step 6 = .ok (.isub, 1) := by decide +kernel
theorem dX1_step_7 : decode cX1_step 7 = .ok (.invokestatic 32, 3) := by decide +kernel
theorem dX1_step_10 : decode cX1_step 10 = .ok (.ireturn, 1) := by decide +kernel
theorem dX1_isInWater_0 : decode cX1_isInWater 0 = .ok (.iload_n 1, 1) := by decide +kernel
theorem dX1_isInWater_1 : decode cX1_isInWater 1 = .ok (.aload_n 0, 1) := by decide +kernel
theorem dX1_isInWater_2 : decode cX1_isInWater 2 = .ok (.getfield 9, 3) := by decide +kernel
theorem dX1_isInWater_5 : decode cX1_isInWater 5 = .ok (.if_icmp .ge 7, 3) := by decide +kernel
theorem dX1_isInWater_8 : decode cX1_isInWater 8 = .ok (.iconst 1, 1) := by decide +kernel
theorem dX1_isInWater_9 : decode cX1_isInWater 9 = .ok (.goto 4, 3) := by decide +kernel
theorem dX1_isInWater_12 : decode cX1_isInWater 12 = .ok (.iconst 0, 1) := by decide +kernel
theorem dX1_isInWater_13 : decode cX1_isInWater 13 = .ok (.ireturn, 1) := by decide +kernel
theorem dX1_metreOf_0 : decode cX1_metreOf 0 = .ok (.aload_n 0, 1) := by decide +kernel
theorem dX1_metreOf_1 : decode cX1_metreOf 1 = .ok (.iload_n 1, 1) := by decide +kernel
theorem dX1_metreOf_2 : decode cX1_metreOf 2 = .ok (.invokevirtual 35, 3) := by decide +kernel
theorem dX1_metreOf_5 : decode cX1_metreOf 5 = .ok (.ifCond .eq 12, 3) := by decide +kernel
theorem dX1_metreOf_8 : decode cX1_metreOf 8 = .ok (.aload_n 0, 1) := by decide +kernel
theorem dX1_metreOf_9 : decode cX1_metreOf 9 = .ok (.getfield 9, 3) := by decide +kernel
theorem dX1_metreOf_12 : decode cX1_metreOf 12 = .ok (.iload_n 1, 1) := by decide +kernel
theorem dX1_metreOf_13 : decode cX1_metreOf 13 = .ok (.isub, 1) := by decide +kernel
theorem dX1_metreOf_14 : decode cX1_metreOf 14 = .ok (.goto 4, 3) := by decide +kernel
theorem dX1_metreOf_17 : decode cX1_metreOf 17 = .ok (.iconst 0, 1) := by decide +kernel
theorem dX1_metreOf_18 : decode cX1_metreOf 18 = .ok (.ireturn, 1) := by decide +kernel
theorem dX1_depthOf_0 : decode cX1_depthOf 0 = .ok (.aload_n 0, 1) := by decide +kernel
theorem dX1_depthOf_1 : decode cX1_depthOf 1 = .ok (.iload_n 1, 1) := by decide +kernel
theorem dX1_depthOf_2 : decode cX1_depthOf 2 = .ok (.invokevirtual 39, 3) := by decide +kernel
theorem dX1_depthOf_5 : decode cX1_depthOf 5 = .ok (.aload_n 0, 1) := by decide +kernel
theorem dX1_depthOf_6 : decode cX1_depthOf 6 = .ok (.invokevirtual 28, 3) := by decide +kernel
theorem dX1_depthOf_9 : decode cX1_depthOf 9 = .ok (.invokestatic 43, 3) := by decide +kernel
theorem dX1_depthOf_12 : decode cX1_depthOf 12 = .ok (.ireturn, 1) := by decide +kernel
theorem dX2_init_0 : decode cX2_init 0 = .ok (.aload_n 0, 1) := by decide +kernel
theorem dX2_init_1 : decode cX2_init 1 = .ok (.invokespecial 3, 3) := by decide +kernel
theorem dX2_init_4 : decode cX2_init 4 = .ok (.aload_n 0, 1) := by decide +kernel
theorem dX2_init_5 : decode cX2_init 5 = .ok (.bipush 60, 2) := by decide +kernel
theorem dX2_init_7 : decode cX2_init 7 = .ok (.newarray .char, 2) := by decide +kernel
theorem dX2_init_9 : decode cX2_init 9 = .ok (.putfield 9, 3) := by decide +kernel
theorem dX2_init_12 : decode cX2_init 12 = .ok (.aload_n 0, 1) := by decide +kernel
theorem dX2_init_13 : decode cX2_init 13 = .ok (.bipush 60, 2) := by decide +kernel
theorem dX2_init_15 : decode cX2_init 15 = .ok (.newarray .int, 2) := by decide +kernel
theorem dX2_init_17 : decode cX2_init 17 = .ok (.putfield 15, 3) := by decide +kernel
theorem dX2_init_20 : decode cX2_init 20 = .ok (.return_, 1) := by decide +kernel
theorem dX2_kindAt_0 : decode cX2_kindAt 0 = .ok (.iload_n 1, 1) := by decide +kernel
theorem dX2_kindAt_1 : decode cX2_kindAt 1 = .ok (.ifCond .lt 18, 3) := by decide +kernel
theorem dX2_kindAt_4 : decode cX2_kindAt 4 = .ok (.iload_n 1, 1) := by decide +kernel
theorem dX2_kindAt_5 : decode cX2_kindAt 5 = .ok (.bipush 60, 2) := by decide +kernel
theorem dX2_kindAt_7 : decode cX2_kindAt 7 = .ok (.if_icmp .ge 12, 3) := by decide +kernel
theorem dX2_kindAt_10 : decode cX2_kindAt 10 = .ok (.aload_n 0, 1) := by decide +kernel
theorem dX2_kindAt_11 : decode cX2_kindAt 11 = .ok (.getfield 9, 3) := by decide +kernel
theorem dX2_kindAt_14 : decode cX2_kindAt 14 = .ok (.iload_n 1, 1) := by decide +kernel
theorem dX2_kindAt_15 : decode cX2_kindAt 15 = .ok (.caload, 1) := by decide +kernel
theorem dX2_kindAt_16 : decode cX2_kindAt 16 = .ok (.goto 4, 3) := by decide +kernel
theorem dX2_kindAt_19 : decode cX2_kindAt 19 = .ok (.iconst 0, 1) := by decide +kernel
theorem dX2_kindAt_20 : decode cX2_kindAt 20 = .ok (.ireturn, 1) := by decide +kernel
theorem dX2_numberAt_0 : decode cX2_numberAt 0 = .ok (.iload_n 1, 1) := by decide +kernel
theorem dX2_numberAt_1 : decode cX2_numberAt 1 = .ok (.ifCond .lt 18, 3) := by decide +kernel
theorem dX2_numberAt_4 : decode cX2_numberAt 4 = .ok (.iload_n 1, 1) := by decide +kernel
theorem dX2_numberAt_5 : decode cX2_numberAt 5 = .ok (.bipush 60, 2) := by decide +kernel
theorem dX2_numberAt_7 : decode cX2_numberAt 7 = .ok (.if_icmp .ge 12, 3) := by decide +kernel
theorem dX2_numberAt_10 : decode cX2_numberAt 10 = .ok (.aload_n 0, 1) := by decide +kernel
theorem dX2_numberAt_11 : decode cX2_numberAt 11 = .ok (.getfield 15, 3) := by decide +kernel
theorem dX2_numberAt_14 : decode cX2_numberAt 14 = .ok (.iload_n 1, 1) := by decide +kernel
theorem dX2_numberAt_15 : decode cX2_numberAt 15 = .ok (.iaload, 1) := by decide +kernel
theorem dX2_numberAt_16 : decode cX2_numberAt 16 = .ok (.goto 4, 3) := by decide +kernel
theorem dX2_numberAt_19 : decode cX2_numberAt 19 = .ok (.iconst 0, 1) := by decide +kernel
theorem dX2_numberAt_20 : decode cX2_numberAt 20 = .ok (.ireturn, 1) := by decide +kernel
theorem dX2_read_0 : decode cX2_read 0 = .ok (.aload_n 0, 1) := by decide +kernel
theorem dX2_read_1 : decode cX2_read 1 = .ok (.iconst 0, 1) := by decide +kernel
theorem dX2_read_2 : decode cX2_read 2 = .ok (.putfield 19, 3) := by decide +kernel
theorem dX2_read_5 : decode cX2_read 5 = .ok (.aload_n 0, 1) := by decide +kernel
theorem dX2_read_6 : decode cX2_read 6 = .ok (.iconst 0, 1) := by decide +kernel
theorem dX2_read_7 : decode cX2_read 7 = .ok (.putfield 23, 3) := by decide +kernel
theorem dX2_read_10 : decode cX2_read 10 = .ok (.iconst 0, 1) := by decide +kernel
theorem dX2_read_11 : decode cX2_read 11 = .ok (.istore_n 2, 1) := by decide +kernel
theorem dX2_read_12 : decode cX2_read 12 = .ok (.iload_n 2, 1) := by decide +kernel
theorem dX2_read_13 : decode cX2_read 13 = .ok (.bipush 60, 2) := by decide +kernel
theorem dX2_read_15 : decode cX2_read 15 = .ok (.if_icmp .gt 63, 3) := by decide +kernel
theorem dX2_read_18 : decode cX2_read 18 = .ok (.aload_n 0, 1) := by decide +kernel
theorem dX2_read_19 : decode cX2_read 19 = .ok (.aload_n 1, 1) := by decide +kernel
theorem dX2_read_20 : decode cX2_read 20 = .ok (.invokevirtual 26, 3) := by decide +kernel
theorem dX2_read_23 : decode cX2_read 23 = .ok (.ifCond .ne 8, 3) := by decide +kernel
theorem dX2_read_26 : decode cX2_read 26 = .ok (.aload_n 0, 1) := by decide +kernel
theorem dX2_read_27 : decode cX2_read 27 = .ok (.getfield 23, 3) := by decide +kernel
theorem dX2_read_30 : decode cX2_read 30 = .ok (.ireturn, 1) := by decide +kernel
theorem dX2_read_31 : decode cX2_read 31 = .ok (.aload_n 0, 1) := by decide +kernel
theorem dX2_read_32 : decode cX2_read 32 = .ok (.getfield 23, 3) := by decide +kernel
theorem dX2_read_35 : decode cX2_read 35 = .ok (.aload_n 1, 1) := by decide +kernel
theorem dX2_read_36 : decode cX2_read 36 = .ok (.getfield 30, 3) := by decide +kernel
theorem dX2_read_39 : decode cX2_read 39 = .ok (.if_icmp .lt 5, 3) := by decide +kernel
theorem dX2_read_42 : decode cX2_read 42 = .ok (.iconst (-1), 1) := by decide +kernel
theorem dX2_read_43 : decode cX2_read 43 = .ok (.ireturn, 1) := by decide +kernel
theorem dX2_read_44 : decode cX2_read 44 = .ok (.aload_n 1, 1) := by decide +kernel
theorem dX2_read_45 : decode cX2_read 45 = .ok (.aload_n 0, 1) := by decide +kernel
theorem dX2_read_46 : decode cX2_read 46 = .ok (.getfield 23, 3) := by decide +kernel
theorem dX2_read_49 : decode cX2_read 49 = .ok (.invokevirtual 35, 3) := by decide +kernel
theorem dX2_read_52 : decode cX2_read 52 = .ok (.bipush 59, 2) := by decide +kernel
theorem dX2_read_54 : decode cX2_read 54 = .ok (.if_icmp .eq 8, 3) := by decide +kernel
theorem dX2_read_57 : decode cX2_read 57 = .ok (.aload_n 0, 1) := by decide +kernel
theorem dX2_read_58 : decode cX2_read 58 = .ok (.getfield 23, 3) := by decide +kernel
theorem dX2_read_61 : decode cX2_read 61 = .ok (.ireturn, 1) := by decide +kernel
theorem dX2_read_62 : decode cX2_read 62 = .ok (.aload_n 0, 1) := by decide +kernel
theorem dX2_read_63 : decode cX2_read 63 = .ok (.dup, 1) := by decide +kernel
theorem dX2_read_64 : decode cX2_read 64 = .ok (.getfield 23, 3) := by decide +kernel
theorem dX2_read_67 : decode cX2_read 67 = .ok (.iconst 1, 1) := by decide +kernel
theorem dX2_read_68 : decode cX2_read 68 = .ok (.iadd, 1) := by decide +kernel
theorem dX2_read_69 : decode cX2_read 69 = .ok (.putfield 23, 3) := by decide +kernel
theorem dX2_read_72 : decode cX2_read 72 = .ok (.iinc 2 1, 3) := by decide +kernel
theorem dX2_read_75 : decode cX2_read 75 = .ok (.goto (-63), 3) := by decide +kernel
theorem dX2_read_78 : decode cX2_read 78 = .ok (.aload_n 0, 1) := by decide +kernel
theorem dX2_read_79 : decode cX2_read 79 = .ok (.getfield 23, 3) := by decide +kernel
theorem dX2_read_82 : decode cX2_read 82 = .ok (.ireturn, 1) := by decide +kernel
theorem dX2_readThing_0 : decode cX2_readThing 0 = .ok (.aload_n 1, 1) := by decide +kernel
theorem dX2_readThing_1 : decode cX2_readThing 1 = .ok (.aload_n 0, 1) := by decide +kernel
theorem dX2_readThing_2 : decode cX2_readThing 2 = .ok (.getfield 23, 3) := by decide +kernel
theorem dX2_readThing_5 : decode cX2_readThing 5 = .ok (.invokevirtual 35, 3) := by decide +kernel
theorem dX2_readThing_8 : decode cX2_readThing 8 = .ok (.istore_n 2, 1) := by decide +kernel
theorem dX2_readThing_9 : decode cX2_readThing 9 = .ok (.iload_n 2, 1) := by decide +kernel
theorem dX2_readThing_10 : decode cX2_readThing 10 = .ok (.lookupswitch 125 #[(33, 66), (43, 84), (45, 84), (46, 84), (47, 105), (98, 66), (109, 66)], 66) := by decide +kernel
theorem dX2_readThing_76 : decode cX2_readThing 76 = .ok (.aload_n 0, 1) := by decide +kernel
theorem dX2_readThing_77 : decode cX2_readThing 77 = .ok (.dup, 1) := by decide +kernel
theorem dX2_readThing_78 : decode cX2_readThing 78 = .ok (.getfield 23, 3) := by decide +kernel
theorem dX2_readThing_81 : decode cX2_readThing 81 = .ok (.iconst 1, 1) := by decide +kernel
theorem dX2_readThing_82 : decode cX2_readThing 82 = .ok (.iadd, 1) := by decide +kernel
theorem dX2_readThing_83 : decode cX2_readThing 83 = .ok (.putfield 23, 3) := by decide +kernel
theorem dX2_readThing_86 : decode cX2_readThing 86 = .ok (.aload_n 0, 1) := by decide +kernel
theorem dX2_readThing_87 : decode cX2_readThing 87 = .ok (.iload_n 2, 1) := by decide +kernel
theorem dX2_readThing_88 : decode cX2_readThing 88 = .ok (.iconst 0, 1) := by decide +kernel
theorem dX2_readThing_89 : decode cX2_readThing 89 = .ok (.invokevirtual 39, 3) := by decide +kernel
theorem dX2_readThing_92 : decode cX2_readThing 92 = .ok (.iconst 1, 1) := by decide +kernel
theorem dX2_readThing_93 : decode cX2_readThing 93 = .ok (.ireturn, 1) := by decide +kernel
theorem dX2_readThing_94 : decode cX2_readThing 94 = .ok (.aload_n 0, 1) := by decide +kernel
theorem dX2_readThing_95 : decode cX2_readThing 95 = .ok (.dup, 1) := by decide +kernel
theorem dX2_readThing_96 : decode cX2_readThing 96 = .ok (.getfield 23, 3) := by decide +kernel
theorem dX2_readThing_99 : decode cX2_readThing 99 = .ok (.iconst 1, 1) := by decide +kernel
theorem dX2_readThing_100 : decode cX2_readThing 100 = .ok (.iadd, 1) := by decide +kernel
theorem dX2_readThing_101 : decode cX2_readThing 101 = .ok (.putfield 23, 3) := by decide +kernel
theorem dX2_readThing_104 : decode cX2_readThing 104 = .ok (.aload_n 0, 1) := by decide +kernel
theorem dX2_readThing_105 : decode cX2_readThing 105 = .ok (.aload_n 1, 1) := by decide +kernel
theorem dX2_readThing_106 : decode cX2_readThing 106 = .ok (.iload_n 2, 1) := by decide +kernel
theorem dX2_readThing_107 : decode cX2_readThing 107 = .ok (.iconst 1, 1) := by decide +kernel
theorem dX2_readThing_108 : decode cX2_readThing 108 = .ok (.sipush 999, 3) := by decide +kernel
theorem dX2_readThing_111 : decode cX2_readThing 111 = .ok (.invokevirtual 43, 3) := by decide +kernel
theorem dX2_readThing_114 : decode cX2_readThing 114 = .ok (.ireturn, 1) := by decide +kernel
theorem dX2_readThing_115 : decode cX2_readThing 115 = .ok (.aload_n 0, 1) := by decide +kernel
theorem dX2_readThing_116 : decode cX2_readThing 116 = .ok (.dup, 1) := by decide +kernel
theorem dX2_readThing_117 : decode cX2_readThing 117 = .ok (.getfield 23, 3) := by decide +kernel
theorem dX2_readThing_120 : decode cX2_readThing 120 = .ok (.iconst 1, 1) := by decide +kernel
theorem dX2_readThing_121 : decode cX2_readThing 121 = .ok (.iadd, 1) := by decide +kernel
theorem dX2_readThing_122 : decode cX2_readThing 122 = .ok (.putfield 23, 3) := by decide +kernel
theorem dX2_readThing_125 : decode cX2_readThing 125 = .ok (.aload_n 0, 1) := by decide +kernel
theorem dX2_readThing_126 : decode cX2_readThing 126 = .ok (.aload_n 1, 1) := by decide +kernel
theorem dX2_readThing_127 : decode cX2_readThing 127 = .ok (.iload_n 2, 1) := by decide +kernel
theorem dX2_readThing_128 : decode cX2_readThing 128 = .ok (.iconst 0, 1) := by decide +kernel
theorem dX2_readThing_129 : decode cX2_readThing 129 = .ok (.bipush 6, 2) := by decide +kernel
theorem dX2_readThing_131 : decode cX2_readThing 131 = .ok (.invokevirtual 43, 3) := by decide +kernel
theorem dX2_readThing_134 : decode cX2_readThing 134 = .ok (.ireturn, 1) := by decide +kernel
theorem dX2_readThing_135 : decode cX2_readThing 135 = .ok (.iconst 0, 1) := by decide +kernel
theorem dX2_readThing_136 : decode cX2_readThing 136 = .ok (.ireturn, 1) := by decide +kernel
theorem dX2_readNumber_0 : decode cX2_readNumber 0 = .ok (.aload_n 1, 1) := by decide +kernel
theorem dX2_readNumber_1 : decode cX2_readNumber 1 = .ok (.aload_n 0, 1) := by decide +kernel
theorem dX2_readNumber_2 : decode cX2_readNumber 2 = .ok (.getfield 23, 3) := by decide +kernel
theorem dX2_readNumber_5 : decode cX2_readNumber 5 = .ok (.invokevirtual 47, 3) := by decide +kernel
theorem dX2_readNumber_8 : decode cX2_readNumber 8 = .ok (.istore 5, 2) := by decide +kernel
theorem dX2_readNumber_10 : decode cX2_readNumber 10 = .ok (.iload 5, 2) := by decide +kernel
theorem dX2_readNumber_12 : decode cX2_readNumber 12 = .ok (.iload_n 3, 1) := by decide +kernel
theorem dX2_readNumber_13 : decode cX2_readNumber 13 = .ok (.if_icmp .lt 10, 3) := by decide +kernel
theorem dX2_readNumber_16 : decode cX2_readNumber 16 = .ok (.iload 5, 2) := by decide +kernel
theorem dX2_readNumber_18 : decode cX2_readNumber 18 = .ok (.iload 4, 2) := by decide +kernel
theorem dX2_readNumber_20 : decode cX2_readNumber 20 = .ok (.if_icmp .le 5, 3) := by decide +kernel
theorem dX2_readNumber_23 : decode cX2_readNumber 23 = .ok (.iconst 0, 1) := by decide +kernel
theorem dX2_readNumber_24 : decode cX2_readNumber 24 = .ok (.ireturn, 1) := by decide +kernel
theorem dX2_readNumber_25 : decode cX2_readNumber 25 = .ok (.aload_n 0, 1) := by decide +kernel
theorem dX2_readNumber_26 : decode cX2_readNumber 26 = .ok (.dup, 1) := by decide +kernel
theorem dX2_readNumber_27 : decode cX2_readNumber 27 = .ok (.getfield 23, 3) := by decide +kernel
theorem dX2_readNumber_30 : decode cX2_readNumber 30 = .ok (.iconst 1, 1) := by decide +kernel
theorem dX2_readNumber_31 : decode cX2_readNumber 31 = .ok (.iadd, 1) := by decide +kernel
theorem dX2_readNumber_32 : decode cX2_readNumber 32 = .ok (.putfield 23, 3) := by decide +kernel
theorem dX2_readNumber_35 : decode cX2_readNumber 35 = .ok (.iconst 0, 1) := by decide +kernel
theorem dX2_readNumber_36 : decode cX2_readNumber 36 = .ok (.istore 6, 2) := by decide +kernel
theorem dX2_readNumber_38 : decode cX2_readNumber 38 = .ok (.iload 6, 2) := by decide +kernel
theorem dX2_readNumber_40 : decode cX2_readNumber 40 = .ok (.bipush 60, 2) := by decide +kernel
theorem dX2_readNumber_42 : decode cX2_readNumber 42 = .ok (.if_icmp .ge 65, 3) := by decide +kernel
theorem dX2_readNumber_45 : decode cX2_readNumber 45 = .ok (.iload 5, 2) := by decide +kernel
theorem dX2_readNumber_47 : decode cX2_readNumber 47 = .ok (.ifCond .le 60, 3) := by decide +kernel
theorem dX2_readNumber_50 : decode cX2_readNumber 50 = .ok (.aload_n 1, 1) := by decide +kernel
theorem dX2_readNumber_51 : decode cX2_readNumber 51 = .ok (.aload_n 0, 1) := by decide +kernel
theorem dX2_readNumber_52 : decode cX2_readNumber 52 = .ok (.getfield 23, 3) := by decide +kernel
theorem dX2_readNumber_55 : decode cX2_readNumber 55 = .ok (.invokevirtual 47, 3) := by decide +kernel
theorem dX2_readNumber_58 : decode cX2_readNumber 58 = .ok (.istore 7, 2) := by decide +kernel
theorem dX2_readNumber_60 : decode cX2_readNumber 60 = .ok (.iload 7, 2) := by decide +kernel
theorem dX2_readNumber_62 : decode cX2_readNumber 62 = .ok (.ifCond .lt 45, 3) := by decide +kernel
theorem dX2_readNumber_65 : decode cX2_readNumber 65 = .ok (.iload 5, 2) := by decide +kernel
theorem dX2_readNumber_67 : decode cX2_readNumber 67 = .ok (.bipush 10, 2) := by decide +kernel
theorem dX2_readNumber_69 : decode cX2_readNumber 69 = .ok (.imul, 1) := by decide +kernel
theorem dX2_readNumber_70 : decode cX2_readNumber 70 = .ok (.iload 7, 2) := by decide +kernel
theorem dX2_readNumber_72 : decode cX2_readNumber 72 = .ok (.iadd, 1) := by decide +kernel
theorem dX2_readNumber_73 : decode cX2_readNumber 73 = .ok (.iload 4, 2) := by decide +kernel
theorem dX2_readNumber_75 : decode cX2_readNumber 75 = .ok (.if_icmp .le 6, 3) := by decide +kernel
theorem dX2_readNumber_78 : decode cX2_readNumber 78 = .ok (.goto 29, 3) := by decide +kernel
theorem dX2_readNumber_81 : decode cX2_readNumber 81 = .ok (.iload 5, 2) := by decide +kernel
theorem dX2_readNumber_83 : decode cX2_readNumber 83 = .ok (.bipush 10, 2) := by decide +kernel
theorem dX2_readNumber_85 : decode cX2_readNumber 85 = .ok (.imul, 1) := by decide +kernel
theorem dX2_readNumber_86 : decode cX2_readNumber 86 = .ok (.iload 7, 2) := by decide +kernel
theorem dX2_readNumber_88 : decode cX2_readNumber 88 = .ok (.iadd, 1) := by decide +kernel
theorem dX2_readNumber_89 : decode cX2_readNumber 89 = .ok (.istore 5, 2) := by decide +kernel
theorem dX2_readNumber_91 : decode cX2_readNumber 91 = .ok (.aload_n 0, 1) := by decide +kernel
theorem dX2_readNumber_92 : decode cX2_readNumber 92 = .ok (.dup, 1) := by decide +kernel
theorem dX2_readNumber_93 : decode cX2_readNumber 93 = .ok (.getfield 23, 3) := by decide +kernel
theorem dX2_readNumber_96 : decode cX2_readNumber 96 = .ok (.iconst 1, 1) := by decide +kernel
theorem dX2_readNumber_97 : decode cX2_readNumber 97 = .ok (.iadd, 1) := by decide +kernel
theorem dX2_readNumber_98 : decode cX2_readNumber 98 = .ok (.putfield 23, 3) := by decide +kernel
theorem dX2_readNumber_101 : decode cX2_readNumber 101 = .ok (.iinc 6 1, 3) := by decide +kernel
theorem dX2_readNumber_104 : decode cX2_readNumber 104 = .ok (.goto (-66), 3) := by decide +kernel
theorem dX2_readNumber_107 : decode cX2_readNumber 107 = .ok (.aload_n 0, 1) := by decide +kernel
theorem dX2_readNumber_108 : decode cX2_readNumber 108 = .ok (.iload_n 2, 1) := by decide +kernel
theorem dX2_readNumber_109 : decode cX2_readNumber 109 = .ok (.iload 5, 2) := by decide +kernel
theorem dX2_readNumber_111 : decode cX2_readNumber 111 = .ok (.invokevirtual 39, 3) := by decide +kernel
theorem dX2_readNumber_114 : decode cX2_readNumber 114 = .ok (.iconst 1, 1) := by decide +kernel
theorem dX2_readNumber_115 : decode cX2_readNumber 115 = .ok (.ireturn, 1) := by decide +kernel
theorem dX2_addThing_0 : decode cX2_addThing 0 = .ok (.aload_n 0, 1) := by decide +kernel
theorem dX2_addThing_1 : decode cX2_addThing 1 = .ok (.getfield 19, 3) := by decide +kernel
theorem dX2_addThing_4 : decode cX2_addThing 4 = .ok (.ifCond .lt 42, 3) := by decide +kernel
theorem dX2_addThing_7 : decode cX2_addThing 7 = .ok (.aload_n 0, 1) := by decide +kernel
theorem dX2_addThing_8 : decode cX2_addThing 8 = .ok (.getfield 19, 3) := by decide +kernel
theorem dX2_addThing_11 : decode cX2_addThing 11 = .ok (.bipush 60, 2) := by decide +kernel
theorem dX2_addThing_13 : decode cX2_addThing 13 = .ok (.if_icmp .ge 33, 3) := by decide +kernel
theorem dX2_addThing_16 : decode cX2_addThing 16 = .ok (.aload_n 0, 1) := by decide +kernel
theorem dX2_addThing_17 : decode cX2_addThing 17 = .ok (.getfield 9, 3) := by decide +kernel
theorem dX2_addThing_20 : decode cX2_addThing 20 = .ok (.aload_n 0, 1) := by decide +kernel
theorem dX2_addThing_21 : decode cX2_addThing 21 = .ok (.getfield 19, 3) := by decide +kernel
theorem dX2_addThing_24 : decode cX2_addThing 24 = .ok (.iload_n 1, 1) := by decide +kernel
theorem dX2_addThing_25 : decode cX2_addThing 25 = .ok (.castore, 1) := by decide +kernel
theorem dX2_addThing_26 : decode cX2_addThing 26 = .ok (.aload_n 0, 1) := by decide +kernel
theorem dX2_addThing_27 : decode cX2_addThing 27 = .ok (.getfield 15, 3) := by decide +kernel
theorem dX2_addThing_30 : decode cX2_addThing 30 = .ok (.aload_n 0, 1) := by decide +kernel
theorem dX2_addThing_31 : decode cX2_addThing 31 = .ok (.getfield 19, 3) := by decide +kernel
theorem dX2_addThing_34 : decode cX2_addThing 34 = .ok (.iload_n 2, 1) := by decide +kernel
theorem dX2_addThing_35 : decode cX2_addThing 35 = .ok (.iastore, 1) := by decide +kernel
theorem dX2_addThing_36 : decode cX2_addThing 36 = .ok (.aload_n 0, 1) := by decide +kernel
theorem dX2_addThing_37 : decode cX2_addThing 37 = .ok (.dup, 1) := by decide +kernel
theorem dX2_addThing_38 : decode cX2_addThing 38 = .ok (.getfield 19, 3) := by decide +kernel
theorem dX2_addThing_41 : decode cX2_addThing 41 = .ok (.iconst 1, 1) := by decide +kernel
theorem dX2_addThing_42 : decode cX2_addThing 42 = .ok (.iadd, 1) := by decide +kernel
theorem dX2_addThing_43 : decode cX2_addThing 43 = .ok (.putfield 19, 3) := by decide +kernel
theorem dX2_addThing_46 : decode cX2_addThing 46 = .ok (.return_, 1) := by decide +kernel
theorem dX3_init_0 : decode cX3_init 0 = .ok (.aload_n 0, 1) := by decide +kernel
theorem dX3_init_1 : decode cX3_init 1 = .ok (.invokespecial 3, 3) := by decide +kernel
theorem dX3_init_4 : decode cX3_init 4 = .ok (.aload_n 0, 1) := by decide +kernel
theorem dX3_init_5 : decode cX3_init 5 = .ok (.iconst 4, 1) := by decide +kernel
theorem dX3_init_6 : decode cX3_init 6 = .ok (.anewarray 9, 3) := by decide +kernel
theorem dX3_init_9 : decode cX3_init 9 = .ok (.putfield 11, 3) := by decide +kernel
theorem dX3_init_12 : decode cX3_init 12 = .ok (.iconst 0, 1) := by decide +kernel
theorem dX3_init_13 : decode cX3_init 13 = .ok (.istore_n 1, 1) := by decide +kernel
theorem dX3_init_14 : decode cX3_init 14 = .ok (.iload_n 1, 1) := by decide +kernel
theorem dX3_init_15 : decode cX3_init 15 = .ok (.iconst 4, 1) := by decide +kernel
theorem dX3_init_16 : decode cX3_init 16 = .ok (.if_icmp .ge 22, 3) := by decide +kernel
theorem dX3_init_19 : decode cX3_init 19 = .ok (.aload_n 0, 1) := by decide +kernel
theorem dX3_init_20 : decode cX3_init 20 = .ok (.getfield 11, 3) := by decide +kernel
theorem dX3_init_23 : decode cX3_init 23 = .ok (.iload_n 1, 1) := by decide +kernel
theorem dX3_init_24 : decode cX3_init 24 = .ok (.new 9, 3) := by decide +kernel
theorem dX3_init_27 : decode cX3_init 27 = .ok (.dup, 1) := by decide +kernel
theorem dX3_init_28 : decode cX3_init 28 = .ok (.invokespecial 17, 3) := by decide +kernel
theorem dX3_init_31 : decode cX3_init 31 = .ok (.aastore, 1) := by decide +kernel
theorem dX3_init_32 : decode cX3_init 32 = .ok (.iinc 1 1, 3) := by decide +kernel
theorem dX3_init_35 : decode cX3_init 35 = .ok (.goto (-21), 3) := by decide +kernel
theorem dX3_init_38 : decode cX3_init 38 = .ok (.return_, 1) := by decide +kernel
theorem dX3_add_0 : decode cX3_add 0 = .ok (.aload_n 0, 1) := by decide +kernel
theorem dX3_add_1 : decode cX3_add 1 = .ok (.getfield 18, 3) := by decide +kernel
theorem dX3_add_4 : decode cX3_add 4 = .ok (.iconst 4, 1) := by decide +kernel
theorem dX3_add_5 : decode cX3_add 5 = .ok (.if_icmp .lt 7, 3) := by decide +kernel
theorem dX3_add_8 : decode cX3_add 8 = .ok (.aload_n 0, 1) := by decide +kernel
theorem dX3_add_9 : decode cX3_add 9 = .ok (.invokevirtual 22, 3) := by decide +kernel
theorem dX3_add_12 : decode cX3_add 12 = .ok (.aload_n 0, 1) := by decide +kernel
theorem dX3_add_13 : decode cX3_add 13 = .ok (.getfield 18, 3) := by decide +kernel
theorem dX3_add_16 : decode cX3_add 16 = .ok (.ifCond .lt 23, 3) := by decide +kernel
theorem dX3_add_19 : decode cX3_add 19 = .ok (.aload_n 0, 1) := by decide +kernel
theorem dX3_add_20 : decode cX3_add 20 = .ok (.getfield 18, 3) := by decide +kernel
theorem dX3_add_23 : decode cX3_add 23 = .ok (.iconst 4, 1) := by decide +kernel
theorem dX3_add_24 : decode cX3_add 24 = .ok (.if_icmp .ge 15, 3) := by decide +kernel
theorem dX3_add_27 : decode cX3_add 27 = .ok (.aload_n 0, 1) := by decide +kernel
theorem dX3_add_28 : decode cX3_add 28 = .ok (.getfield 11, 3) := by decide +kernel
theorem dX3_add_31 : decode cX3_add 31 = .ok (.aload_n 0, 1) := by decide +kernel
theorem dX3_add_32 : decode cX3_add 32 = .ok (.getfield 18, 3) := by decide +kernel
theorem dX3_add_35 : decode cX3_add 35 = .ok (.aaload, 1) := by decide +kernel
theorem dX3_add_36 : decode cX3_add 36 = .ok (.goto 4, 3) := by decide +kernel
theorem dX3_add_39 : decode cX3_add 39 = .ok (.aconst_null, 1) := by decide +kernel
theorem dX3_add_40 : decode cX3_add 40 = .ok (.astore_n 2, 1) := by decide +kernel
theorem dX3_add_41 : decode cX3_add 41 = .ok (.aload_n 2, 1) := by decide +kernel
theorem dX3_add_42 : decode cX3_add 42 = .ok (.ifnull 18, 3) := by decide +kernel
theorem dX3_add_45 : decode cX3_add 45 = .ok (.aload_n 2, 1) := by decide +kernel
theorem dX3_add_46 : decode cX3_add 46 = .ok (.aload_n 1, 1) := by decide +kernel
theorem dX3_add_47 : decode cX3_add 47 = .ok (.invokevirtual 25, 3) := by decide +kernel
theorem dX3_add_50 : decode cX3_add 50 = .ok (.aload_n 0, 1) := by decide +kernel
theorem dX3_add_51 : decode cX3_add 51 = .ok (.dup, 1) := by decide +kernel
theorem dX3_add_52 : decode cX3_add 52 = .ok (.getfield 18, 3) := by decide +kernel
theorem dX3_add_55 : decode cX3_add 55 = .ok (.iconst 1, 1) := by decide +kernel
theorem dX3_add_56 : decode cX3_add 56 = .ok (.iadd, 1) := by decide +kernel
theorem dX3_add_57 : decode cX3_add 57 = .ok (.putfield 18, 3) := by decide +kernel
theorem dX3_add_60 : decode cX3_add 60 = .ok (.return_, 1) := by decide +kernel
theorem dX3_dropOldest_0 : decode cX3_dropOldest 0 = .ok (.aload_n 0, 1) := by decide +kernel
theorem dX3_dropOldest_1 : decode cX3_dropOldest 1 = .ok (.getfield 11, 3) := by decide +kernel
theorem dX3_dropOldest_4 : decode cX3_dropOldest 4 = .ok (.iconst 0, 1) := by decide +kernel
theorem dX3_dropOldest_5 : decode cX3_dropOldest 5 = .ok (.aaload, 1) := by decide +kernel
theorem dX3_dropOldest_6 : decode cX3_dropOldest 6 = .ok (.astore_n 1, 1) := by decide +kernel
theorem dX3_dropOldest_7 : decode cX3_dropOldest 7 = .ok (.iconst 0, 1) := by decide +kernel
theorem dX3_dropOldest_8 : decode cX3_dropOldest 8 = .ok (.istore_n 2, 1) := by decide +kernel
theorem dX3_dropOldest_9 : decode cX3_dropOldest 9 = .ok (.iload_n 2, 1) := by decide +kernel
theorem dX3_dropOldest_10 : decode cX3_dropOldest 10 = .ok (.iconst 3, 1) := by decide +kernel
theorem dX3_dropOldest_11 : decode cX3_dropOldest 11 = .ok (.if_icmp .ge 23, 3) := by decide +kernel
theorem dX3_dropOldest_14 : decode cX3_dropOldest 14 = .ok (.aload_n 0, 1) := by decide +kernel
theorem dX3_dropOldest_15 : decode cX3_dropOldest 15 = .ok (.getfield 11, 3) := by decide +kernel
theorem dX3_dropOldest_18 : decode cX3_dropOldest 18 = .ok (.iload_n 2, 1) := by decide +kernel
theorem dX3_dropOldest_19 : decode cX3_dropOldest 19 = .ok (.aload_n 0, 1) := by decide +kernel
theorem dX3_dropOldest_20 : decode cX3_dropOldest 20 = .ok (.getfield 11, 3) := by decide +kernel
theorem dX3_dropOldest_23 : decode cX3_dropOldest 23 = .ok (.iload_n 2, 1) := by decide +kernel
theorem dX3_dropOldest_24 : decode cX3_dropOldest 24 = .ok (.iconst 1, 1) := by decide +kernel
theorem dX3_dropOldest_25 : decode cX3_dropOldest 25 = .ok (.iadd, 1) := by decide +kernel
theorem dX3_dropOldest_26 : decode cX3_dropOldest 26 = .ok (.aaload, 1) := by decide +kernel
theorem dX3_dropOldest_27 : decode cX3_dropOldest 27 = .ok (.aastore, 1) := by decide +kernel
theorem dX3_dropOldest_28 : decode cX3_dropOldest 28 = .ok (.iinc 2 1, 3) := by decide +kernel
theorem dX3_dropOldest_31 : decode cX3_dropOldest 31 = .ok (.goto (-22), 3) := by decide +kernel
theorem dX3_dropOldest_34 : decode cX3_dropOldest 34 = .ok (.aload_n 0, 1) := by decide +kernel
theorem dX3_dropOldest_35 : decode cX3_dropOldest 35 = .ok (.getfield 11, 3) := by decide +kernel
theorem dX3_dropOldest_38 : decode cX3_dropOldest 38 = .ok (.iconst 3, 1) := by decide +kernel
theorem dX3_dropOldest_39 : decode cX3_dropOldest 39 = .ok (.aload_n 1, 1) := by decide +kernel
theorem dX3_dropOldest_40 : decode cX3_dropOldest 40 = .ok (.aastore, 1) := by decide +kernel
theorem dX3_dropOldest_41 : decode cX3_dropOldest 41 = .ok (.aload_n 0, 1) := by decide +kernel
theorem dX3_dropOldest_42 : decode cX3_dropOldest 42 = .ok (.iconst 3, 1) := by decide +kernel
theorem dX3_dropOldest_43 : decode cX3_dropOldest 43 = .ok (.putfield 18, 3) := by decide +kernel
theorem dX3_dropOldest_46 : decode cX3_dropOldest 46 = .ok (.return_, 1) := by decide +kernel
theorem dX3_takeLatest_0 : decode cX3_takeLatest 0 = .ok (.aload_n 0, 1) := by decide +kernel
theorem dX3_takeLatest_1 : decode cX3_takeLatest 1 = .ok (.getfield 18, 3) := by decide +kernel
theorem dX3_takeLatest_4 : decode cX3_takeLatest 4 = .ok (.iconst 1, 1) := by decide +kernel
theorem dX3_takeLatest_5 : decode cX3_takeLatest 5 = .ok (.isub, 1) := by decide +kernel
theorem dX3_takeLatest_6 : decode cX3_takeLatest 6 = .ok (.istore_n 2, 1) := by decide +kernel
theorem dX3_takeLatest_7 : decode cX3_takeLatest 7 = .ok (.iload_n 2, 1) := by decide +kernel
theorem dX3_takeLatest_8 : decode cX3_takeLatest 8 = .ok (.ifCond .lt 17, 3) := by decide +kernel
theorem dX3_takeLatest_11 : decode cX3_takeLatest 11 = .ok (.iload_n 2, 1) := by decide +kernel
theorem dX3_takeLatest_12 : decode cX3_takeLatest 12 = .ok (.iconst 4, 1) := by decide +kernel
theorem dX3_takeLatest_13 : decode cX3_takeLatest 13 = .ok (.if_icmp .ge 12, 3) := by decide +kernel
theorem dX3_takeLatest_16 : decode cX3_takeLatest 16 = .ok (.aload_n 0, 1) := by decide +kernel
theorem dX3_takeLatest_17 : decode cX3_takeLatest 17 = .ok (.getfield 11, 3) := by decide +kernel
theorem dX3_takeLatest_20 : decode cX3_takeLatest 20 = .ok (.iload_n 2, 1) := by decide +kernel
theorem dX3_takeLatest_21 : decode cX3_takeLatest 21 = .ok (.aaload, 1) := by decide +kernel
theorem dX3_takeLatest_22 : decode cX3_takeLatest 22 = .ok (.goto 4, 3) := by decide +kernel
theorem dX3_takeLatest_25 : decode cX3_takeLatest 25 = .ok (.aconst_null, 1) := by decide +kernel
theorem dX3_takeLatest_26 : decode cX3_takeLatest 26 = .ok (.astore_n 3, 1) := by decide +kernel
theorem dX3_takeLatest_27 : decode cX3_takeLatest 27 = .ok (.aload_n 3, 1) := by decide +kernel
theorem dX3_takeLatest_28 : decode cX3_takeLatest 28 = .ok (.ifnonnull 5, 3) := by decide +kernel
theorem dX3_takeLatest_31 : decode cX3_takeLatest 31 = .ok (.iconst 0, 1) := by decide +kernel
theorem dX3_takeLatest_32 : decode cX3_takeLatest 32 = .ok (.ireturn, 1) := by decide +kernel
theorem dX3_takeLatest_33 : decode cX3_takeLatest 33 = .ok (.aload_n 1, 1) := by decide +kernel
theorem dX3_takeLatest_34 : decode cX3_takeLatest 34 = .ok (.aload_n 3, 1) := by decide +kernel
theorem dX3_takeLatest_35 : decode cX3_takeLatest 35 = .ok (.invokevirtual 25, 3) := by decide +kernel
theorem dX3_takeLatest_38 : decode cX3_takeLatest 38 = .ok (.aload_n 0, 1) := by decide +kernel
theorem dX3_takeLatest_39 : decode cX3_takeLatest 39 = .ok (.iload_n 2, 1) := by decide +kernel
theorem dX3_takeLatest_40 : decode cX3_takeLatest 40 = .ok (.putfield 18, 3) := by decide +kernel
theorem dX3_takeLatest_43 : decode cX3_takeLatest 43 = .ok (.iconst 1, 1) := by decide +kernel
theorem dX3_takeLatest_44 : decode cX3_takeLatest 44 = .ok (.ireturn, 1) := by decide +kernel
theorem dX4_init_0 : decode cX4_init 0 = .ok (.aload_n 0, 1) := by decide +kernel
theorem dX4_init_1 : decode cX4_init 1 = .ok (.invokespecial 3, 3) := by decide +kernel
theorem dX4_init_4 : decode cX4_init 4 = .ok (.aload_n 0, 1) := by decide +kernel
theorem dX4_init_5 : decode cX4_init 5 = .ok (.bipush 12, 2) := by decide +kernel
theorem dX4_init_7 : decode cX4_init 7 = .ok (.newarray .int, 2) := by decide +kernel
theorem dX4_init_9 : decode cX4_init 9 = .ok (.putfield 9, 3) := by decide +kernel
theorem dX4_init_12 : decode cX4_init 12 = .ok (.return_, 1) := by decide +kernel
theorem dX4_copyFrom_0 : decode cX4_copyFrom 0 = .ok (.iconst 0, 1) := by decide +kernel
theorem dX4_copyFrom_1 : decode cX4_copyFrom 1 = .ok (.istore_n 2, 1) := by decide +kernel
theorem dX4_copyFrom_2 : decode cX4_copyFrom 2 = .ok (.iload_n 2, 1) := by decide +kernel
theorem dX4_copyFrom_3 : decode cX4_copyFrom 3 = .ok (.bipush 12, 2) := by decide +kernel
theorem dX4_copyFrom_5 : decode cX4_copyFrom 5 = .ok (.if_icmp .ge 21, 3) := by decide +kernel
theorem dX4_copyFrom_8 : decode cX4_copyFrom 8 = .ok (.aload_n 0, 1) := by decide +kernel
theorem dX4_copyFrom_9 : decode cX4_copyFrom 9 = .ok (.getfield 9, 3) := by decide +kernel
theorem dX4_copyFrom_12 : decode cX4_copyFrom 12 = .ok (.iload_n 2, 1) := by decide +kernel
theorem dX4_copyFrom_13 : decode cX4_copyFrom 13 = .ok (.aload_n 1, 1) := by decide +kernel
theorem dX4_copyFrom_14 : decode cX4_copyFrom 14 = .ok (.getfield 9, 3) := by decide +kernel
theorem dX4_copyFrom_17 : decode cX4_copyFrom 17 = .ok (.iload_n 2, 1) := by decide +kernel
theorem dX4_copyFrom_18 : decode cX4_copyFrom 18 = .ok (.iaload, 1) := by decide +kernel
theorem dX4_copyFrom_19 : decode cX4_copyFrom 19 = .ok (.iastore, 1) := by decide +kernel
theorem dX4_copyFrom_20 : decode cX4_copyFrom 20 = .ok (.iinc 2 1, 3) := by decide +kernel
theorem dX4_copyFrom_23 : decode cX4_copyFrom 23 = .ok (.goto (-21), 3) := by decide +kernel
theorem dX4_copyFrom_26 : decode cX4_copyFrom 26 = .ok (.aload_n 0, 1) := by decide +kernel
theorem dX4_copyFrom_27 : decode cX4_copyFrom 27 = .ok (.aload_n 1, 1) := by decide +kernel
theorem dX4_copyFrom_28 : decode cX4_copyFrom 28 = .ok (.getfield 15, 3) := by decide +kernel
theorem dX4_copyFrom_31 : decode cX4_copyFrom 31 = .ok (.putfield 15, 3) := by decide +kernel
theorem dX4_copyFrom_34 : decode cX4_copyFrom 34 = .ok (.aload_n 0, 1) := by decide +kernel
theorem dX4_copyFrom_35 : decode cX4_copyFrom 35 = .ok (.aload_n 1, 1) := by decide +kernel
theorem dX4_copyFrom_36 : decode cX4_copyFrom 36 = .ok (.getfield 19, 3) := by decide +kernel
theorem dX4_copyFrom_39 : decode cX4_copyFrom 39 = .ok (.putfield 19, 3) := by decide +kernel
theorem dX4_copyFrom_42 : decode cX4_copyFrom 42 = .ok (.aload_n 0, 1) := by decide +kernel
theorem dX4_copyFrom_43 : decode cX4_copyFrom 43 = .ok (.aload_n 1, 1) := by decide +kernel
theorem dX4_copyFrom_44 : decode cX4_copyFrom 44 = .ok (.getfield 22, 3) := by decide +kernel
theorem dX4_copyFrom_47 : decode cX4_copyFrom 47 = .ok (.putfield 22, 3) := by decide +kernel
theorem dX4_copyFrom_50 : decode cX4_copyFrom 50 = .ok (.aload_n 0, 1) := by decide +kernel
theorem dX4_copyFrom_51 : decode cX4_copyFrom 51 = .ok (.aload_n 1, 1) := by decide +kernel
theorem dX4_copyFrom_52 : decode cX4_copyFrom 52 = .ok (.getfield 25, 3) := by decide +kernel
theorem dX4_copyFrom_55 : decode cX4_copyFrom 55 = .ok (.putfield 25, 3) := by decide +kernel
theorem dX4_copyFrom_58 : decode cX4_copyFrom 58 = .ok (.aload_n 0, 1) := by decide +kernel
theorem dX4_copyFrom_59 : decode cX4_copyFrom 59 = .ok (.aload_n 1, 1) := by decide +kernel
theorem dX4_copyFrom_60 : decode cX4_copyFrom 60 = .ok (.getfield 28, 3) := by decide +kernel
theorem dX4_copyFrom_63 : decode cX4_copyFrom 63 = .ok (.putfield 28, 3) := by decide +kernel
theorem dX4_copyFrom_66 : decode cX4_copyFrom 66 = .ok (.aload_n 0, 1) := by decide +kernel
theorem dX4_copyFrom_67 : decode cX4_copyFrom 67 = .ok (.aload_n 1, 1) := by decide +kernel
theorem dX4_copyFrom_68 : decode cX4_copyFrom 68 = .ok (.getfield 31, 3) := by decide +kernel
theorem dX4_copyFrom_71 : decode cX4_copyFrom 71 = .ok (.putfield 31, 3) := by decide +kernel
theorem dX4_copyFrom_74 : decode cX4_copyFrom 74 = .ok (.return_, 1) := by decide +kernel
theorem dX4_markAt_0 : decode cX4_markAt 0 = .ok (.iload_n 1, 1) := by decide +kernel
theorem dX4_markAt_1 : decode cX4_markAt 1 = .ok (.ifCond .lt 18, 3) := by decide +kernel
theorem dX4_markAt_4 : decode cX4_markAt 4 = .ok (.iload_n 1, 1) := by decide +kernel
theorem dX4_markAt_5 : decode cX4_markAt 5 = .ok (.bipush 12, 2) := by decide +kernel
theorem dX4_markAt_7 : decode cX4_markAt 7 = .ok (.if_icmp .ge 12, 3) := by decide +kernel
theorem dX4_markAt_10 : decode cX4_markAt 10 = .ok (.aload_n 0, 1) := by decide +kernel
theorem dX4_markAt_11 : decode cX4_markAt 11 = .ok (.getfield 9, 3) := by decide +kernel
theorem dX4_markAt_14 : decode cX4_markAt 14 = .ok (.iload_n 1, 1) := by decide +kernel
theorem dX4_markAt_15 : decode cX4_markAt 15 = .ok (.iaload, 1) := by decide +kernel
theorem dX4_markAt_16 : decode cX4_markAt 16 = .ok (.goto 4, 3) := by decide +kernel
theorem dX4_markAt_19 : decode cX4_markAt 19 = .ok (.iconst 0, 1) := by decide +kernel
theorem dX4_markAt_20 : decode cX4_markAt 20 = .ok (.ireturn, 1) := by decide +kernel
theorem dX4_put_0 : decode cX4_put 0 = .ok (.iload_n 1, 1) := by decide +kernel
theorem dX4_put_1 : decode cX4_put 1 = .ok (.ifCond .lt 16, 3) := by decide +kernel
theorem dX4_put_4 : decode cX4_put 4 = .ok (.iload_n 1, 1) := by decide +kernel
theorem dX4_put_5 : decode cX4_put 5 = .ok (.bipush 12, 2) := by decide +kernel
theorem dX4_put_7 : decode cX4_put 7 = .ok (.if_icmp .ge 10, 3) := by decide +kernel
theorem dX4_put_10 : decode cX4_put 10 = .ok (.aload_n 0, 1) := by decide +kernel
theorem dX4_put_11 : decode cX4_put 11 = .ok (.getfield 9, 3) := by decide +kernel
theorem dX4_put_14 : decode cX4_put 14 = .ok (.iload_n 1, 1) := by decide +kernel
theorem dX4_put_15 : decode cX4_put 15 = .ok (.iload_n 2, 1) := by decide +kernel
theorem dX4_put_16 : decode cX4_put 16 = .ok (.iastore, 1) := by decide +kernel
theorem dX4_put_17 : decode cX4_put 17 = .ok (.return_, 1) := by decide +kernel
theorem dX4_isAnyAbove_0 : decode cX4_isAnyAbove 0 = .ok (.aload_n 0, 1) := by decide +kernel
theorem dX4_isAnyAbove_1 : decode cX4_isAnyAbove 1 = .ok (.getfield 15, 3) := by decide +kernel
theorem dX4_isAnyAbove_4 : decode cX4_isAnyAbove 4 = .ok (.ifCond .le 21, 3) := by decide +kernel
theorem dX4_isAnyAbove_7 : decode cX4_isAnyAbove 7 = .ok (.aload_n 0, 1) := by decide +kernel
theorem dX4_isAnyAbove_8 : decode cX4_isAnyAbove 8 = .ok (.aload_n 0, 1) := by decide +kernel
theorem dX4_isAnyAbove_9 : decode cX4_isAnyAbove 9 = .ok (.getfield 15, 3) := by decide +kernel
theorem dX4_isAnyAbove_12 : decode cX4_isAnyAbove 12 = .ok (.iconst 1, 1) := by decide +kernel
theorem dX4_isAnyAbove_13 : decode cX4_isAnyAbove 13 = .ok (.isub, 1) := by decide +kernel
theorem dX4_isAnyAbove_14 : decode cX4_isAnyAbove 14 = .ok (.invokevirtual 34, 3) := by decide +kernel
theorem dX4_isAnyAbove_17 : decode cX4_isAnyAbove 17 = .ok (.iload_n 1, 1) := by decide +kernel
theorem dX4_isAnyAbove_18 : decode cX4_isAnyAbove 18 = .ok (.if_icmp .le 7, 3) := by decide +kernel
theorem dX4_isAnyAbove_21 : decode cX4_isAnyAbove 21 = .ok (.iconst 1, 1) := by decide +kernel
theorem dX4_isAnyAbove_22 : decode cX4_isAnyAbove 22 = .ok (.goto 4, 3) := by decide +kernel
theorem dX4_isAnyAbove_25 : decode cX4_isAnyAbove 25 = .ok (.iconst 0, 1) := by decide +kernel
theorem dX4_isAnyAbove_26 : decode cX4_isAnyAbove 26 = .ok (.ireturn, 1) := by decide +kernel
theorem dX4_takeBackAbove_0 : decode cX4_takeBackAbove 0 = .ok (.aload_n 0, 1) := by decide +kernel
theorem dX4_takeBackAbove_1 : decode cX4_takeBackAbove 1 = .ok (.getfield 15, 3) := by decide +kernel
theorem dX4_takeBackAbove_4 : decode cX4_takeBackAbove 4 = .ok (.istore_n 2, 1) := by decide +kernel
theorem dX4_takeBackAbove_5 : decode cX4_takeBackAbove 5 = .ok (.iload_n 2, 1) := by decide +kernel
theorem dX4_takeBackAbove_6 : decode cX4_takeBackAbove 6 = .ok (.iconst 1, 1) := by decide +kernel
theorem dX4_takeBackAbove_7 : decode cX4_takeBackAbove 7 = .ok (.isub, 1) := by decide +kernel
theorem dX4_takeBackAbove_8 : decode cX4_takeBackAbove 8 = .ok (.istore_n 3, 1) := by decide +kernel
theorem dX4_takeBackAbove_9 : decode cX4_takeBackAbove 9 = .ok (.iload_n 3, 1) := by decide +kernel
theorem dX4_takeBackAbove_10 : decode cX4_takeBackAbove 10 = .ok (.ifCond .lt 23, 3) := by decide +kernel
theorem dX4_takeBackAbove_13 : decode cX4_takeBackAbove 13 = .ok (.aload_n 0, 1) := by decide +kernel
theorem dX4_takeBackAbove_14 : decode cX4_takeBackAbove 14 = .ok (.iload_n 3, 1) := by decide +kernel
theorem dX4_takeBackAbove_15 : decode cX4_takeBackAbove 15 = .ok (.invokevirtual 34, 3) := by decide +kernel
theorem dX4_takeBackAbove_18 : decode cX4_takeBackAbove 18 = .ok (.iload_n 1, 1) := by decide +kernel
theorem dX4_takeBackAbove_19 : decode cX4_takeBackAbove 19 = .ok (.if_icmp .le 14, 3) := by decide +kernel
theorem dX4_takeBackAbove_22 : decode cX4_takeBackAbove 22 = .ok (.aload_n 0, 1) := by decide +kernel
theorem dX4_takeBackAbove_23 : decode cX4_takeBackAbove 23 = .ok (.iload_n 3, 1) := by decide +kernel
theorem dX4_takeBackAbove_24 : decode cX4_takeBackAbove 24 = .ok (.putfield 15, 3) := by decide +kernel
theorem dX4_takeBackAbove_27 : decode cX4_takeBackAbove 27 = .ok (.iinc 3 (-1), 3) := by decide +kernel
theorem dX4_takeBackAbove_30 : decode cX4_takeBackAbove 30 = .ok (.goto (-21), 3) := by decide +kernel
theorem dX4_takeBackAbove_33 : decode cX4_takeBackAbove 33 = .ok (.aload_n 0, 1) := by decide +kernel
theorem dX4_takeBackAbove_34 : decode cX4_takeBackAbove 34 = .ok (.dup, 1) := by decide +kernel
theorem dX4_takeBackAbove_35 : decode cX4_takeBackAbove 35 = .ok (.getfield 31, 3) := by decide +kernel
theorem dX4_takeBackAbove_38 : decode cX4_takeBackAbove 38 = .ok (.iload_n 2, 1) := by decide +kernel
theorem dX4_takeBackAbove_39 : decode cX4_takeBackAbove 39 = .ok (.aload_n 0, 1) := by decide +kernel
theorem dX4_takeBackAbove_40 : decode cX4_takeBackAbove 40 = .ok (.getfield 15, 3) := by decide +kernel
theorem dX4_takeBackAbove_43 : decode cX4_takeBackAbove 43 = .ok (.isub, 1) := by decide +kernel
theorem dX4_takeBackAbove_44 : decode cX4_takeBackAbove 44 = .ok (.iadd, 1) := by decide +kernel
theorem dX4_takeBackAbove_45 : decode cX4_takeBackAbove 45 = .ok (.putfield 31, 3) := by decide +kernel
theorem dX4_takeBackAbove_48 : decode cX4_takeBackAbove 48 = .ok (.iload_n 2, 1) := by decide +kernel
theorem dX4_takeBackAbove_49 : decode cX4_takeBackAbove 49 = .ok (.aload_n 0, 1) := by decide +kernel
theorem dX4_takeBackAbove_50 : decode cX4_takeBackAbove 50 = .ok (.getfield 15, 3) := by decide +kernel
theorem dX4_takeBackAbove_53 : decode cX4_takeBackAbove 53 = .ok (.isub, 1) := by decide +kernel
theorem dX4_takeBackAbove_54 : decode cX4_takeBackAbove 54 = .ok (.ireturn, 1) := by decide +kernel
theorem dX4_sinkAll_0 : decode cX4_sinkAll 0 = .ok (.iconst 0, 1) := by decide +kernel
theorem dX4_sinkAll_1 : decode cX4_sinkAll 1 = .ok (.istore_n 2, 1) := by decide +kernel
theorem dX4_sinkAll_2 : decode cX4_sinkAll 2 = .ok (.iload_n 2, 1) := by decide +kernel
theorem dX4_sinkAll_3 : decode cX4_sinkAll 3 = .ok (.aload_n 0, 1) := by decide +kernel
theorem dX4_sinkAll_4 : decode cX4_sinkAll 4 = .ok (.getfield 15, 3) := by decide +kernel
theorem dX4_sinkAll_7 : decode cX4_sinkAll 7 = .ok (.if_icmp .ge 21, 3) := by decide +kernel
theorem dX4_sinkAll_10 : decode cX4_sinkAll 10 = .ok (.aload_n 0, 1) := by decide +kernel
theorem dX4_sinkAll_11 : decode cX4_sinkAll 11 = .ok (.iload_n 2, 1) := by decide +kernel
theorem dX4_sinkAll_12 : decode cX4_sinkAll 12 = .ok (.aload_n 0, 1) := by decide +kernel
theorem dX4_sinkAll_13 : decode cX4_sinkAll 13 = .ok (.iload_n 2, 1) := by decide +kernel
theorem dX4_sinkAll_14 : decode cX4_sinkAll 14 = .ok (.invokevirtual 34, 3) := by decide +kernel
theorem dX4_sinkAll_17 : decode cX4_sinkAll 17 = .ok (.iload_n 1, 1) := by decide +kernel
theorem dX4_sinkAll_18 : decode cX4_sinkAll 18 = .ok (.isub, 1) := by decide +kernel
theorem dX4_sinkAll_19 : decode cX4_sinkAll 19 = .ok (.invokevirtual 38, 3) := by decide +kernel
theorem dX4_sinkAll_22 : decode cX4_sinkAll 22 = .ok (.iinc 2 1, 3) := by decide +kernel
theorem dX4_sinkAll_25 : decode cX4_sinkAll 25 = .ok (.goto (-23), 3) := by decide +kernel
theorem dX4_sinkAll_28 : decode cX4_sinkAll 28 = .ok (.return_, 1) := by decide +kernel
theorem dX5_init_0 : decode cX5_init 0 = .ok (.aload_n 0, 1) := by decide +kernel
theorem dX5_init_1 : decode cX5_init 1 = .ok (.invokespecial 3, 3) := by decide +kernel
theorem dX5_init_4 : decode cX5_init 4 = .ok (.aload_n 0, 1) := by decide +kernel
theorem dX5_init_5 : decode cX5_init 5 = .ok (.new 9, 3) := by decide +kernel
theorem dX5_init_8 : decode cX5_init 8 = .ok (.dup, 1) := by decide +kernel
theorem dX5_init_9 : decode cX5_init 9 = .ok (.invokespecial 11, 3) := by decide +kernel
theorem dX5_init_12 : decode cX5_init 12 = .ok (.putfield 12, 3) := by decide +kernel
theorem dX5_init_15 : decode cX5_init 15 = .ok (.aload_n 0, 1) := by decide +kernel
theorem dX5_init_16 : decode cX5_init 16 = .ok (.new 18, 3) := by decide +kernel
theorem dX5_init_19 : decode cX5_init 19 = .ok (.dup, 1) := by decide +kernel
theorem dX5_init_20 : decode cX5_init 20 = .ok (.invokespecial 20, 3) := by decide +kernel
theorem dX5_init_23 : decode cX5_init 23 = .ok (.putfield 21, 3) := by decide +kernel
theorem dX5_init_26 : decode cX5_init 26 = .ok (.aload_n 0, 1) := by decide +kernel
theorem dX5_init_27 : decode cX5_init 27 = .ok (.new 25, 3) := by decide +kernel
theorem dX5_init_30 : decode cX5_init 30 = .ok (.dup, 1) := by decide +kernel
theorem dX5_init_31 : decode cX5_init 31 = .ok (.invokespecial 27, 3) := by decide +kernel
theorem dX5_init_34 : decode cX5_init 34 = .ok (.putfield 28, 3) := by decide +kernel
theorem dX5_init_37 : decode cX5_init 37 = .ok (.aload_n 0, 1) := by decide +kernel
theorem dX5_init_38 : decode cX5_init 38 = .ok (.bipush 10, 2) := by decide +kernel
theorem dX5_init_40 : decode cX5_init 40 = .ok (.anewarray 32, 3) := by decide +kernel
theorem dX5_init_43 : decode cX5_init 43 = .ok (.putfield 34, 3) := by decide +kernel
theorem dX5_init_46 : decode cX5_init 46 = .ok (.aload_n 0, 1) := by decide +kernel
theorem dX5_init_47 : decode cX5_init 47 = .ok (.bipush 20, 2) := by decide +kernel
theorem dX5_init_49 : decode cX5_init 49 = .ok (.putfield 38, 3) := by decide +kernel
theorem dX5_init_52 : decode cX5_init 52 = .ok (.aload_n 0, 1) := by decide +kernel
theorem dX5_init_53 : decode cX5_init 53 = .ok (.sipush 200, 3) := by decide +kernel
theorem dX5_init_56 : decode cX5_init 56 = .ok (.putfield 42, 3) := by decide +kernel
theorem dX5_init_59 : decode cX5_init 59 = .ok (.iconst 0, 1) := by decide +kernel
theorem dX5_init_60 : decode cX5_init 60 = .ok (.istore_n 1, 1) := by decide +kernel
theorem dX5_init_61 : decode cX5_init 61 = .ok (.iload_n 1, 1) := by decide +kernel
theorem dX5_init_62 : decode cX5_init 62 = .ok (.bipush 10, 2) := by decide +kernel
theorem dX5_init_64 : decode cX5_init 64 = .ok (.if_icmp .ge 22, 3) := by decide +kernel
theorem dX5_init_67 : decode cX5_init 67 = .ok (.aload_n 0, 1) := by decide +kernel
theorem dX5_init_68 : decode cX5_init 68 = .ok (.getfield 34, 3) := by decide +kernel
theorem dX5_init_71 : decode cX5_init 71 = .ok (.iload_n 1, 1) := by decide +kernel
theorem dX5_init_72 : decode cX5_init 72 = .ok (.new 32, 3) := by decide +kernel
theorem dX5_init_75 : decode cX5_init 75 = .ok (.dup, 1) := by decide +kernel
theorem dX5_init_76 : decode cX5_init 76 = .ok (.invokespecial 45, 3) := by decide +kernel
theorem dX5_init_79 : decode cX5_init 79 = .ok (.aastore, 1) := by decide +kernel
theorem dX5_init_80 : decode cX5_init 80 = .ok (.iinc 1 1, 3) := by decide +kernel
theorem dX5_init_83 : decode cX5_init 83 = .ok (.goto (-22), 3) := by decide +kernel
theorem dX5_init_86 : decode cX5_init 86 = .ok (.return_, 1) := by decide +kernel
theorem dX5_copyFrom_0 : decode cX5_copyFrom 0 = .ok (.aload_n 0, 1) := by decide +kernel
theorem dX5_copyFrom_1 : decode cX5_copyFrom 1 = .ok (.getfield 12, 3) := by decide +kernel
theorem dX5_copyFrom_4 : decode cX5_copyFrom 4 = .ok (.aload_n 1, 1) := by decide +kernel
theorem dX5_copyFrom_5 : decode cX5_copyFrom 5 = .ok (.getfield 12, 3) := by decide +kernel
theorem dX5_copyFrom_8 : decode cX5_copyFrom 8 = .ok (.invokevirtual 46, 3) := by decide +kernel
theorem dX5_copyFrom_11 : decode cX5_copyFrom 11 = .ok (.aload_n 0, 1) := by decide +kernel
theorem dX5_copyFrom_12 : decode cX5_copyFrom 12 = .ok (.getfield 21, 3) := by decide +kernel
theorem dX5_copyFrom_15 : decode cX5_copyFrom 15 = .ok (.aload_n 1, 1) := by decide +kernel
theorem dX5_copyFrom_16 : decode cX5_copyFrom 16 = .ok (.getfield 21, 3) := by decide +kernel
theorem dX5_copyFrom_19 : decode cX5_copyFrom 19 = .ok (.invokevirtual 50, 3) := by decide +kernel
theorem dX5_copyFrom_22 : decode cX5_copyFrom 22 = .ok (.aload_n 0, 1) := by decide +kernel
theorem dX5_copyFrom_23 : decode cX5_copyFrom 23 = .ok (.getfield 28, 3) := by decide +kernel
theorem dX5_copyFrom_26 : decode cX5_copyFrom 26 = .ok (.aload_n 1, 1) := by decide +kernel
theorem dX5_copyFrom_27 : decode cX5_copyFrom 27 = .ok (.getfield 28, 3) := by decide +kernel
theorem dX5_copyFrom_30 : decode cX5_copyFrom 30 = .ok (.invokevirtual 53, 3) := by decide +kernel
theorem dX5_copyFrom_33 : decode cX5_copyFrom 33 = .ok (.aload_n 0, 1) := by decide +kernel
theorem dX5_copyFrom_34 : decode cX5_copyFrom 34 = .ok (.aload_n 1, 1) := by decide +kernel
theorem dX5_copyFrom_35 : decode cX5_copyFrom 35 = .ok (.getfield 56, 3) := by decide +kernel
theorem dX5_copyFrom_38 : decode cX5_copyFrom 38 = .ok (.putfield 56, 3) := by decide +kernel
theorem dX5_copyFrom_41 : decode cX5_copyFrom 41 = .ok (.aload_n 0, 1) := by decide +kernel
theorem dX5_copyFrom_42 : decode cX5_copyFrom 42 = .ok (.aload_n 1, 1) := by decide +kernel
theorem dX5_copyFrom_43 : decode cX5_copyFrom 43 = .ok (.getfield 59, 3) := by decide +kernel
theorem dX5_copyFrom_46 : decode cX5_copyFrom 46 = .ok (.putfield 59, 3) := by decide +kernel
theorem dX5_copyFrom_49 : decode cX5_copyFrom 49 = .ok (.aload_n 0, 1) := by decide +kernel
theorem dX5_copyFrom_50 : decode cX5_copyFrom 50 = .ok (.aload_n 1, 1) := by decide +kernel
theorem dX5_copyFrom_51 : decode cX5_copyFrom 51 = .ok (.getfield 38, 3) := by decide +kernel
theorem dX5_copyFrom_54 : decode cX5_copyFrom 54 = .ok (.putfield 38, 3) := by decide +kernel
theorem dX5_copyFrom_57 : decode cX5_copyFrom 57 = .ok (.aload_n 0, 1) := by decide +kernel
theorem dX5_copyFrom_58 : decode cX5_copyFrom 58 = .ok (.aload_n 1, 1) := by decide +kernel
theorem dX5_copyFrom_59 : decode cX5_copyFrom 59 = .ok (.getfield 42, 3) := by decide +kernel
theorem dX5_copyFrom_62 : decode cX5_copyFrom 62 = .ok (.putfield 42, 3) := by decide +kernel
theorem dX5_copyFrom_65 : decode cX5_copyFrom 65 = .ok (.iconst 0, 1) := by decide +kernel
theorem dX5_copyFrom_66 : decode cX5_copyFrom 66 = .ok (.istore_n 2, 1) := by decide +kernel
theorem dX5_copyFrom_67 : decode cX5_copyFrom 67 = .ok (.iload_n 2, 1) := by decide +kernel
theorem dX5_copyFrom_68 : decode cX5_copyFrom 68 = .ok (.aload_n 0, 1) := by decide +kernel
theorem dX5_copyFrom_69 : decode cX5_copyFrom 69 = .ok (.getfield 56, 3) := by decide +kernel
theorem dX5_copyFrom_72 : decode cX5_copyFrom 72 = .ok (.if_icmp .ge 37, 3) := by decide +kernel
theorem dX5_copyFrom_75 : decode cX5_copyFrom 75 = .ok (.aload_n 0, 1) := by decide +kernel
theorem dX5_copyFrom_76 : decode cX5_copyFrom 76 = .ok (.iload_n 2, 1) := by decide +kernel
theorem dX5_copyFrom_77 : decode cX5_copyFrom 77 = .ok (.invokevirtual 62, 3) := by decide +kernel
theorem dX5_copyFrom_80 : decode cX5_copyFrom 80 = .ok (.astore_n 3, 1) := by decide +kernel
theorem dX5_copyFrom_81 : decode cX5_copyFrom 81 = .ok (.aload_n 1, 1) := by decide +kernel
theorem dX5_copyFrom_82 : decode cX5_copyFrom 82 = .ok (.iload_n 2, 1) := by decide +kernel
theorem dX5_copyFrom_83 : decode cX5_copyFrom 83 = .ok (.invokevirtual 62, 3) := by decide +kernel
theorem dX5_copyFrom_86 : decode cX5_copyFrom 86 = .ok (.astore 4, 2) := by decide +kernel
theorem dX5_copyFrom_88 : decode cX5_copyFrom 88 = .ok (.aload_n 3, 1) := by decide +kernel
theorem dX5_copyFrom_89 : decode cX5_copyFrom 89 = .ok (.ifnull 14, 3) := by decide +kernel
theorem dX5_copyFrom_92 : decode cX5_copyFrom 92 = .ok (.aload 4, 2) := by decide +kernel
theorem dX5_copyFrom_94 : decode cX5_copyFrom 94 = .ok (.ifnull 9, 3) := by decide +kernel
theorem dX5_copyFrom_97 : decode cX5_copyFrom 97 = .ok (.aload_n 3, 1) := by decide +kernel
theorem dX5_copyFrom_98 : decode cX5_copyFrom 98 = .ok (.aload 4, 2) := by decide +kernel
theorem dX5_copyFrom_100 : decode cX5_copyFrom 100 = .ok (.invokevirtual 66, 3) := by decide +kernel
theorem dX5_copyFrom_103 : decode cX5_copyFrom 103 = .ok (.iinc 2 1, 3) := by decide +kernel
theorem dX5_copyFrom_106 : decode cX5_copyFrom 106 = .ok (.goto (-39), 3) := by decide +kernel
theorem dX5_copyFrom_109 : decode cX5_copyFrom 109 = .ok (.return_, 1) := by decide +kernel
theorem dX5_bottleAt_0 : decode cX5_bottleAt 0 = .ok (.iload_n 1, 1) := by decide +kernel
theorem dX5_bottleAt_1 : decode cX5_bottleAt 1 = .ok (.ifCond .lt 26, 3) := by decide +kernel
theorem dX5_bottleAt_4 : decode cX5_bottleAt 4 = .ok (.iload_n 1, 1) := by decide +kernel
theorem dX5_bottleAt_5 : decode cX5_bottleAt 5 = .ok (.aload_n 0, 1) := by decide +kernel
theorem dX5_bottleAt_6 : decode cX5_bottleAt 6 = .ok (.getfield 56, 3) := by decide +kernel
theorem dX5_bottleAt_9 : decode cX5_bottleAt 9 = .ok (.if_icmp .ge 18, 3) := by decide +kernel
theorem dX5_bottleAt_12 : decode cX5_bottleAt 12 = .ok (.iload_n 1, 1) := by decide +kernel
theorem dX5_bottleAt_13 : decode cX5_bottleAt 13 = .ok (.bipush 10, 2) := by decide +kernel
theorem dX5_bottleAt_15 : decode cX5_bottleAt 15 = .ok (.if_icmp .ge 12, 3) := by decide +kernel
theorem dX5_bottleAt_18 : decode cX5_bottleAt 18 = .ok (.aload_n 0, 1) := by decide +kernel
theorem dX5_bottleAt_19 : decode cX5_bottleAt 19 = .ok (.getfield 34, 3) := by decide +kernel
theorem dX5_bottleAt_22 : decode cX5_bottleAt 22 = .ok (.iload_n 1, 1) := by decide +kernel
theorem dX5_bottleAt_23 : decode cX5_bottleAt 23 = .ok (.aaload, 1) := by decide +kernel
theorem dX5_bottleAt_24 : decode cX5_bottleAt 24 = .ok (.goto 4, 3) := by decide +kernel
theorem dX5_bottleAt_27 : decode cX5_bottleAt 27 = .ok (.aconst_null, 1) := by decide +kernel
theorem dX5_bottleAt_28 : decode cX5_bottleAt 28 = .ok (.areturn, 1) := by decide +kernel
theorem dX5_payOut_0 : decode cX5_payOut 0 = .ok (.iload_n 1, 1) := by decide +kernel
theorem dX5_payOut_1 : decode cX5_payOut 1 = .ok (.sipush (-999), 3) := by decide +kernel
theorem dX5_payOut_4 : decode cX5_payOut 4 = .ok (.if_icmp .lt 14, 3) := by decide +kernel
theorem dX5_payOut_7 : decode cX5_payOut 7 = .ok (.iload_n 1, 1) := by decide +kernel
theorem dX5_payOut_8 : decode cX5_payOut 8 = .ok (.sipush 999, 3) := by decide +kernel
theorem dX5_payOut_11 : decode cX5_payOut 11 = .ok (.if_icmp .gt 7, 3) := by decide +kernel
theorem dX5_payOut_14 : decode cX5_payOut 14 = .ok (.iload_n 1, 1) := by decide +kernel
theorem dX5_payOut_15 : decode cX5_payOut 15 = .ok (.ifCond .ne 7, 3) := by decide +kernel
theorem dX5_payOut_18 : decode cX5_payOut 18 = .ok (.sipush (-1002), 3) := by decide +kernel
theorem dX5_payOut_21 : decode cX5_payOut 21 = .ok (.ireturn, 1) := by decide +kernel
theorem dX5_payOut_22 : decode cX5_payOut 22 = .ok (.aload_n 0, 1) := by decide +kernel
theorem dX5_payOut_23 : decode cX5_payOut 23 = .ok (.getfield 12, 3) := by decide +kernel
theorem dX5_payOut_26 : decode cX5_payOut 26 = .ok (.getfield 69, 3) := by decide +kernel
theorem dX5_payOut_29 : decode cX5_payOut 29 = .ok (.iload_n 1, 1) := by decide +kernel
theorem dX5_payOut_30 : decode cX5_payOut 30 = .ok (.iadd, 1) := by decide +kernel
theorem dX5_payOut_31 : decode cX5_payOut 31 = .ok (.istore_n 2, 1) := by decide +kernel
theorem dX5_payOut_32 : decode cX5_payOut 32 = .ok (.iload_n 2, 1) := by decide +kernel
theorem dX5_payOut_33 : decode cX5_payOut 33 = .ok (.ifCond .ge 7, 3) := by decide +kernel
theorem dX5_payOut_36 : decode cX5_payOut 36 = .ok (.sipush (-1004), 3) := by decide +kernel
theorem dX5_payOut_39 : decode cX5_payOut 39 = .ok (.ireturn, 1) := by decide +kernel
theorem dX5_payOut_40 : decode cX5_payOut 40 = .ok (.iload_n 2, 1) := by decide +kernel
theorem dX5_payOut_41 : decode cX5_payOut 41 = .ok (.sipush 999, 3) := by decide +kernel
theorem dX5_payOut_44 : decode cX5_payOut 44 = .ok (.if_icmp .le 7, 3) := by decide +kernel
theorem dX5_payOut_47 : decode cX5_payOut 47 = .ok (.sipush (-1003), 3) := by decide +kernel
theorem dX5_payOut_50 : decode cX5_payOut 50 = .ok (.ireturn, 1) := by decide +kernel
theorem dX5_payOut_51 : decode cX5_payOut 51 = .ok (.aload_n 0, 1) := by decide +kernel
theorem dX5_payOut_52 : decode cX5_payOut 52 = .ok (.getfield 12, 3) := by decide +kernel
theorem dX5_payOut_55 : decode cX5_payOut 55 = .ok (.iload_n 2, 1) := by decide +kernel
theorem dX5_payOut_56 : decode cX5_payOut 56 = .ok (.putfield 69, 3) := by decide +kernel
theorem dX5_payOut_59 : decode cX5_payOut 59 = .ok (.iload_n 1, 1) := by decide +kernel
theorem dX5_payOut_60 : decode cX5_payOut 60 = .ok (.invokestatic 72, 3) := by decide +kernel
theorem dX5_payOut_63 : decode cX5_payOut 63 = .ok (.aload_n 0, 1) := by decide +kernel
theorem dX5_payOut_64 : decode cX5_payOut 64 = .ok (.getfield 42, 3) := by decide +kernel
theorem dX5_payOut_67 : decode cX5_payOut 67 = .ok (.if_icmp .le 7, 3) := by decide +kernel
theorem dX5_payOut_70 : decode cX5_payOut 70 = .ok (.aload_n 0, 1) := by decide +kernel
theorem dX5_payOut_71 : decode cX5_payOut 71 = .ok (.invokevirtual 78, 3) := by decide +kernel
theorem dX5_payOut_74 : decode cX5_payOut 74 = .ok (.aload_n 0, 1) := by decide +kernel
theorem dX5_payOut_75 : decode cX5_payOut 75 = .ok (.getfield 28, 3) := by decide +kernel
theorem dX5_payOut_78 : decode cX5_payOut 78 = .ok (.iload_n 2, 1) := by decide +kernel
theorem dX5_payOut_79 : decode cX5_payOut 79 = .ok (.invokevirtual 81, 3) := by decide +kernel
theorem dX5_payOut_82 : decode cX5_payOut 82 = .ok (.ireturn, 1) := by decide +kernel
theorem dX5_changeSlope_0 : decode cX5_changeSlope 0 = .ok (.iload_n 1, 1) := by decide +kernel
theorem dX5_changeSlope_1 : decode cX5_changeSlope 1 = .ok (.ifCond .lt 9, 3) := by decide +kernel
theorem dX5_changeSlope_4 : decode cX5_changeSlope 4 = .ok (.iload_n 1, 1) := by decide +kernel
theorem dX5_changeSlope_5 : decode cX5_changeSlope 5 = .ok (.bipush 6, 2) := by decide +kernel
theorem dX5_changeSlope_7 : decode cX5_changeSlope 7 = .ok (.if_icmp .le 7, 3) := by decide +kernel
theorem dX5_changeSlope_10 : decode cX5_changeSlope 10 = .ok (.sipush (-1002), 3) := by decide +kernel
theorem dX5_changeSlope_13 : decode cX5_changeSlope 13 = .ok (.ireturn, 1) := by decide +kernel
theorem dX5_changeSlope_14 : decode cX5_changeSlope 14 = .ok (.aload_n 0, 1) := by decide +kernel
theorem dX5_changeSlope_15 : decode cX5_changeSlope 15 = .ok (.getfield 12, 3) := by decide +kernel
theorem dX5_changeSlope_18 : decode cX5_changeSlope 18 = .ok (.getfield 84, 3) := by decide +kernel
theorem dX5_changeSlope_21 : decode cX5_changeSlope 21 = .ok (.istore_n 2, 1) := by decide +kernel
theorem dX5_changeSlope_22 : decode cX5_changeSlope 22 = .ok (.iload_n 2, 1) := by decide +kernel
theorem dX5_changeSlope_23 : decode cX5_changeSlope 23 = .ok (.iload_n 1, 1) := by decide +kernel
theorem dX5_changeSlope_24 : decode cX5_changeSlope 24 = .ok (.if_icmp .ne 7, 3) := by decide +kernel
theorem dX5_changeSlope_27 : decode cX5_changeSlope 27 = .ok (.sipush (-1005), 3) := by decide +kernel
theorem dX5_changeSlope_30 : decode cX5_changeSlope 30 = .ok (.ireturn, 1) := by decide +kernel
theorem dX5_changeSlope_31 : decode cX5_changeSlope 31 = .ok (.aload_n 0, 1) := by decide +kernel
theorem dX5_changeSlope_32 : decode cX5_changeSlope 32 = .ok (.getfield 12, 3) := by decide +kernel
theorem dX5_changeSlope_35 : decode cX5_changeSlope 35 = .ok (.iload_n 1, 1) := by decide +kernel
theorem dX5_changeSlope_36 : decode cX5_changeSlope 36 = .ok (.putfield 84, 3) := by decide +kernel
theorem dX5_changeSlope_39 : decode cX5_changeSlope 39 = .ok (.iload_n 2, 1) := by decide +kernel
theorem dX5_changeSlope_40 : decode cX5_changeSlope 40 = .ok (.ireturn, 1) := by decide +kernel
theorem dX5_changeWeight_0 : decode cX5_changeWeight 0 = .ok (.aload_n 0, 1) := by decide +kernel
theorem dX5_changeWeight_1 : decode cX5_changeWeight 1 = .ok (.getfield 12, 3) := by decide +kernel
theorem dX5_changeWeight_4 : decode cX5_changeWeight 4 = .ok (.getfield 87, 3) := by decide +kernel
theorem dX5_changeWeight_7 : decode cX5_changeWeight 7 = .ok (.ifCond .eq 21, 3) := by decide +kernel
theorem dX5_changeWeight_10 : decode cX5_changeWeight 10 = .ok (.iload_n 1, 1) := by decide +kernel
theorem dX5_changeWeight_11 : decode cX5_changeWeight 11 = .ok (.ifCond .ne 17, 3) := by decide +kernel
theorem dX5_changeWeight_14 : decode cX5_changeWeight 14 = .ok (.aload_n 0, 1) := by decide +kernel
theorem dX5_changeWeight_15 : decode cX5_changeWeight 15 = .ok (.getfield 12, 3) := by decide +kernel
theorem dX5_changeWeight_18 : decode cX5_changeWeight 18 = .ok (.getfield 69, 3) := by decide +kernel
theorem dX5_changeWeight_21 : decode cX5_changeWeight 21 = .ok (.ifCond .le 7, 3) := by decide +kernel
theorem dX5_changeWeight_24 : decode cX5_changeWeight 24 = .ok (.sipush (-1004), 3) := by decide +kernel
theorem dX5_changeWeight_27 : decode cX5_changeWeight 27 = .ok (.ireturn, 1) := by decide +kernel
theorem dX5_changeWeight_28 : decode cX5_changeWeight 28 = .ok (.aload_n 0, 1) := by decide +kernel
theorem dX5_changeWeight_29 : decode cX5_changeWeight 29 = .ok (.getfield 12, 3) := by decide +kernel
theorem dX5_changeWeight_32 : decode cX5_changeWeight 32 = .ok (.getfield 87, 3) := by decide +kernel
theorem dX5_changeWeight_35 : decode cX5_changeWeight 35 = .ok (.iload_n 1, 1) := by decide +kernel
theorem dX5_changeWeight_36 : decode cX5_changeWeight 36 = .ok (.if_icmp .ne 7, 3) := by decide +kernel
theorem dX5_changeWeight_39 : decode cX5_changeWeight 39 = .ok (.sipush (-1005), 3) := by decide +kernel
theorem dX5_changeWeight_42 : decode cX5_changeWeight 42 = .ok (.ireturn, 1) := by decide +kernel
theorem dX5_changeWeight_43 : decode cX5_changeWeight 43 = .ok (.aload_n 0, 1) := by decide +kernel
theorem dX5_changeWeight_44 : decode cX5_changeWeight 44 = .ok (.getfield 12, 3) := by decide +kernel
theorem dX5_changeWeight_47 : decode cX5_changeWeight 47 = .ok (.iload_n 1, 1) := by decide +kernel
theorem dX5_changeWeight_48 : decode cX5_changeWeight 48 = .ok (.putfield 87, 3) := by decide +kernel
theorem dX5_changeWeight_51 : decode cX5_changeWeight 51 = .ok (.aload_n 0, 1) := by decide +kernel
theorem dX5_changeWeight_52 : decode cX5_changeWeight 52 = .ok (.getfield 12, 3) := by decide +kernel
theorem dX5_changeWeight_55 : decode cX5_changeWeight 55 = .ok (.invokevirtual 91, 3) := by decide +kernel
theorem dX5_changeWeight_58 : decode cX5_changeWeight 58 = .ok (.ireturn, 1) := by decide +kernel
theorem dX5_addBottle_0 : decode cX5_addBottle 0 = .ok (.aload_n 0, 1) := by decide +kernel
theorem dX5_addBottle_1 : decode cX5_addBottle 1 = .ok (.getfield 56, 3) := by decide +kernel
theorem dX5_addBottle_4 : decode cX5_addBottle 4 = .ok (.bipush 10, 2) := by decide +kernel
theorem dX5_addBottle_6 : decode cX5_addBottle 6 = .ok (.if_icmp .lt 7, 3) := by decide +kernel
theorem dX5_addBottle_9 : decode cX5_addBottle 9 = .ok (.sipush (-1003), 3) := by decide +kernel
theorem dX5_addBottle_12 : decode cX5_addBottle 12 = .ok (.ireturn, 1) := by decide +kernel
theorem dX5_addBottle_13 : decode cX5_addBottle 13 = .ok (.iconst 0, 1) := by decide +kernel
theorem dX5_addBottle_14 : decode cX5_addBottle 14 = .ok (.istore_n 2, 1) := by decide +kernel
theorem dX5_addBottle_15 : decode cX5_addBottle 15 = .ok (.iconst 0, 1) := by decide +kernel
theorem dX5_addBottle_16 : decode cX5_addBottle 16 = .ok (.istore_n 3, 1) := by decide +kernel
theorem dX5_addBottle_17 : decode cX5_addBottle 17 = .ok (.iload_n 3, 1) := by decide +kernel
theorem dX5_addBottle_18 : decode cX5_addBottle 18 = .ok (.aload_n 0, 1) := by decide +kernel
theorem dX5_addBottle_19 : decode cX5_addBottle 19 = .ok (.getfield 56, 3) := by decide +kernel
theorem dX5_addBottle_22 : decode cX5_addBottle 22 = .ok (.if_icmp .ge 69, 3) := by decide +kernel
theorem dX5_addBottle_25 : decode cX5_addBottle 25 = .ok (.aload_n 0, 1) := by decide +kernel
theorem dX5_addBottle_26 : decode cX5_addBottle 26 = .ok (.iload_n 3, 1) := by decide +kernel
theorem dX5_addBottle_27 : decode cX5_addBottle 27 = .ok (.invokevirtual 62, 3) := by decide +kernel
theorem dX5_addBottle_30 : decode cX5_addBottle 30 = .ok (.astore 4, 2) := by decide +kernel
theorem dX5_addBottle_32 : decode cX5_addBottle 32 = .ok (.aload 4, 2) := by decide +kernel
theorem dX5_addBottle_34 : decode cX5_addBottle 34 = .ok (.ifnull 27, 3) := by decide +kernel
theorem dX5_addBottle_37 : decode cX5_addBottle 37 = .ok (.aload 4, 2) := by decide +kernel
theorem dX5_addBottle_39 : decode cX5_addBottle 39 = .ok (.getfield 95, 3) := by decide +kernel
theorem dX5_addBottle_42 : decode cX5_addBottle 42 = .ok (.aload_n 0, 1) := by decide +kernel
theorem dX5_addBottle_43 : decode cX5_addBottle 43 = .ok (.getfield 12, 3) := by decide +kernel
theorem dX5_addBottle_46 : decode cX5_addBottle 46 = .ok (.getfield 69, 3) := by decide +kernel
theorem dX5_addBottle_49 : decode cX5_addBottle 49 = .ok (.isub, 1) := by decide +kernel
theorem dX5_addBottle_50 : decode cX5_addBottle 50 = .ok (.invokestatic 72, 3) := by decide +kernel
theorem dX5_addBottle_53 : decode cX5_addBottle 53 = .ok (.iconst 5, 1) := by decide +kernel
theorem dX5_addBottle_54 : decode cX5_addBottle 54 = .ok (.if_icmp .ge 7, 3) := by decide +kernel
theorem dX5_addBottle_57 : decode cX5_addBottle 57 = .ok (.sipush (-1004), 3) := by decide +kernel
theorem dX5_addBottle_60 : decode cX5_addBottle 60 = .ok (.ireturn, 1) := by decide +kernel
theorem dX5_addBottle_61 : decode cX5_addBottle 61 = .ok (.aload 4, 2) := by decide +kernel
theorem dX5_addBottle_63 : decode cX5_addBottle 63 = .ok (.ifnull 22, 3) := by decide +kernel
theorem dX5_addBottle_66 : decode cX5_addBottle 66 = .ok (.aload 4, 2) := by decide +kernel
theorem dX5_addBottle_68 : decode cX5_addBottle 68 = .ok (.getfield 95, 3) := by decide +kernel
theorem dX5_addBottle_71 : decode cX5_addBottle 71 = .ok (.aload_n 0, 1) := by decide +kernel
theorem dX5_addBottle_72 : decode cX5_addBottle 72 = .ok (.getfield 12, 3) := by decide +kernel
theorem dX5_addBottle_75 : decode cX5_addBottle 75 = .ok (.getfield 69, 3) := by decide +kernel
theorem dX5_addBottle_78 : decode cX5_addBottle 78 = .ok (.if_icmp .ge 7, 3) := by decide +kernel
theorem dX5_addBottle_81 : decode cX5_addBottle 81 = .ok (.iload_n 3, 1) := by decide +kernel
theorem dX5_addBottle_82 : decode cX5_addBottle 82 = .ok (.iconst 1, 1) := by decide +kernel
theorem dX5_addBottle_83 : decode cX5_addBottle 83 = .ok (.iadd, 1) := by decide +kernel
theorem dX5_addBottle_84 : decode cX5_addBottle 84 = .ok (.istore_n 2, 1) := by decide +kernel
theorem dX5_addBottle_85 : decode cX5_addBottle 85 = .ok (.iinc 3 1, 3) := by decide +kernel
theorem dX5_addBottle_88 : decode cX5_addBottle 88 = .ok (.goto (-71), 3) := by decide +kernel
theorem dX5_addBottle_91 : decode cX5_addBottle 91 = .ok (.aload_n 0, 1) := by decide +kernel
theorem dX5_addBottle_92 : decode cX5_addBottle 92 = .ok (.iload_n 2, 1) := by decide +kernel
theorem dX5_addBottle_93 : decode cX5_addBottle 93 = .ok (.iload_n 1, 1) := by decide +kernel
theorem dX5_addBottle_94 : decode cX5_addBottle 94 = .ok (.invokevirtual 98, 3) := by decide +kernel
theorem dX5_addBottle_97 : decode cX5_addBottle 97 = .ok (.iload_n 2, 1) := by decide +kernel
theorem dX5_addBottle_98 : decode cX5_addBottle 98 = .ok (.ireturn, 1) := by decide +kernel
theorem dX5_removeBottle_0 : decode cX5_removeBottle 0 = .ok (.aload_n 0, 1) := by decide +kernel
theorem dX5_removeBottle_1 : decode cX5_removeBottle 1 = .ok (.iload_n 1, 1) := by decide +kernel
theorem dX5_removeBottle_2 : decode cX5_removeBottle 2 = .ok (.invokevirtual 62, 3) := by decide +kernel
theorem dX5_removeBottle_5 : decode cX5_removeBottle 5 = .ok (.astore_n 2, 1) := by decide +kernel
theorem dX5_removeBottle_6 : decode cX5_removeBottle 6 = .ok (.aload_n 2, 1) := by decide +kernel
theorem dX5_removeBottle_7 : decode cX5_removeBottle 7 = .ok (.ifnonnull 7, 3) := by decide +kernel
theorem dX5_removeBottle_10 : decode cX5_removeBottle 10 = .ok (.sipush (-1001), 3) := by decide +kernel
theorem dX5_removeBottle_13 : decode cX5_removeBottle 13 = .ok (.ireturn, 1) := by decide +kernel
theorem dX5_removeBottle_14 : decode cX5_removeBottle 14 = .ok (.aload_n 0, 1) := by decide +kernel
theorem dX5_removeBottle_15 : decode cX5_removeBottle 15 = .ok (.getfield 12, 3) := by decide +kernel
theorem dX5_removeBottle_18 : decode cX5_removeBottle 18 = .ok (.aload_n 2, 1) := by decide +kernel
theorem dX5_removeBottle_19 : decode cX5_removeBottle 19 = .ok (.getfield 95, 3) := by decide +kernel
theorem dX5_removeBottle_22 : decode cX5_removeBottle 22 = .ok (.invokevirtual 102, 3) := by decide +kernel
theorem dX5_removeBottle_25 : decode cX5_removeBottle 25 = .ok (.ifCond .eq 7, 3) := by decide +kernel
theorem dX5_removeBottle_28 : decode cX5_removeBottle 28 = .ok (.sipush (-1004), 3) := by decide +kernel
theorem dX5_removeBottle_31 : decode cX5_removeBottle 31 = .ok (.ireturn, 1) := by decide +kernel
theorem dX5_removeBottle_32 : decode cX5_removeBottle 32 = .ok (.iload_n 1, 1) := by decide +kernel
theorem dX5_removeBottle_33 : decode cX5_removeBottle 33 = .ok (.istore_n 3, 1) := by decide +kernel
theorem dX5_removeBottle_34 : decode cX5_removeBottle 34 = .ok (.iload_n 3, 1) := by decide +kernel
theorem dX5_removeBottle_35 : decode cX5_removeBottle 35 = .ok (.ifCond .lt 39, 3) := by decide +kernel
theorem dX5_removeBottle_38 : decode cX5_removeBottle 38 = .ok (.iload_n 3, 1) := by decide +kernel
theorem dX5_removeBottle_39 : decode cX5_removeBottle 39 = .ok (.aload_n 0, 1) := by decide +kernel
theorem dX5_removeBottle_40 : decode cX5_removeBottle 40 = .ok (.getfield 56, 3) := by decide +kernel
theorem dX5_removeBottle_43 : decode cX5_removeBottle 43 = .ok (.iconst 1, 1) := by decide +kernel
theorem dX5_removeBottle_44 : decode cX5_removeBottle 44 = .ok (.isub, 1) := by decide +kernel
theorem dX5_removeBottle_45 : decode cX5_removeBottle 45 = .ok (.if_icmp .ge 29, 3) := by decide +kernel
theorem dX5_removeBottle_48 : decode cX5_removeBottle 48 = .ok (.iload_n 3, 1) := by decide +kernel
theorem dX5_removeBottle_49 : decode cX5_removeBottle 49 = .ok (.bipush 9, 2) := by decide +kernel
theorem dX5_removeBottle_51 : decode cX5_removeBottle 51 = .ok (.if_icmp .ge 23, 3) := by decide +kernel
theorem dX5_removeBottle_54 : decode cX5_removeBottle 54 = .ok (.aload_n 0, 1) := by decide +kernel
theorem dX5_removeBottle_55 : decode cX5_removeBottle 55 = .ok (.getfield 34, 3) := by decide +kernel
theorem dX5_removeBottle_58 : decode cX5_removeBottle 58 = .ok (.iload_n 3, 1) := by decide +kernel
theorem dX5_removeBottle_59 : decode cX5_removeBottle 59 = .ok (.aload_n 0, 1) := by decide +kernel
theorem dX5_removeBottle_60 : decode cX5_removeBottle 60 = .ok (.getfield 34, 3) := by decide +kernel
theorem dX5_removeBottle_63 : decode cX5_removeBottle 63 = .ok (.iload_n 3, 1) := by decide +kernel
theorem dX5_removeBottle_64 : decode cX5_removeBottle 64 = .ok (.iconst 1, 1) := by decide +kernel
theorem dX5_removeBottle_65 : decode cX5_removeBottle 65 = .ok (.iadd, 1) := by decide +kernel
theorem dX5_removeBottle_66 : decode cX5_removeBottle 66 = .ok (.aaload, 1) := by decide +kernel
theorem dX5_removeBottle_67 : decode cX5_removeBottle 67 = .ok (.aastore, 1) := by decide +kernel
theorem dX5_removeBottle_68 : decode cX5_removeBottle 68 = .ok (.iinc 3 1, 3) := by decide +kernel
theorem dX5_removeBottle_71 : decode cX5_removeBottle 71 = .ok (.goto (-37), 3) := by decide +kernel
theorem dX5_removeBottle_74 : decode cX5_removeBottle 74 = .ok (.aload_n 0, 1) := by decide +kernel
theorem dX5_removeBottle_75 : decode cX5_removeBottle 75 = .ok (.dup, 1) := by decide +kernel
theorem dX5_removeBottle_76 : decode cX5_removeBottle 76 = .ok (.getfield 56, 3) := by decide +kernel
theorem dX5_removeBottle_79 : decode cX5_removeBottle 79 = .ok (.iconst 1, 1) := by decide +kernel
theorem dX5_removeBottle_80 : decode cX5_removeBottle 80 = .ok (.isub, 1) := by decide +kernel
theorem dX5_removeBottle_81 : decode cX5_removeBottle 81 = .ok (.putfield 56, 3) := by decide +kernel
theorem dX5_removeBottle_84 : decode cX5_removeBottle 84 = .ok (.aload_n 0, 1) := by decide +kernel
theorem dX5_removeBottle_85 : decode cX5_removeBottle 85 = .ok (.getfield 56, 3) := by decide +kernel
theorem dX5_removeBottle_88 : decode cX5_removeBottle 88 = .ok (.ifCond .lt 22, 3) := by decide +kernel
theorem dX5_removeBottle_91 : decode cX5_removeBottle 91 = .ok (.aload_n 0, 1) := by decide +kernel
theorem dX5_removeBottle_92 : decode cX5_removeBottle 92 = .ok (.getfield 56, 3) := by decide +kernel
theorem dX5_removeBottle_95 : decode cX5_removeBottle 95 = .ok (.bipush 10, 2) := by decide +kernel
theorem dX5_removeBottle_97 : decode cX5_removeBottle 97 = .ok (.if_icmp .ge 13, 3) := by decide +kernel
theorem dX5_removeBottle_100 : decode cX5_removeBottle 100 = .ok (.aload_n 0, 1) := by decide +kernel
theorem dX5_removeBottle_101 : decode cX5_removeBottle 101 = .ok (.getfield 34, 3) := by decide +kernel
theorem dX5_removeBottle_104 : decode cX5_removeBottle 104 = .ok (.aload_n 0, 1) := by decide +kernel
theorem dX5_removeBottle_105 : decode cX5_removeBottle 105 = .ok (.getfield 56, 3) := by decide +kernel
theorem dX5_removeBottle_108 : decode cX5_removeBottle 108 = .ok (.aload_n 2, 1) := by decide +kernel
theorem dX5_removeBottle_109 : decode cX5_removeBottle 109 = .ok (.aastore, 1) := by decide +kernel
theorem dX5_removeBottle_110 : decode cX5_removeBottle 110 = .ok (.aload_n 0, 1) := by decide +kernel
theorem dX5_removeBottle_111 : decode cX5_removeBottle 111 = .ok (.getfield 56, 3) := by decide +kernel
theorem dX5_removeBottle_114 : decode cX5_removeBottle 114 = .ok (.ireturn, 1) := by decide +kernel
theorem dX5_letGo_0 : decode cX5_letGo 0 = .ok (.aload_n 0, 1) := by decide +kernel
theorem dX5_letGo_1 : decode cX5_letGo 1 = .ok (.getfield 12, 3) := by decide +kernel
theorem dX5_letGo_4 : decode cX5_letGo 4 = .ok (.getfield 69, 3) := by decide +kernel
theorem dX5_letGo_7 : decode cX5_letGo 7 = .ok (.ifCond .ne 7, 3) := by decide +kernel
theorem dX5_letGo_10 : decode cX5_letGo 10 = .ok (.sipush (-1004), 3) := by decide +kernel
theorem dX5_letGo_13 : decode cX5_letGo 13 = .ok (.ireturn, 1) := by decide +kernel
theorem dX5_letGo_14 : decode cX5_letGo 14 = .ok (.aload_n 0, 1) := by decide +kernel
theorem dX5_letGo_15 : decode cX5_letGo 15 = .ok (.getfield 28, 3) := by decide +kernel
theorem dX5_letGo_18 : decode cX5_letGo 18 = .ok (.getfield 106, 3) := by decide +kernel
theorem dX5_letGo_21 : decode cX5_letGo 21 = .ok (.bipush 12, 2) := by decide +kernel
theorem dX5_letGo_23 : decode cX5_letGo 23 = .ok (.if_icmp .lt 7, 3) := by decide +kernel
theorem dX5_letGo_26 : decode cX5_letGo 26 = .ok (.sipush (-1003), 3) := by decide +kernel
theorem dX5_letGo_29 : decode cX5_letGo 29 = .ok (.ireturn, 1) := by decide +kernel
theorem dX5_letGo_30 : decode cX5_letGo 30 = .ok (.aload_n 0, 1) := by decide +kernel
theorem dX5_letGo_31 : decode cX5_letGo 31 = .ok (.getfield 28, 3) := by decide +kernel
theorem dX5_letGo_34 : decode cX5_letGo 34 = .ok (.aload_n 0, 1) := by decide +kernel
theorem dX5_letGo_35 : decode cX5_letGo 35 = .ok (.getfield 28, 3) := by decide +kernel
theorem dX5_letGo_38 : decode cX5_letGo 38 = .ok (.getfield 106, 3) := by decide +kernel
theorem dX5_letGo_41 : decode cX5_letGo 41 = .ok (.aload_n 0, 1) := by decide +kernel
theorem dX5_letGo_42 : decode cX5_letGo 42 = .ok (.getfield 12, 3) := by decide +kernel
theorem dX5_letGo_45 : decode cX5_letGo 45 = .ok (.getfield 69, 3) := by decide +kernel
theorem dX5_letGo_48 : decode cX5_letGo 48 = .ok (.invokevirtual 109, 3) := by decide +kernel
theorem dX5_letGo_51 : decode cX5_letGo 51 = .ok (.aload_n 0, 1) := by decide +kernel
theorem dX5_letGo_52 : decode cX5_letGo 52 = .ok (.getfield 28, 3) := by decide +kernel
theorem dX5_letGo_55 : decode cX5_letGo 55 = .ok (.dup, 1) := by decide +kernel
theorem dX5_letGo_56 : decode cX5_letGo 56 = .ok (.getfield 106, 3) := by decide +kernel
theorem dX5_letGo_59 : decode cX5_letGo 59 = .ok (.iconst 1, 1) := by decide +kernel
theorem dX5_letGo_60 : decode cX5_letGo 60 = .ok (.iadd, 1) := by decide +kernel
theorem dX5_letGo_61 : decode cX5_letGo 61 = .ok (.putfield 106, 3) := by decide +kernel
theorem dX5_letGo_64 : decode cX5_letGo 64 = .ok (.aload_n 0, 1) := by decide +kernel
theorem dX5_letGo_65 : decode cX5_letGo 65 = .ok (.getfield 28, 3) := by decide +kernel
theorem dX5_letGo_68 : decode cX5_letGo 68 = .ok (.dup, 1) := by decide +kernel
theorem dX5_letGo_69 : decode cX5_letGo 69 = .ok (.getfield 113, 3) := by decide +kernel
theorem dX5_letGo_72 : decode cX5_letGo 72 = .ok (.iconst 1, 1) := by decide +kernel
theorem dX5_letGo_73 : decode cX5_letGo 73 = .ok (.iadd, 1) := by decide +kernel
theorem dX5_letGo_74 : decode cX5_letGo 74 = .ok (.putfield 113, 3) := by decide +kernel
theorem dX5_letGo_77 : decode cX5_letGo 77 = .ok (.aload_n 0, 1) := by decide +kernel
theorem dX5_letGo_78 : decode cX5_letGo 78 = .ok (.getfield 28, 3) := by decide +kernel
theorem dX5_letGo_81 : decode cX5_letGo 81 = .ok (.getfield 106, 3) := by decide +kernel
theorem dX5_letGo_84 : decode cX5_letGo 84 = .ok (.ireturn, 1) := by decide +kernel
theorem dX5_letPass_0 : decode cX5_letPass 0 = .ok (.iload_n 1, 1) := by decide +kernel
theorem dX5_letPass_1 : decode cX5_letPass 1 = .ok (.iconst 1, 1) := by decide +kernel
theorem dX5_letPass_2 : decode cX5_letPass 2 = .ok (.if_icmp .lt 10, 3) := by decide +kernel
theorem dX5_letPass_5 : decode cX5_letPass 5 = .ok (.iload_n 1, 1) := by decide +kernel
theorem dX5_letPass_6 : decode cX5_letPass 6 = .ok (.sipush 999, 3) := by decide +kernel
theorem dX5_letPass_9 : decode cX5_letPass 9 = .ok (.if_icmp .le 7, 3) := by decide +kernel
theorem dX5_letPass_12 : decode cX5_letPass 12 = .ok (.sipush (-1002), 3) := by decide +kernel
theorem dX5_letPass_15 : decode cX5_letPass 15 = .ok (.ireturn, 1) := by decide +kernel
theorem dX5_letPass_16 : decode cX5_letPass 16 = .ok (.aload_n 0, 1) := by decide +kernel
theorem dX5_letPass_17 : decode cX5_letPass 17 = .ok (.getfield 59, 3) := by decide +kernel
theorem dX5_letPass_20 : decode cX5_letPass 20 = .ok (.iload_n 1, 1) := by decide +kernel
theorem dX5_letPass_21 : decode cX5_letPass 21 = .ok (.iadd, 1) := by decide +kernel
theorem dX5_letPass_22 : decode cX5_letPass 22 = .ok (.ldc 116, 2) := by decide +kernel
theorem dX5_letPass_24 : decode cX5_letPass 24 = .ok (.if_icmp .le 7, 3) := by decide +kernel
theorem dX5_letPass_27 : decode cX5_letPass 27 = .ok (.sipush (-1003), 3) := by decide +kernel
theorem dX5_letPass_30 : decode cX5_letPass 30 = .ok (.ireturn, 1) := by decide +kernel
theorem dX5_letPass_31 : decode cX5_letPass 31 = .ok (.aload_n 0, 1) := by decide +kernel
theorem dX5_letPass_32 : decode cX5_letPass 32 = .ok (.invokevirtual 117, 3) := by decide +kernel
theorem dX5_letPass_35 : decode cX5_letPass 35 = .ok (.istore_n 2, 1) := by decide +kernel
theorem dX5_letPass_36 : decode cX5_letPass 36 = .ok (.aload_n 0, 1) := by decide +kernel
theorem dX5_letPass_37 : decode cX5_letPass 37 = .ok (.getfield 59, 3) := by decide +kernel
theorem dX5_letPass_40 : decode cX5_letPass 40 = .ok (.iload_n 1, 1) := by decide +kernel
theorem dX5_letPass_41 : decode cX5_letPass 41 = .ok (.iadd, 1) := by decide +kernel
theorem dX5_letPass_42 : decode cX5_letPass 42 = .ok (.istore_n 3, 1) := by decide +kernel
theorem dX5_letPass_43 : decode cX5_letPass 43 = .ok (.iconst 0, 1) := by decide +kernel
theorem dX5_letPass_44 : decode cX5_letPass 44 = .ok (.istore 4, 2) := by decide +kernel
theorem dX5_letPass_46 : decode cX5_letPass 46 = .ok (.iload 4, 2) := by decide +kernel
theorem dX5_letPass_48 : decode cX5_letPass 48 = .ok (.iload_n 1, 1) := by decide +kernel
theorem dX5_letPass_49 : decode cX5_letPass 49 = .ok (.if_icmp .ge 33, 3) := by decide +kernel
theorem dX5_letPass_52 : decode cX5_letPass 52 = .ok (.aload_n 0, 1) := by decide +kernel
theorem dX5_letPass_53 : decode cX5_letPass 53 = .ok (.getfield 59, 3) := by decide +kernel
theorem dX5_letPass_56 : decode cX5_letPass 56 = .ok (.iload_n 3, 1) := by decide +kernel
theorem dX5_letPass_57 : decode cX5_letPass 57 = .ok (.if_icmp .ge 25, 3) := by decide +kernel
theorem dX5_letPass_60 : decode cX5_letPass 60 = .ok (.aload_n 0, 1) := by decide +kernel
theorem dX5_letPass_61 : decode cX5_letPass 61 = .ok (.iload_n 3, 1) := by decide +kernel
theorem dX5_letPass_62 : decode cX5_letPass 62 = .ok (.aload_n 0, 1) := by decide +kernel
theorem dX5_letPass_63 : decode cX5_letPass 63 = .ok (.getfield 59, 3) := by decide +kernel
theorem dX5_letPass_66 : decode cX5_letPass 66 = .ok (.isub, 1) := by decide +kernel
theorem dX5_letPass_67 : decode cX5_letPass 67 = .ok (.iconst 1, 1) := by decide +kernel
theorem dX5_letPass_68 : decode cX5_letPass 68 = .ok (.isub, 1) := by decide +kernel
theorem dX5_letPass_69 : decode cX5_letPass 69 = .ok (.invokevirtual 120, 3) := by decide +kernel
theorem dX5_letPass_72 : decode cX5_letPass 72 = .ok (.aload_n 0, 1) := by decide +kernel
theorem dX5_letPass_73 : decode cX5_letPass 73 = .ok (.invokevirtual 124, 3) := by decide +kernel
theorem dX5_letPass_76 : decode cX5_letPass 76 = .ok (.iinc 4 1, 3) := by decide +kernel
theorem dX5_letPass_79 : decode cX5_letPass 79 = .ok (.goto (-33), 3) := by decide +kernel
theorem dX5_letPass_82 : decode cX5_letPass 82 = .ok (.aload_n 0, 1) := by decide +kernel
theorem dX5_letPass_83 : decode cX5_letPass 83 = .ok (.invokevirtual 117, 3) := by decide +kernel
theorem dX5_letPass_86 : decode cX5_letPass 86 = .ok (.iload_n 2, 1) := by decide +kernel
theorem dX5_letPass_87 : decode cX5_letPass 87 = .ok (.isub, 1) := by decide +kernel
theorem dX5_letPass_88 : decode cX5_letPass 88 = .ok (.ireturn, 1) := by decide +kernel
theorem dX5_changeSetting_0 : decode cX5_changeSetting 0 = .ok (.iload_n 1, 1) := by decide +kernel
theorem dX5_changeSetting_1 : decode cX5_changeSetting 1 = .ok (.ifCond .eq 12, 3) := by decide +kernel
theorem dX5_changeSetting_4 : decode cX5_changeSetting 4 = .ok (.iload_n 1, 1) := by decide +kernel
theorem dX5_changeSetting_5 : decode cX5_changeSetting 5 = .ok (.iconst 1, 1) := by decide +kernel
theorem dX5_changeSetting_6 : decode cX5_changeSetting 6 = .ok (.if_icmp .eq 7, 3) := by decide +kernel
theorem dX5_changeSetting_9 : decode cX5_changeSetting 9 = .ok (.sipush (-1001), 3) := by decide +kernel
theorem dX5_changeSetting_12 : decode cX5_changeSetting 12 = .ok (.ireturn, 1) := by decide +kernel
theorem dX5_changeSetting_13 : decode cX5_changeSetting 13 = .ok (.iload_n 1, 1) := by decide +kernel
theorem dX5_changeSetting_14 : decode cX5_changeSetting 14 = .ok (.iconst 1, 1) := by decide +kernel
theorem dX5_changeSetting_15 : decode cX5_changeSetting 15 = .ok (.if_icmp .ne 7, 3) := by decide +kernel
theorem dX5_changeSetting_18 : decode cX5_changeSetting 18 = .ok (.iconst 1, 1) := by decide +kernel
theorem dX5_changeSetting_19 : decode cX5_changeSetting 19 = .ok (.goto 4, 3) := by decide +kernel
theorem dX5_changeSetting_22 : decode cX5_changeSetting 22 = .ok (.iconst 0, 1) := by decide +kernel
theorem dX5_changeSetting_23 : decode cX5_changeSetting 23 = .ok (.istore_n 3, 1) := by decide +kernel
theorem dX5_changeSetting_24 : decode cX5_changeSetting 24 = .ok (.iload_n 2, 1) := by decide +kernel
theorem dX5_changeSetting_25 : decode cX5_changeSetting 25 = .ok (.iload_n 3, 1) := by decide +kernel
theorem dX5_changeSetting_26 : decode cX5_changeSetting 26 = .ok (.if_icmp .lt 10, 3) := by decide +kernel
theorem dX5_changeSetting_29 : decode cX5_changeSetting 29 = .ok (.iload_n 2, 1) := by decide +kernel
theorem dX5_changeSetting_30 : decode cX5_changeSetting 30 = .ok (.sipush 999, 3) := by decide +kernel
theorem dX5_changeSetting_33 : decode cX5_changeSetting 33 = .ok (.if_icmp .le 7, 3) := by decide +kernel
theorem dX5_changeSetting_36 : decode cX5_changeSetting 36 = .ok (.sipush (-1002), 3) := by decide +kernel
theorem dX5_changeSetting_39 : decode cX5_changeSetting 39 = .ok (.ireturn, 1) := by decide +kernel
theorem dX5_changeSetting_40 : decode cX5_changeSetting 40 = .ok (.iload_n 1, 1) := by decide +kernel
theorem dX5_changeSetting_41 : decode cX5_changeSetting 41 = .ok (.iconst 1, 1) := by decide +kernel
theorem dX5_changeSetting_42 : decode cX5_changeSetting 42 = .ok (.if_icmp .ne 10, 3) := by decide +kernel
theorem dX5_changeSetting_45 : decode cX5_changeSetting 45 = .ok (.aload_n 0, 1) := by decide +kernel
theorem dX5_changeSetting_46 : decode cX5_changeSetting 46 = .ok (.getfield 42, 3) := by decide +kernel
theorem dX5_changeSetting_49 : decode cX5_changeSetting 49 = .ok (.goto 7, 3) := by decide +kernel
theorem dX5_changeSetting_52 : decode cX5_changeSetting 52 = .ok (.aload_n 0, 1) := by decide +kernel
theorem dX5_changeSetting_53 : decode cX5_changeSetting 53 = .ok (.getfield 38, 3) := by decide +kernel
theorem dX5_changeSetting_56 : decode cX5_changeSetting 56 = .ok (.istore 4, 2) := by decide +kernel
theorem dX5_changeSetting_58 : decode cX5_changeSetting 58 = .ok (.iload 4, 2) := by decide +kernel
theorem dX5_changeSetting_60 : decode cX5_changeSetting 60 = .ok (.iload_n 2, 1) := by decide +kernel
theorem dX5_changeSetting_61 : decode cX5_changeSetting 61 = .ok (.if_icmp .ne 7, 3) := by decide +kernel
theorem dX5_changeSetting_64 : decode cX5_changeSetting 64 = .ok (.sipush (-1005), 3) := by decide +kernel
theorem dX5_changeSetting_67 : decode cX5_changeSetting 67 = .ok (.ireturn, 1) := by decide +kernel
theorem dX5_changeSetting_68 : decode cX5_changeSetting 68 = .ok (.iload_n 1, 1) := by decide +kernel
theorem dX5_changeSetting_69 : decode cX5_changeSetting 69 = .ok (.iconst 1, 1) := by decide +kernel
theorem dX5_changeSetting_70 : decode cX5_changeSetting 70 = .ok (.if_icmp .ne 11, 3) := by decide +kernel
theorem dX5_changeSetting_73 : decode cX5_changeSetting 73 = .ok (.aload_n 0, 1) := by decide +kernel
theorem dX5_changeSetting_74 : decode cX5_changeSetting 74 = .ok (.iload_n 2, 1) := by decide +kernel
theorem dX5_changeSetting_75 : decode cX5_changeSetting 75 = .ok (.putfield 42, 3) := by decide +kernel
theorem dX5_changeSetting_78 : decode cX5_changeSetting 78 = .ok (.goto 8, 3) := by decide +kernel
theorem dX5_changeSetting_81 : decode cX5_changeSetting 81 = .ok (.aload_n 0, 1) := by decide +kernel
theorem dX5_changeSetting_82 : decode cX5_changeSetting 82 = .ok (.iload_n 2, 1) := by decide +kernel
theorem dX5_changeSetting_83 : decode cX5_changeSetting 83 = .ok (.putfield 38, 3) := by decide +kernel
theorem dX5_changeSetting_86 : decode cX5_changeSetting 86 = .ok (.iload 4, 2) := by decide +kernel
theorem dX5_changeSetting_88 : decode cX5_changeSetting 88 = .ok (.ireturn, 1) := by decide +kernel
theorem dX5_insertBottle_0 : decode cX5_insertBottle 0 = .ok (.iload_n 1, 1) := by decide +kernel
theorem dX5_insertBottle_1 : decode cX5_insertBottle 1 = .ok (.ifCond .lt 27, 3) := by decide +kernel
theorem dX5_insertBottle_4 : decode cX5_insertBottle 4 = .ok (.iload_n 1, 1) := by decide +kernel
theorem dX5_insertBottle_5 : decode cX5_insertBottle 5 = .ok (.aload_n 0, 1) := by decide +kernel
theorem dX5_insertBottle_6 : decode cX5_insertBottle 6 = .ok (.getfield 56, 3) := by decide +kernel
theorem dX5_insertBottle_9 : decode cX5_insertBottle 9 = .ok (.if_icmp .gt 19, 3) := by decide +kernel
theorem dX5_insertBottle_12 : decode cX5_insertBottle 12 = .ok (.aload_n 0, 1) := by decide +kernel
theorem dX5_insertBottle_13 : decode cX5_insertBottle 13 = .ok (.getfield 56, 3) := by decide +kernel
theorem dX5_insertBottle_16 : decode cX5_insertBottle 16 = .ok (.ifCond .lt 12, 3) := by decide +kernel
theorem dX5_insertBottle_19 : decode cX5_insertBottle 19 = .ok (.aload_n 0, 1) := by decide +kernel
theorem dX5_insertBottle_20 : decode cX5_insertBottle 20 = .ok (.getfield 56, 3) := by decide +kernel
theorem dX5_insertBottle_23 : decode cX5_insertBottle 23 = .ok (.bipush 10, 2) := by decide +kernel
theorem dX5_insertBottle_25 : decode cX5_insertBottle 25 = .ok (.if_icmp .lt 4, 3) := by decide +kernel
theorem dX5_insertBottle_28 : decode cX5_insertBottle 28 = .ok (.return_, 1) := by decide +kernel
theorem dX5_insertBottle_29 : decode cX5_insertBottle 29 = .ok (.aload_n 0, 1) := by decide +kernel
theorem dX5_insertBottle_30 : decode cX5_insertBottle 30 = .ok (.getfield 34, 3) := by decide +kernel
theorem dX5_insertBottle_33 : decode cX5_insertBottle 33 = .ok (.aload_n 0, 1) := by decide +kernel
theorem dX5_insertBottle_34 : decode cX5_insertBottle 34 = .ok (.getfield 56, 3) := by decide +kernel
theorem dX5_insertBottle_37 : decode cX5_insertBottle 37 = .ok (.aaload, 1) := by decide +kernel
theorem dX5_insertBottle_38 : decode cX5_insertBottle 38 = .ok (.astore_n 3, 1) := by decide +kernel
theorem dX5_insertBottle_39 : decode cX5_insertBottle 39 = .ok (.aload_n 0, 1) := by decide +kernel
theorem dX5_insertBottle_40 : decode cX5_insertBottle 40 = .ok (.getfield 56, 3) := by decide +kernel
theorem dX5_insertBottle_43 : decode cX5_insertBottle 43 = .ok (.istore 4, 2) := by decide +kernel
theorem dX5_insertBottle_45 : decode cX5_insertBottle 45 = .ok (.iload 4, 2) := by decide +kernel
theorem dX5_insertBottle_47 : decode cX5_insertBottle 47 = .ok (.iload_n 1, 1) := by decide +kernel
theorem dX5_insertBottle_48 : decode cX5_insertBottle 48 = .ok (.if_icmp .le 25, 3) := by decide +kernel
theorem dX5_insertBottle_51 : decode cX5_insertBottle 51 = .ok (.aload_n 0, 1) := by decide +kernel
theorem dX5_insertBottle_52 : decode cX5_insertBottle 52 = .ok (.getfield 34, 3) := by decide +kernel
theorem dX5_insertBottle_55 : decode cX5_insertBottle 55 = .ok (.iload 4, 2) := by decide +kernel
theorem dX5_insertBottle_57 : decode cX5_insertBottle 57 = .ok (.aload_n 0, 1) := by decide +kernel
theorem dX5_insertBottle_58 : decode cX5_insertBottle 58 = .ok (.getfield 34, 3) := by decide +kernel
theorem dX5_insertBottle_61 : decode cX5_insertBottle 61 = .ok (.iload 4, 2) := by decide +kernel
theorem dX5_insertBottle_63 : decode cX5_insertBottle 63 = .ok (.iconst 1, 1) := by decide +kernel
theorem dX5_insertBottle_64 : decode cX5_insertBottle 64 = .ok (.isub, 1) := by decide +kernel
theorem dX5_insertBottle_65 : decode cX5_insertBottle 65 = .ok (.aaload, 1) := by decide +kernel
theorem dX5_insertBottle_66 : decode cX5_insertBottle 66 = .ok (.aastore, 1) := by decide +kernel
theorem dX5_insertBottle_67 : decode cX5_insertBottle 67 = .ok (.iinc 4 (-1), 3) := by decide +kernel
theorem dX5_insertBottle_70 : decode cX5_insertBottle 70 = .ok (.goto (-25), 3) := by decide +kernel
theorem dX5_insertBottle_73 : decode cX5_insertBottle 73 = .ok (.aload_n 0, 1) := by decide +kernel
theorem dX5_insertBottle_74 : decode cX5_insertBottle 74 = .ok (.getfield 34, 3) := by decide +kernel
theorem dX5_insertBottle_77 : decode cX5_insertBottle 77 = .ok (.iload_n 1, 1) := by decide +kernel
theorem dX5_insertBottle_78 : decode cX5_insertBottle 78 = .ok (.aload_n 3, 1) := by decide +kernel
theorem dX5_insertBottle_79 : decode cX5_insertBottle 79 = .ok (.aastore, 1) := by decide +kernel
theorem dX5_insertBottle_80 : decode cX5_insertBottle 80 = .ok (.aload_n 0, 1) := by decide +kernel
theorem dX5_insertBottle_81 : decode cX5_insertBottle 81 = .ok (.dup, 1) := by decide +kernel
theorem dX5_insertBottle_82 : decode cX5_insertBottle 82 = .ok (.getfield 56, 3) := by decide +kernel
theorem dX5_insertBottle_85 : decode cX5_insertBottle 85 = .ok (.iconst 1, 1) := by decide +kernel
theorem dX5_insertBottle_86 : decode cX5_insertBottle 86 = .ok (.iadd, 1) := by decide +kernel
theorem dX5_insertBottle_87 : decode cX5_insertBottle 87 = .ok (.putfield 56, 3) := by decide +kernel
theorem dX5_insertBottle_90 : decode cX5_insertBottle 90 = .ok (.aload_n 3, 1) := by decide +kernel
theorem dX5_insertBottle_91 : decode cX5_insertBottle 91 = .ok (.ifnull 15, 3) := by decide +kernel
theorem dX5_insertBottle_94 : decode cX5_insertBottle 94 = .ok (.aload_n 3, 1) := by decide +kernel
theorem dX5_insertBottle_95 : decode cX5_insertBottle 95 = .ok (.aload_n 0, 1) := by decide +kernel
theorem dX5_insertBottle_96 : decode cX5_insertBottle 96 = .ok (.getfield 12, 3) := by decide +kernel
theorem dX5_insertBottle_99 : decode cX5_insertBottle 99 = .ok (.getfield 69, 3) := by decide +kernel
theorem dX5_insertBottle_102 : decode cX5_insertBottle 102 = .ok (.iload_n 2, 1) := by decide +kernel
theorem dX5_insertBottle_103 : decode cX5_insertBottle 103 = .ok (.invokevirtual 127, 3) := by decide +kernel
theorem dX5_insertBottle_106 : decode cX5_insertBottle 106 = .ok (.return_, 1) := by decide +kernel
theorem dX5_jerk_0 : decode cX5_jerk 0 = .ok (.iconst 0, 1) := by decide +kernel
theorem dX5_jerk_1 : decode cX5_jerk 1 = .ok (.istore_n 1, 1) := by decide +kernel
theorem dX5_jerk_2 : decode cX5_jerk 2 = .ok (.iload_n 1, 1) := by decide +kernel
theorem dX5_jerk_3 : decode cX5_jerk 3 = .ok (.aload_n 0, 1) := by decide +kernel
theorem dX5_jerk_4 : decode cX5_jerk 4 = .ok (.getfield 56, 3) := by decide +kernel
theorem dX5_jerk_7 : decode cX5_jerk 7 = .ok (.if_icmp .ge 51, 3) := by decide +kernel
theorem dX5_jerk_10 : decode cX5_jerk 10 = .ok (.aload_n 0, 1) := by decide +kernel
theorem dX5_jerk_11 : decode cX5_jerk 11 = .ok (.iload_n 1, 1) := by decide +kernel
theorem dX5_jerk_12 : decode cX5_jerk 12 = .ok (.invokevirtual 62, 3) := by decide +kernel
theorem dX5_jerk_15 : decode cX5_jerk 15 = .ok (.astore_n 2, 1) := by decide +kernel
theorem dX5_jerk_16 : decode cX5_jerk 16 = .ok (.aload_n 2, 1) := by decide +kernel
theorem dX5_jerk_17 : decode cX5_jerk 17 = .ok (.ifnull 35, 3) := by decide +kernel
theorem dX5_jerk_20 : decode cX5_jerk 20 = .ok (.aload_n 2, 1) := by decide +kernel
theorem dX5_jerk_21 : decode cX5_jerk 21 = .ok (.getfield 130, 3) := by decide +kernel
theorem dX5_jerk_24 : decode cX5_jerk 24 = .ok (.ifCond .ne 28, 3) := by decide +kernel
theorem dX5_jerk_27 : decode cX5_jerk 27 = .ok (.aload_n 0, 1) := by decide +kernel
theorem dX5_jerk_28 : decode cX5_jerk 28 = .ok (.getfield 12, 3) := by decide +kernel
theorem dX5_jerk_31 : decode cX5_jerk 31 = .ok (.aload_n 2, 1) := by decide +kernel
theorem dX5_jerk_32 : decode cX5_jerk 32 = .ok (.getfield 95, 3) := by decide +kernel
theorem dX5_jerk_35 : decode cX5_jerk 35 = .ok (.invokevirtual 102, 3) := by decide +kernel
theorem dX5_jerk_38 : decode cX5_jerk 38 = .ok (.ifCond .eq 14, 3) := by decide +kernel
theorem dX5_jerk_41 : decode cX5_jerk 41 = .ok (.aload_n 0, 1) := by decide +kernel
theorem dX5_jerk_42 : decode cX5_jerk 42 = .ok (.aload_n 2, 1) := by decide +kernel
theorem dX5_jerk_43 : decode cX5_jerk 43 = .ok (.invokevirtual 133, 3) := by decide +kernel
theorem dX5_jerk_46 : decode cX5_jerk 46 = .ok (.aload_n 2, 1) := by decide +kernel
theorem dX5_jerk_47 : decode cX5_jerk 47 = .ok (.iconst 1, 1) := by decide +kernel
theorem dX5_jerk_48 : decode cX5_jerk 48 = .ok (.putfield 136, 3) := by decide +kernel
theorem dX5_jerk_51 : decode cX5_jerk 51 = .ok (.return_, 1) := by decide +kernel
theorem dX5_jerk_52 : decode cX5_jerk 52 = .ok (.iinc 1 1, 3) := by decide +kernel
theorem dX5_jerk_55 : decode cX5_jerk 55 = .ok (.goto (-53), 3) := by decide +kernel
theorem dX5_jerk_58 : decode cX5_jerk 58 = .ok (.return_, 1) := by decide +kernel
theorem dX5_shut_0 : decode cX5_shut 0 = .ok (.aload_n 0, 1) := by decide +kernel
theorem dX5_shut_1 : decode cX5_shut 1 = .ok (.getfield 12, 3) := by decide +kernel
theorem dX5_shut_4 : decode cX5_shut 4 = .ok (.getfield 69, 3) := by decide +kernel
theorem dX5_shut_7 : decode cX5_shut 7 = .ok (.aload_n 1, 1) := by decide +kernel
theorem dX5_shut_8 : decode cX5_shut 8 = .ok (.getfield 95, 3) := by decide +kernel
theorem dX5_shut_11 : decode cX5_shut 11 = .ok (.isub, 1) := by decide +kernel
theorem dX5_shut_12 : decode cX5_shut 12 = .ok (.istore_n 2, 1) := by decide +kernel
theorem dX5_shut_13 : decode cX5_shut 13 = .ok (.iload_n 2, 1) := by decide +kernel
theorem dX5_shut_14 : decode cX5_shut 14 = .ok (.aload_n 0, 1) := by decide +kernel
theorem dX5_shut_15 : decode cX5_shut 15 = .ok (.getfield 12, 3) := by decide +kernel
theorem dX5_shut_18 : decode cX5_shut 18 = .ok (.invokevirtual 91, 3) := by decide +kernel
theorem dX5_shut_21 : decode cX5_shut 21 = .ok (.invokestatic 139, 3) := by decide +kernel
theorem dX5_shut_24 : decode cX5_shut 24 = .ok (.istore_n 3, 1) := by decide +kernel
theorem dX5_shut_25 : decode cX5_shut 25 = .ok (.aload_n 1, 1) := by decide +kernel
theorem dX5_shut_26 : decode cX5_shut 26 = .ok (.iconst 1, 1) := by decide +kernel
theorem dX5_shut_27 : decode cX5_shut 27 = .ok (.putfield 130, 3) := by decide +kernel
theorem dX5_shut_30 : decode cX5_shut 30 = .ok (.aload_n 1, 1) := by decide +kernel
theorem dX5_shut_31 : decode cX5_shut 31 = .ok (.aload_n 0, 1) := by decide +kernel
theorem dX5_shut_32 : decode cX5_shut 32 = .ok (.getfield 59, 3) := by decide +kernel
theorem dX5_shut_35 : decode cX5_shut 35 = .ok (.putfield 143, 3) := by decide +kernel
theorem dX5_shut_38 : decode cX5_shut 38 = .ok (.aload_n 1, 1) := by decide +kernel
theorem dX5_shut_39 : decode cX5_shut 39 = .ok (.iload_n 2, 1) := by decide +kernel
theorem dX5_shut_40 : decode cX5_shut 40 = .ok (.putfield 146, 3) := by decide +kernel
theorem dX5_shut_43 : decode cX5_shut 43 = .ok (.aload_n 1, 1) := by decide +kernel
theorem dX5_shut_44 : decode cX5_shut 44 = .ok (.iload_n 3, 1) := by decide +kernel
theorem dX5_shut_45 : decode cX5_shut 45 = .ok (.invokestatic 149, 3) := by decide +kernel
theorem dX5_shut_48 : decode cX5_shut 48 = .ok (.putfield 152, 3) := by decide +kernel
theorem dX5_shut_51 : decode cX5_shut 51 = .ok (.aload_n 1, 1) := by decide +kernel
theorem dX5_shut_52 : decode cX5_shut 52 = .ok (.aload_n 0, 1) := by decide +kernel
theorem dX5_shut_53 : decode cX5_shut 53 = .ok (.getfield 21, 3) := by decide +kernel
theorem dX5_shut_56 : decode cX5_shut 56 = .ok (.aload_n 1, 1) := by decide +kernel
theorem dX5_shut_57 : decode cX5_shut 57 = .ok (.getfield 152, 3) := by decide +kernel
theorem dX5_shut_60 : decode cX5_shut 60 = .ok (.invokevirtual 155, 3) := by decide +kernel
theorem dX5_shut_63 : decode cX5_shut 63 = .ok (.putfield 158, 3) := by decide +kernel
theorem dX5_shut_66 : decode cX5_shut 66 = .ok (.aload_n 1, 1) := by decide +kernel
theorem dX5_shut_67 : decode cX5_shut 67 = .ok (.aload_n 1, 1) := by decide +kernel
theorem dX5_shut_68 : decode cX5_shut 68 = .ok (.getfield 158, 3) := by decide +kernel
theorem dX5_shut_71 : decode cX5_shut 71 = .ok (.iload_n 3, 1) := by decide +kernel
theorem dX5_shut_72 : decode cX5_shut 72 = .ok (.bipush 10, 2) := by decide +kernel
theorem dX5_shut_74 : decode cX5_shut 74 = .ok (.idiv, 1) := by decide +kernel
theorem dX5_shut_75 : decode cX5_shut 75 = .ok (.iadd, 1) := by decide +kernel
theorem dX5_shut_76 : decode cX5_shut 76 = .ok (.putfield 161, 3) := by decide +kernel
theorem dX5_shut_79 : decode cX5_shut 79 = .ok (.aload_n 1, 1) := by decide +kernel
theorem dX5_shut_80 : decode cX5_shut 80 = .ok (.aload_n 0, 1) := by decide +kernel
theorem dX5_shut_81 : decode cX5_shut 81 = .ok (.getfield 21, 3) := by decide +kernel
theorem dX5_shut_84 : decode cX5_shut 84 = .ok (.aload_n 1, 1) := by decide +kernel
theorem dX5_shut_85 : decode cX5_shut 85 = .ok (.getfield 152, 3) := by decide +kernel
theorem dX5_shut_88 : decode cX5_shut 88 = .ok (.invokevirtual 164, 3) := by decide +kernel
theorem dX5_shut_91 : decode cX5_shut 91 = .ok (.putfield 167, 3) := by decide +kernel
theorem dX5_shut_94 : decode cX5_shut 94 = .ok (.return_, 1) := by decide +kernel
theorem dX5_skipQuietSeconds_0 : decode cX5_skipQuietSeconds 0 = .ok (.iload_n 1, 1) := by decide +kernel
theorem dX5_skipQuietSeconds_1 : decode cX5_skipQuietSeconds 1 = .ok (.istore_n 2, 1) := by decide +kernel
theorem dX5_skipQuietSeconds_2 : decode cX5_skipQuietSeconds 2 = .ok (.aload_n 0, 1) := by decide +kernel
theorem dX5_skipQuietSeconds_3 : decode cX5_skipQuietSeconds 3 = .ok (.getfield 12, 3) := by decide +kernel
theorem dX5_skipQuietSeconds_6 : decode cX5_skipQuietSeconds 6 = .ok (.invokevirtual 170, 3) := by decide +kernel
theorem dX5_skipQuietSeconds_9 : decode cX5_skipQuietSeconds 9 = .ok (.ifCond .ne 57, 3) := by decide +kernel
theorem dX5_skipQuietSeconds_12 : decode cX5_skipQuietSeconds 12 = .ok (.iconst 0, 1) := by decide +kernel
theorem dX5_skipQuietSeconds_13 : decode cX5_skipQuietSeconds 13 = .ok (.istore_n 3, 1) := by decide +kernel
theorem dX5_skipQuietSeconds_14 : decode cX5_skipQuietSeconds 14 = .ok (.iload_n 3, 1) := by decide +kernel
theorem dX5_skipQuietSeconds_15 : decode cX5_skipQuietSeconds 15 = .ok (.aload_n 0, 1) := by decide +kernel
theorem dX5_skipQuietSeconds_16 : decode cX5_skipQuietSeconds 16 = .ok (.getfield 28, 3) := by decide +kernel
theorem dX5_skipQuietSeconds_19 : decode cX5_skipQuietSeconds 19 = .ok (.getfield 106, 3) := by decide +kernel
theorem dX5_skipQuietSeconds_22 : decode cX5_skipQuietSeconds 22 = .ok (.if_icmp .ge 28, 3) := by decide +kernel
theorem dX5_skipQuietSeconds_25 : decode cX5_skipQuietSeconds 25 = .ok (.iload_n 2, 1) := by decide +kernel
theorem dX5_skipQuietSeconds_26 : decode cX5_skipQuietSeconds 26 = .ok (.aload_n 0, 1) := by decide +kernel
theorem dX5_skipQuietSeconds_27 : decode cX5_skipQuietSeconds 27 = .ok (.aload_n 0, 1) := by decide +kernel
theorem dX5_skipQuietSeconds_28 : decode cX5_skipQuietSeconds 28 = .ok (.getfield 28, 3) := by decide +kernel
theorem dX5_skipQuietSeconds_31 : decode cX5_skipQuietSeconds 31 = .ok (.iload_n 3, 1) := by decide +kernel
theorem dX5_skipQuietSeconds_32 : decode cX5_skipQuietSeconds 32 = .ok (.invokevirtual 174, 3) := by decide +kernel
theorem dX5_skipQuietSeconds_35 : decode cX5_skipQuietSeconds 35 = .ok (.invokevirtual 177, 3) := by decide +kernel
theorem dX5_skipQuietSeconds_38 : decode cX5_skipQuietSeconds 38 = .ok (.iconst 1, 1) := by decide +kernel
theorem dX5_skipQuietSeconds_39 : decode cX5_skipQuietSeconds 39 = .ok (.isub, 1) := by decide +kernel
theorem dX5_skipQuietSeconds_40 : decode cX5_skipQuietSeconds 40 = .ok (.invokestatic 180, 3) := by decide +kernel
theorem dX5_skipQuietSeconds_43 : decode cX5_skipQuietSeconds 43 = .ok (.istore_n 2, 1) := by decide +kernel
theorem dX5_skipQuietSeconds_44 : decode cX5_skipQuietSeconds 44 = .ok (.iinc 3 1, 3) := by decide +kernel
theorem dX5_skipQuietSeconds_47 : decode cX5_skipQuietSeconds 47 = .ok (.goto (-33), 3) := by decide +kernel
theorem dX5_skipQuietSeconds_50 : decode cX5_skipQuietSeconds 50 = .ok (.aload_n 0, 1) := by decide +kernel
theorem dX5_skipQuietSeconds_51 : decode cX5_skipQuietSeconds 51 = .ok (.getfield 28, 3) := by decide +kernel
theorem dX5_skipQuietSeconds_54 : decode cX5_skipQuietSeconds 54 = .ok (.iload_n 2, 1) := by decide +kernel
theorem dX5_skipQuietSeconds_55 : decode cX5_skipQuietSeconds 55 = .ok (.aload_n 0, 1) := by decide +kernel
theorem dX5_skipQuietSeconds_56 : decode cX5_skipQuietSeconds 56 = .ok (.getfield 12, 3) := by decide +kernel
theorem dX5_skipQuietSeconds_59 : decode cX5_skipQuietSeconds 59 = .ok (.invokevirtual 183, 3) := by decide +kernel
theorem dX5_skipQuietSeconds_62 : decode cX5_skipQuietSeconds 62 = .ok (.imul, 1) := by decide +kernel
theorem dX5_skipQuietSeconds_63 : decode cX5_skipQuietSeconds 63 = .ok (.invokevirtual 186, 3) := by decide +kernel
theorem dX5_skipQuietSeconds_66 : decode cX5_skipQuietSeconds 66 = .ok (.aload_n 0, 1) := by decide +kernel
theorem dX5_skipQuietSeconds_67 : decode cX5_skipQuietSeconds 67 = .ok (.dup, 1) := by decide +kernel
theorem dX5_skipQuietSeconds_68 : decode cX5_skipQuietSeconds 68 = .ok (.getfield 59, 3) := by decide +kernel
theorem dX5_skipQuietSeconds_71 : decode cX5_skipQuietSeconds 71 = .ok (.iload_n 2, 1) := by decide +kernel
theorem dX5_skipQuietSeconds_72 : decode cX5_skipQuietSeconds 72 = .ok (.iadd, 1) := by decide +kernel
theorem dX5_skipQuietSeconds_73 : decode cX5_skipQuietSeconds 73 = .ok (.putfield 59, 3) := by decide +kernel
theorem dX5_skipQuietSeconds_76 : decode cX5_skipQuietSeconds 76 = .ok (.return_, 1) := by decide +kernel
theorem dX5_secondsOnWay_0 : decode cX5_secondsOnWay 0 = .ok (.aload_n 0, 1) := by decide +kernel
theorem dX5_secondsOnWay_1 : decode cX5_secondsOnWay 1 = .ok (.getfield 12, 3) := by decide +kernel
theorem dX5_secondsOnWay_4 : decode cX5_secondsOnWay 4 = .ok (.invokevirtual 183, 3) := by decide +kernel
theorem dX5_secondsOnWay_7 : decode cX5_secondsOnWay 7 = .ok (.istore_n 2, 1) := by decide +kernel
theorem dX5_secondsOnWay_8 : decode cX5_secondsOnWay 8 = .ok (.iconst 0, 1) := by decide +kernel
theorem dX5_secondsOnWay_9 : decode cX5_secondsOnWay 9 = .ok (.istore_n 3, 1) := by decide +kernel
theorem dX5_secondsOnWay_10 : decode cX5_secondsOnWay 10 = .ok (.iconst 0, 1) := by decide +kernel
theorem dX5_secondsOnWay_11 : decode cX5_secondsOnWay 11 = .ok (.istore 4, 2) := by decide +kernel
theorem dX5_secondsOnWay_13 : decode cX5_secondsOnWay 13 = .ok (.iload 4, 2) := by decide +kernel
theorem dX5_secondsOnWay_15 : decode cX5_secondsOnWay 15 = .ok (.aload_n 0, 1) := by decide +kernel
theorem dX5_secondsOnWay_16 : decode cX5_secondsOnWay 16 = .ok (.getfield 56, 3) := by decide +kernel
theorem dX5_secondsOnWay_19 : decode cX5_secondsOnWay 19 = .ok (.if_icmp .ge 37, 3) := by decide +kernel
theorem dX5_secondsOnWay_22 : decode cX5_secondsOnWay 22 = .ok (.aload_n 0, 1) := by decide +kernel
theorem dX5_secondsOnWay_23 : decode cX5_secondsOnWay 23 = .ok (.iload 4, 2) := by decide +kernel
theorem dX5_secondsOnWay_25 : decode cX5_secondsOnWay 25 = .ok (.invokevirtual 62, 3) := by decide +kernel
theorem dX5_secondsOnWay_28 : decode cX5_secondsOnWay 28 = .ok (.astore 5, 2) := by decide +kernel
theorem dX5_secondsOnWay_30 : decode cX5_secondsOnWay 30 = .ok (.aload 5, 2) := by decide +kernel
theorem dX5_secondsOnWay_32 : decode cX5_secondsOnWay 32 = .ok (.ifnull 18, 3) := by decide +kernel
theorem dX5_secondsOnWay_35 : decode cX5_secondsOnWay 35 = .ok (.aload 5, 2) := by decide +kernel
theorem dX5_secondsOnWay_37 : decode cX5_secondsOnWay 37 = .ok (.getfield 95, 3) := by decide +kernel
theorem dX5_secondsOnWay_40 : decode cX5_secondsOnWay 40 = .ok (.iload_n 1, 1) := by decide +kernel
theorem dX5_secondsOnWay_41 : decode cX5_secondsOnWay 41 = .ok (.if_icmp .ge 9, 3) := by decide +kernel
theorem dX5_secondsOnWay_44 : decode cX5_secondsOnWay 44 = .ok (.aload 5, 2) := by decide +kernel
theorem dX5_secondsOnWay_46 : decode cX5_secondsOnWay 46 = .ok (.getfield 95, 3) := by decide +kernel
theorem dX5_secondsOnWay_49 : decode cX5_secondsOnWay 49 = .ok (.istore_n 3, 1) := by decide +kernel
theorem dX5_secondsOnWay_50 : decode cX5_secondsOnWay 50 = .ok (.iinc 4 1, 3) := by decide +kernel
theorem dX5_secondsOnWay_53 : decode cX5_secondsOnWay 53 = .ok (.goto (-40), 3) := by decide +kernel
theorem dX5_secondsOnWay_56 : decode cX5_secondsOnWay 56 = .ok (.iload_n 2, 1) := by decide +kernel
theorem dX5_secondsOnWay_57 : decode cX5_secondsOnWay 57 = .ok (.iconst 1, 1) := by decide +kernel
theorem dX5_secondsOnWay_58 : decode cX5_secondsOnWay 58 = .ok (.if_icmp .ge 7, 3) := by decide +kernel
theorem dX5_secondsOnWay_61 : decode cX5_secondsOnWay 61 = .ok (.iconst 1, 1) := by decide +kernel
theorem dX5_secondsOnWay_62 : decode cX5_secondsOnWay 62 = .ok (.goto 16, 3) := by decide +kernel
theorem dX5_secondsOnWay_65 : decode cX5_secondsOnWay 65 = .ok (.iconst 1, 1) := by decide +kernel
theorem dX5_secondsOnWay_66 : decode cX5_secondsOnWay 66 = .ok (.iload_n 1, 1) := by decide +kernel
theorem dX5_secondsOnWay_67 : decode cX5_secondsOnWay 67 = .ok (.iload_n 3, 1) := by decide +kernel
theorem dX5_secondsOnWay_68 : decode cX5_secondsOnWay 68 = .ok (.isub, 1) := by decide +kernel
theorem dX5_secondsOnWay_69 : decode cX5_secondsOnWay 69 = .ok (.iload_n 2, 1) := by decide +kernel
theorem dX5_secondsOnWay_70 : decode cX5_secondsOnWay 70 = .ok (.iadd, 1) := by decide +kernel
theorem dX5_secondsOnWay_71 : decode cX5_secondsOnWay 71 = .ok (.iconst 1, 1) := by decide +kernel
theorem dX5_secondsOnWay_72 : decode cX5_secondsOnWay 72 = .ok (.isub, 1) := by decide +kernel
theorem dX5_secondsOnWay_73 : decode cX5_secondsOnWay 73 = .ok (.iload_n 2, 1) := by decide +kernel
theorem dX5_secondsOnWay_74 : decode cX5_secondsOnWay 74 = .ok (.idiv, 1) := by decide +kernel
theorem dX5_secondsOnWay_75 : decode cX5_secondsOnWay 75 = .ok (.invokestatic 189, 3) := by decide +kernel
theorem dX5_secondsOnWay_78 : decode cX5_secondsOnWay 78 = .ok (.ireturn, 1) := by decide +kernel
theorem dX5_passOneSecond_0 : decode cX5_passOneSecond 0 = .ok (.aload_n 0, 1) := by decide +kernel
theorem dX5_passOneSecond_1 : decode cX5_passOneSecond 1 = .ok (.dup, 1) := by decide +kernel
theorem dX5_passOneSecond_2 : decode cX5_passOneSecond 2 = .ok (.getfield 59, 3) := by decide +kernel
theorem dX5_passOneSecond_5 : decode cX5_passOneSecond 5 = .ok (.iconst 1, 1) := by decide +kernel
theorem dX5_passOneSecond_6 : decode cX5_passOneSecond 6 = .ok (.iadd, 1) := by decide +kernel
theorem dX5_passOneSecond_7 : decode cX5_passOneSecond 7 = .ok (.putfield 59, 3) := by decide +kernel
theorem dX5_passOneSecond_10 : decode cX5_passOneSecond 10 = .ok (.aload_n 0, 1) := by decide +kernel
theorem dX5_passOneSecond_11 : decode cX5_passOneSecond 11 = .ok (.getfield 12, 3) := by decide +kernel
theorem dX5_passOneSecond_14 : decode cX5_passOneSecond 14 = .ok (.invokevirtual 170, 3) := by decide +kernel
theorem dX5_passOneSecond_17 : decode cX5_passOneSecond 17 = .ok (.ifCond .eq 4, 3) := by decide +kernel
theorem dX5_passOneSecond_20 : decode cX5_passOneSecond 20 = .ok (.return_, 1) := by decide +kernel
theorem dX5_passOneSecond_21 : decode cX5_passOneSecond 21 = .ok (.iconst 0, 1) := by decide +kernel
theorem dX5_passOneSecond_22 : decode cX5_passOneSecond 22 = .ok (.istore_n 1, 1) := by decide +kernel
theorem dX5_passOneSecond_23 : decode cX5_passOneSecond 23 = .ok (.iconst 0, 1) := by decide +kernel
theorem dX5_passOneSecond_24 : decode cX5_passOneSecond 24 = .ok (.istore_n 2, 1) := by decide +kernel
theorem dX5_passOneSecond_25 : decode cX5_passOneSecond 25 = .ok (.iload_n 2, 1) := by decide +kernel
theorem dX5_passOneSecond_26 : decode cX5_passOneSecond 26 = .ok (.aload_n 0, 1) := by decide +kernel
theorem dX5_passOneSecond_27 : decode cX5_passOneSecond 27 = .ok (.getfield 28, 3) := by decide +kernel
theorem dX5_passOneSecond_30 : decode cX5_passOneSecond 30 = .ok (.getfield 106, 3) := by decide +kernel
theorem dX5_passOneSecond_33 : decode cX5_passOneSecond 33 = .ok (.if_icmp .ge 118, 3) := by decide +kernel
theorem dX5_passOneSecond_36 : decode cX5_passOneSecond 36 = .ok (.aload_n 0, 1) := by decide +kernel
theorem dX5_passOneSecond_37 : decode cX5_passOneSecond 37 = .ok (.getfield 28, 3) := by decide +kernel
theorem dX5_passOneSecond_40 : decode cX5_passOneSecond 40 = .ok (.iload_n 2, 1) := by decide +kernel
theorem dX5_passOneSecond_41 : decode cX5_passOneSecond 41 = .ok (.invokevirtual 174, 3) := by decide +kernel
theorem dX5_passOneSecond_44 : decode cX5_passOneSecond 44 = .ok (.istore_n 3, 1) := by decide +kernel
theorem dX5_passOneSecond_45 : decode cX5_passOneSecond 45 = .ok (.iload_n 3, 1) := by decide +kernel
theorem dX5_passOneSecond_46 : decode cX5_passOneSecond 46 = .ok (.aload_n 0, 1) := by decide +kernel
theorem dX5_passOneSecond_47 : decode cX5_passOneSecond 47 = .ok (.getfield 12, 3) := by decide +kernel
theorem dX5_passOneSecond_50 : decode cX5_passOneSecond 50 = .ok (.invokevirtual 183, 3) := by decide +kernel
theorem dX5_passOneSecond_53 : decode cX5_passOneSecond 53 = .ok (.isub, 1) := by decide +kernel
theorem dX5_passOneSecond_54 : decode cX5_passOneSecond 54 = .ok (.istore 4, 2) := by decide +kernel
theorem dX5_passOneSecond_56 : decode cX5_passOneSecond 56 = .ok (.aload_n 0, 1) := by decide +kernel
theorem dX5_passOneSecond_57 : decode cX5_passOneSecond 57 = .ok (.iload_n 3, 1) := by decide +kernel
theorem dX5_passOneSecond_58 : decode cX5_passOneSecond 58 = .ok (.iload 4, 2) := by decide +kernel
theorem dX5_passOneSecond_60 : decode cX5_passOneSecond 60 = .ok (.invokevirtual 192, 3) := by decide +kernel
theorem dX5_passOneSecond_63 : decode cX5_passOneSecond 63 = .ok (.astore 5, 2) := by decide +kernel
theorem dX5_passOneSecond_65 : decode cX5_passOneSecond 65 = .ok (.aload 5, 2) := by decide +kernel
theorem dX5_passOneSecond_67 : decode cX5_passOneSecond 67 = .ok (.ifnull 44, 3) := by decide +kernel
theorem dX5_passOneSecond_70 : decode cX5_passOneSecond 70 = .ok (.aload_n 0, 1) := by decide +kernel
theorem dX5_passOneSecond_71 : decode cX5_passOneSecond 71 = .ok (.getfield 28, 3) := by decide +kernel
theorem dX5_passOneSecond_74 : decode cX5_passOneSecond 74 = .ok (.dup, 1) := by decide +kernel
theorem dX5_passOneSecond_75 : decode cX5_passOneSecond 75 = .ok (.getfield 196, 3) := by decide +kernel
theorem dX5_passOneSecond_78 : decode cX5_passOneSecond 78 = .ok (.iconst 1, 1) := by decide +kernel
theorem dX5_passOneSecond_79 : decode cX5_passOneSecond 79 = .ok (.iadd, 1) := by decide +kernel
theorem dX5_passOneSecond_80 : decode cX5_passOneSecond 80 = .ok (.putfield 196, 3) := by decide +kernel
theorem dX5_passOneSecond_83 : decode cX5_passOneSecond 83 = .ok (.aload_n 0, 1) := by decide +kernel
theorem dX5_passOneSecond_84 : decode cX5_passOneSecond 84 = .ok (.aload 5, 2) := by decide +kernel
theorem dX5_passOneSecond_86 : decode cX5_passOneSecond 86 = .ok (.invokevirtual 199, 3) := by decide +kernel
theorem dX5_passOneSecond_89 : decode cX5_passOneSecond 89 = .ok (.ifCond .eq 56, 3) := by decide +kernel
theorem dX5_passOneSecond_92 : decode cX5_passOneSecond 92 = .ok (.aload_n 0, 1) := by decide +kernel
theorem dX5_passOneSecond_93 : decode cX5_passOneSecond 93 = .ok (.getfield 28, 3) := by decide +kernel
theorem dX5_passOneSecond_96 : decode cX5_passOneSecond 96 = .ok (.iload_n 1, 1) := by decide +kernel
theorem dX5_passOneSecond_97 : decode cX5_passOneSecond 97 = .ok (.aload 5, 2) := by decide +kernel
theorem dX5_passOneSecond_99 : decode cX5_passOneSecond 99 = .ok (.getfield 95, 3) := by decide +kernel
theorem dX5_passOneSecond_102 : decode cX5_passOneSecond 102 = .ok (.invokevirtual 109, 3) := by decide +kernel
theorem dX5_passOneSecond_105 : decode cX5_passOneSecond 105 = .ok (.iinc 1 1, 3) := by decide +kernel
theorem dX5_passOneSecond_108 : decode cX5_passOneSecond 108 = .ok (.goto 37, 3) := by decide +kernel
theorem dX5_passOneSecond_111 : decode cX5_passOneSecond 111 = .ok (.iload 4, 2) := by decide +kernel
theorem dX5_passOneSecond_113 : decode cX5_passOneSecond 113 = .ok (.ifCond .gt 19, 3) := by decide +kernel
theorem dX5_passOneSecond_116 : decode cX5_passOneSecond 116 = .ok (.aload_n 0, 1) := by decide +kernel
theorem dX5_passOneSecond_117 : decode cX5_passOneSecond 117 = .ok (.getfield 28, 3) := by decide +kernel
theorem dX5_passOneSecond_120 : decode cX5_passOneSecond 120 = .ok (.dup, 1) := by decide +kernel
theorem dX5_passOneSecond_121 : decode cX5_passOneSecond 121 = .ok (.getfield 203, 3) := by decide +kernel
theorem dX5_passOneSecond_124 : decode cX5_passOneSecond 124 = .ok (.iconst 1, 1) := by decide +kernel
theorem dX5_passOneSecond_125 : decode cX5_passOneSecond 125 = .ok (.iadd, 1) := by decide +kernel
theorem dX5_passOneSecond_126 : decode cX5_passOneSecond 126 = .ok (.putfield 203, 3) := by decide +kernel
theorem dX5_passOneSecond_129 : decode cX5_passOneSecond 129 = .ok (.goto 16, 3) := by decide +kernel
theorem dX5_passOneSecond_132 : decode cX5_passOneSecond 132 = .ok (.aload_n 0, 1) := by decide +kernel
theorem dX5_passOneSecond_133 : decode cX5_passOneSecond 133 = .ok (.getfield 28, 3) := by decide +kernel
theorem dX5_passOneSecond_136 : decode cX5_passOneSecond 136 = .ok (.iload_n 1, 1) := by decide +kernel
theorem dX5_passOneSecond_137 : decode cX5_passOneSecond 137 = .ok (.iload 4, 2) := by decide +kernel
theorem dX5_passOneSecond_139 : decode cX5_passOneSecond 139 = .ok (.invokevirtual 109, 3) := by decide +kernel
theorem dX5_passOneSecond_142 : decode cX5_passOneSecond 142 = .ok (.iinc 1 1, 3) := by decide +kernel
theorem dX5_passOneSecond_145 : decode cX5_passOneSecond 145 = .ok (.iinc 2 1, 3) := by decide +kernel
theorem dX5_passOneSecond_148 : decode cX5_passOneSecond 148 = .ok (.goto (-123), 3) := by decide +kernel
theorem dX5_passOneSecond_151 : decode cX5_passOneSecond 151 = .ok (.aload_n 0, 1) := by decide +kernel
theorem dX5_passOneSecond_152 : decode cX5_passOneSecond 152 = .ok (.getfield 28, 3) := by decide +kernel
theorem dX5_passOneSecond_155 : decode cX5_passOneSecond 155 = .ok (.iload_n 1, 1) := by decide +kernel
theorem dX5_passOneSecond_156 : decode cX5_passOneSecond 156 = .ok (.putfield 106, 3) := by decide +kernel
theorem dX5_passOneSecond_159 : decode cX5_passOneSecond 159 = .ok (.return_, 1) := by decide +kernel
theorem dX5_firstBottleBetween_0 : decode cX5_firstBottleBetween 0 = .ok (.aload_n 0, 1) := by decide +kernel
theorem dX5_firstBottleBetween_1 : decode cX5_firstBottleBetween 1 = .ok (.getfield 56, 3) := by decide +kernel
theorem dX5_firstBottleBetween_4 : decode cX5_firstBottleBetween 4 = .ok (.iconst 1, 1) := by decide +kernel
theorem dX5_firstBottleBetween_5 : decode cX5_firstBottleBetween 5 = .ok (.isub, 1) := by decide +kernel
theorem dX5_firstBottleBetween_6 : decode cX5_firstBottleBetween 6 = .ok (.istore_n 3, 1) := by decide +kernel
theorem dX5_firstBottleBetween_7 : decode cX5_firstBottleBetween 7 = .ok (.iload_n 3, 1) := by decide +kernel
theorem dX5_firstBottleBetween_8 : decode cX5_firstBottleBetween 8 = .ok (.ifCond .lt 57, 3) := by decide +kernel
theorem dX5_firstBottleBetween_11 : decode cX5_firstBottleBetween 11 = .ok (.aload_n 0, 1) := by decide +kernel
theorem dX5_firstBottleBetween_12 : decode cX5_firstBottleBetween 12 = .ok (.iload_n 3, 1) := by decide +kernel
theorem dX5_firstBottleBetween_13 : decode cX5_firstBottleBetween 13 = .ok (.invokevirtual 62, 3) := by decide +kernel
theorem dX5_firstBottleBetween_16 : decode cX5_firstBottleBetween 16 = .ok (.astore 4, 2) := by decide +kernel
theorem dX5_firstBottleBetween_18 : decode cX5_firstBottleBetween 18 = .ok (.aload 4, 2) := by decide +kernel
theorem dX5_firstBottleBetween_20 : decode cX5_firstBottleBetween 20 = .ok (.ifnull 39, 3) := by decide +kernel
theorem dX5_firstBottleBetween_23 : decode cX5_firstBottleBetween 23 = .ok (.aload 4, 2) := by decide +kernel
theorem dX5_firstBottleBetween_25 : decode cX5_firstBottleBetween 25 = .ok (.getfield 95, 3) := by decide +kernel
theorem dX5_firstBottleBetween_28 : decode cX5_firstBottleBetween 28 = .ok (.iload_n 1, 1) := by decide +kernel
theorem dX5_firstBottleBetween_29 : decode cX5_firstBottleBetween 29 = .ok (.if_icmp .ge 30, 3) := by decide +kernel
theorem dX5_firstBottleBetween_32 : decode cX5_firstBottleBetween 32 = .ok (.aload 4, 2) := by decide +kernel
theorem dX5_firstBottleBetween_34 : decode cX5_firstBottleBetween 34 = .ok (.getfield 95, 3) := by decide +kernel
theorem dX5_firstBottleBetween_37 : decode cX5_firstBottleBetween 37 = .ok (.iload_n 2, 1) := by decide +kernel
theorem dX5_firstBottleBetween_38 : decode cX5_firstBottleBetween 38 = .ok (.if_icmp .lt 21, 3) := by decide +kernel
theorem dX5_firstBottleBetween_41 : decode cX5_firstBottleBetween 41 = .ok (.aload_n 0, 1) := by decide +kernel
theorem dX5_firstBottleBetween_42 : decode cX5_firstBottleBetween 42 = .ok (.getfield 12, 3) := by decide +kernel
theorem dX5_firstBottleBetween_45 : decode cX5_firstBottleBetween 45 = .ok (.aload 4, 2) := by decide +kernel
theorem dX5_firstBottleBetween_47 : decode cX5_firstBottleBetween 47 = .ok (.getfield 95, 3) := by decide +kernel
theorem dX5_firstBottleBetween_50 : decode cX5_firstBottleBetween 50 = .ok (.invokevirtual 102, 3) := by decide +kernel
theorem dX5_firstBottleBetween_53 : decode cX5_firstBottleBetween 53 = .ok (.ifCond .eq 6, 3) := by decide +kernel
theorem dX5_firstBottleBetween_56 : decode cX5_firstBottleBetween 56 = .ok (.aload 4, 2) := by decide +kernel
theorem dX5_firstBottleBetween_58 : decode cX5_firstBottleBetween 58 = .ok (.areturn, 1) := by decide +kernel
theorem dX5_firstBottleBetween_59 : decode cX5_firstBottleBetween 59 = .ok (.iinc 3 (-1), 3) := by decide +kernel
theorem dX5_firstBottleBetween_62 : decode cX5_firstBottleBetween 62 = .ok (.goto (-55), 3) := by decide +kernel
theorem dX5_firstBottleBetween_65 : decode cX5_firstBottleBetween 65 = .ok (.aconst_null, 1) := by decide +kernel
theorem dX5_firstBottleBetween_66 : decode cX5_firstBottleBetween 66 = .ok (.areturn, 1) := by decide +kernel
theorem dX5_strike_0 : decode cX5_strike 0 = .ok (.aload_n 1, 1) := by decide +kernel
theorem dX5_strike_1 : decode cX5_strike 1 = .ok (.dup, 1) := by decide +kernel
theorem dX5_strike_2 : decode cX5_strike 2 = .ok (.getfield 206, 3) := by decide +kernel
theorem dX5_strike_5 : decode cX5_strike 5 = .ok (.iconst 1, 1) := by decide +kernel
theorem dX5_strike_6 : decode cX5_strike 6 = .ok (.iadd, 1) := by decide +kernel
theorem dX5_strike_7 : decode cX5_strike 7 = .ok (.putfield 206, 3) := by decide +kernel
theorem dX5_strike_10 : decode cX5_strike 10 = .ok (.aload_n 1, 1) := by decide +kernel
theorem dX5_strike_11 : decode cX5_strike 11 = .ok (.getfield 130, 3) := by decide +kernel
theorem dX5_strike_14 : decode cX5_strike 14 = .ok (.ifCond .eq 5, 3) := by decide +kernel
theorem dX5_strike_17 : decode cX5_strike 17 = .ok (.iconst 0, 1) := by decide +kernel
theorem dX5_strike_18 : decode cX5_strike 18 = .ok (.ireturn, 1) := by decide +kernel
theorem dX5_strike_19 : decode cX5_strike 19 = .ok (.aload_n 0, 1) := by decide +kernel
theorem dX5_strike_20 : decode cX5_strike 20 = .ok (.aload_n 1, 1) := by decide +kernel
theorem dX5_strike_21 : decode cX5_strike 21 = .ok (.invokevirtual 133, 3) := by decide +kernel
theorem dX5_strike_24 : decode cX5_strike 24 = .ok (.aload_n 1, 1) := by decide +kernel
theorem dX5_strike_25 : decode cX5_strike 25 = .ok (.getfield 209, 3) := by decide +kernel
theorem dX5_strike_28 : decode cX5_strike 28 = .ok (.ifCond .ne 5, 3) := by decide +kernel
theorem dX5_strike_31 : decode cX5_strike 31 = .ok (.iconst 0, 1) := by decide +kernel
theorem dX5_strike_32 : decode cX5_strike 32 = .ok (.ireturn, 1) := by decide +kernel
theorem dX5_strike_33 : decode cX5_strike 33 = .ok (.aload_n 1, 1) := by decide +kernel
theorem dX5_strike_34 : decode cX5_strike 34 = .ok (.iconst 0, 1) := by decide +kernel
theorem dX5_strike_35 : decode cX5_strike 35 = .ok (.putfield 209, 3) := by decide +kernel
theorem dX5_strike_38 : decode cX5_strike 38 = .ok (.aload_n 0, 1) := by decide +kernel
theorem dX5_strike_39 : decode cX5_strike 39 = .ok (.getfield 28, 3) := by decide +kernel
theorem dX5_strike_42 : decode cX5_strike 42 = .ok (.dup, 1) := by decide +kernel
theorem dX5_strike_43 : decode cX5_strike 43 = .ok (.getfield 212, 3) := by decide +kernel
theorem dX5_strike_46 : decode cX5_strike 46 = .ok (.iconst 1, 1) := by decide +kernel
theorem dX5_strike_47 : decode cX5_strike 47 = .ok (.iadd, 1) := by decide +kernel
theorem dX5_strike_48 : decode cX5_strike 48 = .ok (.putfield 212, 3) := by decide +kernel
theorem dX5_strike_51 : decode cX5_strike 51 = .ok (.iconst 1, 1) := by decide +kernel
theorem dX5_strike_52 : decode cX5_strike 52 = .ok (.ireturn, 1) := by decide +kernel
theorem dX5_runUntilShut_0 : decode cX5_runUntilShut 0 = .ok (.aload_n 0, 1) := by decide +kernel
theorem dX5_runUntilShut_1 : decode cX5_runUntilShut 1 = .ok (.iload_n 1, 1) := by decide +kernel
theorem dX5_runUntilShut_2 : decode cX5_runUntilShut 2 = .ok (.invokevirtual 62, 3) := by decide +kernel
theorem dX5_runUntilShut_5 : decode cX5_runUntilShut 5 = .ok (.astore_n 2, 1) := by decide +kernel
theorem dX5_runUntilShut_6 : decode cX5_runUntilShut 6 = .ok (.aload_n 0, 1) := by decide +kernel
theorem dX5_runUntilShut_7 : decode cX5_runUntilShut 7 = .ok (.getfield 59, 3) := by decide +kernel
theorem dX5_runUntilShut_10 : decode cX5_runUntilShut 10 = .ok (.istore_n 3, 1) := by decide +kernel
theorem dX5_runUntilShut_11 : decode cX5_runUntilShut 11 = .ok (.iconst 0, 1) := by decide +kernel
theorem dX5_runUntilShut_12 : decode cX5_runUntilShut 12 = .ok (.istore 4, 2) := by decide +kernel
theorem dX5_runUntilShut_14 : decode cX5_runUntilShut 14 = .ok (.iload 4, 2) := by decide +kernel
theorem dX5_runUntilShut_16 : decode cX5_runUntilShut 16 = .ok (.sipush 2000, 3) := by decide +kernel
theorem dX5_runUntilShut_19 : decode cX5_runUntilShut 19 = .ok (.if_icmp .ge 58, 3) := by decide +kernel
theorem dX5_runUntilShut_22 : decode cX5_runUntilShut 22 = .ok (.aload_n 0, 1) := by decide +kernel
theorem dX5_runUntilShut_23 : decode cX5_runUntilShut 23 = .ok (.getfield 28, 3) := by decide +kernel
theorem dX5_runUntilShut_26 : decode cX5_runUntilShut 26 = .ok (.getfield 106, 3) := by decide +kernel
theorem dX5_runUntilShut_29 : decode cX5_runUntilShut 29 = .ok (.ifCond .le 48, 3) := by decide +kernel
theorem dX5_runUntilShut_32 : decode cX5_runUntilShut 32 = .ok (.aload_n 0, 1) := by decide +kernel
theorem dX5_runUntilShut_33 : decode cX5_runUntilShut 33 = .ok (.getfield 12, 3) := by decide +kernel
theorem dX5_runUntilShut_36 : decode cX5_runUntilShut 36 = .ok (.invokevirtual 170, 3) := by decide +kernel
theorem dX5_runUntilShut_39 : decode cX5_runUntilShut 39 = .ok (.ifCond .ne 38, 3) := by decide +kernel
theorem dX5_runUntilShut_42 : decode cX5_runUntilShut 42 = .ok (.aload_n 0, 1) := by decide +kernel
theorem dX5_runUntilShut_43 : decode cX5_runUntilShut 43 = .ok (.sipush 2000, 3) := by decide +kernel
theorem dX5_runUntilShut_46 : decode cX5_runUntilShut 46 = .ok (.invokevirtual 120, 3) := by decide +kernel
theorem dX5_runUntilShut_49 : decode cX5_runUntilShut 49 = .ok (.aload_n 0, 1) := by decide +kernel
theorem dX5_runUntilShut_50 : decode cX5_runUntilShut 50 = .ok (.invokevirtual 124, 3) := by decide +kernel
theorem dX5_runUntilShut_53 : decode cX5_runUntilShut 53 = .ok (.aload_n 2, 1) := by decide +kernel
theorem dX5_runUntilShut_54 : decode cX5_runUntilShut 54 = .ok (.ifnull 17, 3) := by decide +kernel
theorem dX5_runUntilShut_57 : decode cX5_runUntilShut 57 = .ok (.aload_n 2, 1) := by decide +kernel
theorem dX5_runUntilShut_58 : decode cX5_runUntilShut 58 = .ok (.getfield 130, 3) := by decide +kernel
theorem dX5_runUntilShut_61 : decode cX5_runUntilShut 61 = .ok (.ifCond .eq 10, 3) := by decide +kernel
theorem dX5_runUntilShut_64 : decode cX5_runUntilShut 64 = .ok (.aload_n 0, 1) := by decide +kernel
theorem dX5_runUntilShut_65 : decode cX5_runUntilShut 65 = .ok (.getfield 59, 3) := by decide +kernel
theorem dX5_runUntilShut_68 : decode cX5_runUntilShut 68 = .ok (.iload_n 3, 1) := by decide +kernel
theorem dX5_runUntilShut_69 : decode cX5_runUntilShut 69 = .ok (.isub, 1) := by decide +kernel
theorem dX5_runUntilShut_70 : decode cX5_runUntilShut 70 = .ok (.ireturn, 1) := by decide +kernel
theorem dX5_runUntilShut_71 : decode cX5_runUntilShut 71 = .ok (.iinc 4 1, 3) := by decide +kernel
theorem dX5_runUntilShut_74 : decode cX5_runUntilShut 74 = .ok (.goto (-60), 3) := by decide +kernel
theorem dX5_runUntilShut_77 : decode cX5_runUntilShut 77 = .ok (.sipush (-1005), 3) := by decide +kernel
theorem dX5_runUntilShut_80 : decode cX5_runUntilShut 80 = .ok (.ireturn, 1) := by decide +kernel
theorem dX5_runUntilQuiet_0 : decode cX5_runUntilQuiet 0 = .ok (.aload_n 0, 1) := by decide +kernel
theorem dX5_runUntilQuiet_1 : decode cX5_runUntilQuiet 1 = .ok (.getfield 59, 3) := by decide +kernel
theorem dX5_runUntilQuiet_4 : decode cX5_runUntilQuiet 4 = .ok (.istore_n 1, 1) := by decide +kernel
theorem dX5_runUntilQuiet_5 : decode cX5_runUntilQuiet 5 = .ok (.iconst 0, 1) := by decide +kernel
theorem dX5_runUntilQuiet_6 : decode cX5_runUntilQuiet 6 = .ok (.istore_n 2, 1) := by decide +kernel
theorem dX5_runUntilQuiet_7 : decode cX5_runUntilQuiet 7 = .ok (.iload_n 2, 1) := by decide +kernel
theorem dX5_runUntilQuiet_8 : decode cX5_runUntilQuiet 8 = .ok (.sipush 2000, 3) := by decide +kernel
theorem dX5_runUntilQuiet_11 : decode cX5_runUntilQuiet 11 = .ok (.if_icmp .ge 40, 3) := by decide +kernel
theorem dX5_runUntilQuiet_14 : decode cX5_runUntilQuiet 14 = .ok (.aload_n 0, 1) := by decide +kernel
theorem dX5_runUntilQuiet_15 : decode cX5_runUntilQuiet 15 = .ok (.getfield 28, 3) := by decide +kernel
theorem dX5_runUntilQuiet_18 : decode cX5_runUntilQuiet 18 = .ok (.getfield 106, 3) := by decide +kernel
theorem dX5_runUntilQuiet_21 : decode cX5_runUntilQuiet 21 = .ok (.ifCond .le 30, 3) := by decide +kernel
theorem dX5_runUntilQuiet_24 : decode cX5_runUntilQuiet 24 = .ok (.aload_n 0, 1) := by decide +kernel
theorem dX5_runUntilQuiet_25 : decode cX5_runUntilQuiet 25 = .ok (.getfield 12, 3) := by decide +kernel
theorem dX5_runUntilQuiet_28 : decode cX5_runUntilQuiet 28 = .ok (.invokevirtual 170, 3) := by decide +kernel
theorem dX5_runUntilQuiet_31 : decode cX5_runUntilQuiet 31 = .ok (.ifCond .ne 20, 3) := by decide +kernel
theorem dX5_runUntilQuiet_34 : decode cX5_runUntilQuiet 34 = .ok (.aload_n 0, 1) := by decide +kernel
theorem dX5_runUntilQuiet_35 : decode cX5_runUntilQuiet 35 = .ok (.sipush 2000, 3) := by decide +kernel
theorem dX5_runUntilQuiet_38 : decode cX5_runUntilQuiet 38 = .ok (.invokevirtual 120, 3) := by decide +kernel
theorem dX5_runUntilQuiet_41 : decode cX5_runUntilQuiet 41 = .ok (.aload_n 0, 1) := by decide +kernel
theorem dX5_runUntilQuiet_42 : decode cX5_runUntilQuiet 42 = .ok (.invokevirtual 124, 3) := by decide +kernel
theorem dX5_runUntilQuiet_45 : decode cX5_runUntilQuiet 45 = .ok (.iinc 2 1, 3) := by decide +kernel
theorem dX5_runUntilQuiet_48 : decode cX5_runUntilQuiet 48 = .ok (.goto (-41), 3) := by decide +kernel
theorem dX5_runUntilQuiet_51 : decode cX5_runUntilQuiet 51 = .ok (.aload_n 0, 1) := by decide +kernel
theorem dX5_runUntilQuiet_52 : decode cX5_runUntilQuiet 52 = .ok (.getfield 59, 3) := by decide +kernel
theorem dX5_runUntilQuiet_55 : decode cX5_runUntilQuiet 55 = .ok (.iload_n 1, 1) := by decide +kernel
theorem dX5_runUntilQuiet_56 : decode cX5_runUntilQuiet 56 = .ok (.isub, 1) := by decide +kernel
theorem dX5_runUntilQuiet_57 : decode cX5_runUntilQuiet 57 = .ok (.ireturn, 1) := by decide +kernel
theorem dX5_isDoubtful_0 : decode cX5_isDoubtful 0 = .ok (.aload_n 1, 1) := by decide +kernel
theorem dX5_isDoubtful_1 : decode cX5_isDoubtful 1 = .ok (.getfield 130, 3) := by decide +kernel
theorem dX5_isDoubtful_4 : decode cX5_isDoubtful 4 = .ok (.ifCond .eq 18, 3) := by decide +kernel
theorem dX5_isDoubtful_7 : decode cX5_isDoubtful 7 = .ok (.aload_n 1, 1) := by decide +kernel
theorem dX5_isDoubtful_8 : decode cX5_isDoubtful 8 = .ok (.invokevirtual 215, 3) := by decide +kernel
theorem dX5_isDoubtful_11 : decode cX5_isDoubtful 11 = .ok (.aload_n 0, 1) := by decide +kernel
theorem dX5_isDoubtful_12 : decode cX5_isDoubtful 12 = .ok (.getfield 38, 3) := by decide +kernel
theorem dX5_isDoubtful_15 : decode cX5_isDoubtful 15 = .ok (.if_icmp .le 7, 3) := by decide +kernel
theorem dX5_isDoubtful_18 : decode cX5_isDoubtful 18 = .ok (.iconst 1, 1) := by decide +kernel
theorem dX5_isDoubtful_19 : decode cX5_isDoubtful 19 = .ok (.goto 4, 3) := by decide +kernel
theorem dX5_isDoubtful_22 : decode cX5_isDoubtful 22 = .ok (.iconst 0, 1) := by decide +kernel
theorem dX5_isDoubtful_23 : decode cX5_isDoubtful 23 = .ok (.ireturn, 1) := by decide +kernel
theorem dX5_bottlesInWater_0 : decode cX5_bottlesInWater 0 = .ok (.iconst 0, 1) := by decide +kernel
theorem dX5_bottlesInWater_1 : decode cX5_bottlesInWater 1 = .ok (.istore_n 1, 1) := by decide +kernel
theorem dX5_bottlesInWater_2 : decode cX5_bottlesInWater 2 = .ok (.iconst 0, 1) := by decide +kernel
theorem dX5_bottlesInWater_3 : decode cX5_bottlesInWater 3 = .ok (.istore_n 2, 1) := by decide +kernel
theorem dX5_bottlesInWater_4 : decode cX5_bottlesInWater 4 = .ok (.iload_n 2, 1) := by decide +kernel
theorem dX5_bottlesInWater_5 : decode cX5_bottlesInWater 5 = .ok (.aload_n 0, 1) := by decide +kernel
theorem dX5_bottlesInWater_6 : decode cX5_bottlesInWater 6 = .ok (.getfield 56, 3) := by decide +kernel
theorem dX5_bottlesInWater_9 : decode cX5_bottlesInWater 9 = .ok (.if_icmp .ge 36, 3) := by decide +kernel
theorem dX5_bottlesInWater_12 : decode cX5_bottlesInWater 12 = .ok (.aload_n 0, 1) := by decide +kernel
theorem dX5_bottlesInWater_13 : decode cX5_bottlesInWater 13 = .ok (.iload_n 2, 1) := by decide +kernel
theorem dX5_bottlesInWater_14 : decode cX5_bottlesInWater 14 = .ok (.invokevirtual 62, 3) := by decide +kernel
theorem dX5_bottlesInWater_17 : decode cX5_bottlesInWater 17 = .ok (.astore_n 3, 1) := by decide +kernel
theorem dX5_bottlesInWater_18 : decode cX5_bottlesInWater 18 = .ok (.aload_n 3, 1) := by decide +kernel
theorem dX5_bottlesInWater_19 : decode cX5_bottlesInWater 19 = .ok (.ifnull 20, 3) := by decide +kernel
theorem dX5_bottlesInWater_22 : decode cX5_bottlesInWater 22 = .ok (.aload_n 0, 1) := by decide +kernel
theorem dX5_bottlesInWater_23 : decode cX5_bottlesInWater 23 = .ok (.getfield 12, 3) := by decide +kernel
theorem dX5_bottlesInWater_26 : decode cX5_bottlesInWater 26 = .ok (.aload_n 3, 1) := by decide +kernel
theorem dX5_bottlesInWater_27 : decode cX5_bottlesInWater 27 = .ok (.getfield 95, 3) := by decide +kernel
theorem dX5_bottlesInWater_30 : decode cX5_bottlesInWater 30 = .ok (.invokevirtual 102, 3) := by decide +kernel
theorem dX5_bottlesInWater_33 : decode cX5_bottlesInWater 33 = .ok (.ifCond .eq 6, 3) := by decide +kernel
theorem dX5_bottlesInWater_36 : decode cX5_bottlesInWater 36 = .ok (.iinc 1 1, 3) := by decide +kernel
theorem dX5_bottlesInWater_39 : decode cX5_bottlesInWater 39 = .ok (.iinc 2 1, 3) := by decide +kernel
theorem dX5_bottlesInWater_42 : decode cX5_bottlesInWater 42 = .ok (.goto (-38), 3) := by decide +kernel
theorem dX5_bottlesInWater_45 : decode cX5_bottlesInWater 45 = .ok (.iload_n 1, 1) := by decide +kernel
theorem dX5_bottlesInWater_46 : decode cX5_bottlesInWater 46 = .ok (.ireturn, 1) := by decide +kernel
theorem dX5_shutBottles_0 : decode cX5_shutBottles 0 = .ok (.iconst 0, 1) := by decide +kernel
theorem dX5_shutBottles_1 : decode cX5_shutBottles 1 = .ok (.istore_n 1, 1) := by decide +kernel
theorem dX5_shutBottles_2 : decode cX5_shutBottles 2 = .ok (.iconst 0, 1) := by decide +kernel
theorem dX5_shutBottles_3 : decode cX5_shutBottles 3 = .ok (.istore_n 2, 1) := by decide +kernel
theorem dX5_shutBottles_4 : decode cX5_shutBottles 4 = .ok (.iload_n 2, 1) := by decide +kernel
theorem dX5_shutBottles_5 : decode cX5_shutBottles 5 = .ok (.aload_n 0, 1) := by decide +kernel
theorem dX5_shutBottles_6 : decode cX5_shutBottles 6 = .ok (.getfield 56, 3) := by decide +kernel
theorem dX5_shutBottles_9 : decode cX5_shutBottles 9 = .ok (.if_icmp .ge 29, 3) := by decide +kernel
theorem dX5_shutBottles_12 : decode cX5_shutBottles 12 = .ok (.aload_n 0, 1) := by decide +kernel
theorem dX5_shutBottles_13 : decode cX5_shutBottles 13 = .ok (.iload_n 2, 1) := by decide +kernel
theorem dX5_shutBottles_14 : decode cX5_shutBottles 14 = .ok (.invokevirtual 62, 3) := by decide +kernel
theorem dX5_shutBottles_17 : decode cX5_shutBottles 17 = .ok (.astore_n 3, 1) := by decide +kernel
theorem dX5_shutBottles_18 : decode cX5_shutBottles 18 = .ok (.aload_n 3, 1) := by decide +kernel
theorem dX5_shutBottles_19 : decode cX5_shutBottles 19 = .ok (.ifnull 13, 3) := by decide +kernel
theorem dX5_shutBottles_22 : decode cX5_shutBottles 22 = .ok (.aload_n 3, 1) := by decide +kernel
theorem dX5_shutBottles_23 : decode cX5_shutBottles 23 = .ok (.getfield 130, 3) := by decide +kernel
theorem dX5_shutBottles_26 : decode cX5_shutBottles 26 = .ok (.ifCond .eq 6, 3) := by decide +kernel
theorem dX5_shutBottles_29 : decode cX5_shutBottles 29 = .ok (.iinc 1 1, 3) := by decide +kernel
theorem dX5_shutBottles_32 : decode cX5_shutBottles 32 = .ok (.iinc 2 1, 3) := by decide +kernel
theorem dX5_shutBottles_35 : decode cX5_shutBottles 35 = .ok (.goto (-31), 3) := by decide +kernel
theorem dX5_shutBottles_38 : decode cX5_shutBottles 38 = .ok (.iload_n 1, 1) := by decide +kernel
theorem dX5_shutBottles_39 : decode cX5_shutBottles 39 = .ok (.ireturn, 1) := by decide +kernel
theorem dX5_doubtfulBottles_0 : decode cX5_doubtfulBottles 0 = .ok (.iconst 0, 1) := by decide +kernel
theorem dX5_doubtfulBottles_1 : decode cX5_doubtfulBottles 1 = .ok (.istore_n 1, 1) := by decide +kernel
theorem dX5_doubtfulBottles_2 : decode cX5_doubtfulBottles 2 = .ok (.iconst 0, 1) := by decide +kernel
theorem dX5_doubtfulBottles_3 : decode cX5_doubtfulBottles 3 = .ok (.istore_n 2, 1) := by decide +kernel
theorem dX5_doubtfulBottles_4 : decode cX5_doubtfulBottles 4 = .ok (.iload_n 2, 1) := by decide +kernel
theorem dX5_doubtfulBottles_5 : decode cX5_doubtfulBottles 5 = .ok (.aload_n 0, 1) := by decide +kernel
theorem dX5_doubtfulBottles_6 : decode cX5_doubtfulBottles 6 = .ok (.getfield 56, 3) := by decide +kernel
theorem dX5_doubtfulBottles_9 : decode cX5_doubtfulBottles 9 = .ok (.if_icmp .ge 30, 3) := by decide +kernel
theorem dX5_doubtfulBottles_12 : decode cX5_doubtfulBottles 12 = .ok (.aload_n 0, 1) := by decide +kernel
theorem dX5_doubtfulBottles_13 : decode cX5_doubtfulBottles 13 = .ok (.iload_n 2, 1) := by decide +kernel
theorem dX5_doubtfulBottles_14 : decode cX5_doubtfulBottles 14 = .ok (.invokevirtual 62, 3) := by decide +kernel
theorem dX5_doubtfulBottles_17 : decode cX5_doubtfulBottles 17 = .ok (.astore_n 3, 1) := by decide +kernel
theorem dX5_doubtfulBottles_18 : decode cX5_doubtfulBottles 18 = .ok (.aload_n 3, 1) := by decide +kernel
theorem dX5_doubtfulBottles_19 : decode cX5_doubtfulBottles 19 = .ok (.ifnull 14, 3) := by decide +kernel
theorem dX5_doubtfulBottles_22 : decode cX5_doubtfulBottles 22 = .ok (.aload_n 0, 1) := by decide +kernel
theorem dX5_doubtfulBottles_23 : decode cX5_doubtfulBottles 23 = .ok (.aload_n 3, 1) := by decide +kernel
theorem dX5_doubtfulBottles_24 : decode cX5_doubtfulBottles 24 = .ok (.invokevirtual 218, 3) := by decide +kernel
theorem dX5_doubtfulBottles_27 : decode cX5_doubtfulBottles 27 = .ok (.ifCond .eq 6, 3) := by decide +kernel
theorem dX5_doubtfulBottles_30 : decode cX5_doubtfulBottles 30 = .ok (.iinc 1 1, 3) := by decide +kernel
theorem dX5_doubtfulBottles_33 : decode cX5_doubtfulBottles 33 = .ok (.iinc 2 1, 3) := by decide +kernel
theorem dX5_doubtfulBottles_36 : decode cX5_doubtfulBottles 36 = .ok (.goto (-32), 3) := by decide +kernel
theorem dX5_doubtfulBottles_39 : decode cX5_doubtfulBottles 39 = .ok (.iload_n 1, 1) := by decide +kernel
theorem dX5_doubtfulBottles_40 : decode cX5_doubtfulBottles 40 = .ok (.ireturn, 1) := by decide +kernel
theorem dX5_openInLayer_0 : decode cX5_openInLayer 0 = .ok (.iconst 0, 1) := by decide +kernel
theorem dX5_openInLayer_1 : decode cX5_openInLayer 1 = .ok (.istore_n 2, 1) := by decide +kernel
theorem dX5_openInLayer_2 : decode cX5_openInLayer 2 = .ok (.iconst 0, 1) := by decide +kernel
theorem dX5_openInLayer_3 : decode cX5_openInLayer 3 = .ok (.istore_n 3, 1) := by decide +kernel
theorem dX5_openInLayer_4 : decode cX5_openInLayer 4 = .ok (.iload_n 3, 1) := by decide +kernel
theorem dX5_openInLayer_5 : decode cX5_openInLayer 5 = .ok (.aload_n 0, 1) := by decide +kernel
theorem dX5_openInLayer_6 : decode cX5_openInLayer 6 = .ok (.getfield 56, 3) := by decide +kernel
theorem dX5_openInLayer_9 : decode cX5_openInLayer 9 = .ok (.if_icmp .ge 66, 3) := by decide +kernel
theorem dX5_openInLayer_12 : decode cX5_openInLayer 12 = .ok (.aload_n 0, 1) := by decide +kernel
theorem dX5_openInLayer_13 : decode cX5_openInLayer 13 = .ok (.iload_n 3, 1) := by decide +kernel
theorem dX5_openInLayer_14 : decode cX5_openInLayer 14 = .ok (.invokevirtual 62, 3) := by decide +kernel
theorem dX5_openInLayer_17 : decode cX5_openInLayer 17 = .ok (.astore 4, 2) := by decide +kernel
theorem dX5_openInLayer_19 : decode cX5_openInLayer 19 = .ok (.aload 4, 2) := by decide +kernel
theorem dX5_openInLayer_21 : decode cX5_openInLayer 21 = .ok (.ifnull 48, 3) := by decide +kernel
theorem dX5_openInLayer_24 : decode cX5_openInLayer 24 = .ok (.aload 4, 2) := by decide +kernel
theorem dX5_openInLayer_26 : decode cX5_openInLayer 26 = .ok (.getfield 130, 3) := by decide +kernel
theorem dX5_openInLayer_29 : decode cX5_openInLayer 29 = .ok (.ifCond .ne 40, 3) := by decide +kernel
theorem dX5_openInLayer_32 : decode cX5_openInLayer 32 = .ok (.aload_n 0, 1) := by decide +kernel
theorem dX5_openInLayer_33 : decode cX5_openInLayer 33 = .ok (.getfield 12, 3) := by decide +kernel
theorem dX5_openInLayer_36 : decode cX5_openInLayer 36 = .ok (.aload 4, 2) := by decide +kernel
theorem dX5_openInLayer_38 : decode cX5_openInLayer 38 = .ok (.getfield 95, 3) := by decide +kernel
theorem dX5_openInLayer_41 : decode cX5_openInLayer 41 = .ok (.invokevirtual 102, 3) := by decide +kernel
theorem dX5_openInLayer_44 : decode cX5_openInLayer 44 = .ok (.ifCond .eq 25, 3) := by decide +kernel
theorem dX5_openInLayer_47 : decode cX5_openInLayer 47 = .ok (.aload_n 0, 1) := by decide +kernel
theorem dX5_openInLayer_48 : decode cX5_openInLayer 48 = .ok (.getfield 12, 3) := by decide +kernel
theorem dX5_openInLayer_51 : decode cX5_openInLayer 51 = .ok (.aload 4, 2) := by decide +kernel
theorem dX5_openInLayer_53 : decode cX5_openInLayer 53 = .ok (.getfield 95, 3) := by decide +kernel
theorem dX5_openInLayer_56 : decode cX5_openInLayer 56 = .ok (.invokevirtual 221, 3) := by decide +kernel
theorem dX5_openInLayer_59 : decode cX5_openInLayer 59 = .ok (.invokestatic 149, 3) := by decide +kernel
theorem dX5_openInLayer_62 : decode cX5_openInLayer 62 = .ok (.iload_n 1, 1) := by decide +kernel
theorem dX5_openInLayer_63 : decode cX5_openInLayer 63 = .ok (.if_icmp .ne 6, 3) := by decide +kernel
theorem dX5_openInLayer_66 : decode cX5_openInLayer 66 = .ok (.iinc 2 1, 3) := by decide +kernel
theorem dX5_openInLayer_69 : decode cX5_openInLayer 69 = .ok (.iinc 3 1, 3) := by decide +kernel
theorem dX5_openInLayer_72 : decode cX5_openInLayer 72 = .ok (.goto (-68), 3) := by decide +kernel
theorem dX5_openInLayer_75 : decode cX5_openInLayer 75 = .ok (.iload_n 2, 1) := by decide +kernel
theorem dX5_openInLayer_76 : decode cX5_openInLayer 76 = .ok (.ireturn, 1) := by decide +kernel
theorem dX5_shutInLayer_0 : decode cX5_shutInLayer 0 = .ok (.iconst 0, 1) := by decide +kernel
theorem dX5_shutInLayer_1 : decode cX5_shutInLayer 1 = .ok (.istore_n 2, 1) := by decide +kernel
theorem dX5_shutInLayer_2 : decode cX5_shutInLayer 2 = .ok (.iconst 0, 1) := by decide +kernel
theorem dX5_shutInLayer_3 : decode cX5_shutInLayer 3 = .ok (.istore_n 3, 1) := by decide +kernel
theorem dX5_shutInLayer_4 : decode cX5_shutInLayer 4 = .ok (.iload_n 3, 1) := by decide +kernel
theorem dX5_shutInLayer_5 : decode cX5_shutInLayer 5 = .ok (.aload_n 0, 1) := by decide +kernel
theorem dX5_shutInLayer_6 : decode cX5_shutInLayer 6 = .ok (.getfield 56, 3) := by decide +kernel
theorem dX5_shutInLayer_9 : decode cX5_shutInLayer 9 = .ok (.if_icmp .ge 41, 3) := by decide +kernel
theorem dX5_shutInLayer_12 : decode cX5_shutInLayer 12 = .ok (.aload_n 0, 1) := by decide +kernel
theorem dX5_shutInLayer_13 : decode cX5_shutInLayer 13 = .ok (.iload_n 3, 1) := by decide +kernel
theorem dX5_shutInLayer_14 : decode cX5_shutInLayer 14 = .ok (.invokevirtual 62, 3) := by decide +kernel
theorem dX5_shutInLayer_17 : decode cX5_shutInLayer 17 = .ok (.astore 4, 2) := by decide +kernel
theorem dX5_shutInLayer_19 : decode cX5_shutInLayer 19 = .ok (.aload 4, 2) := by decide +kernel
theorem dX5_shutInLayer_21 : decode cX5_shutInLayer 21 = .ok (.ifnull 23, 3) := by decide +kernel
theorem dX5_shutInLayer_24 : decode cX5_shutInLayer 24 = .ok (.aload 4, 2) := by decide +kernel
theorem dX5_shutInLayer_26 : decode cX5_shutInLayer 26 = .ok (.getfield 130, 3) := by decide +kernel
theorem dX5_shutInLayer_29 : decode cX5_shutInLayer 29 = .ok (.ifCond .eq 15, 3) := by decide +kernel
theorem dX5_shutInLayer_32 : decode cX5_shutInLayer 32 = .ok (.aload 4, 2) := by decide +kernel
theorem dX5_shutInLayer_34 : decode cX5_shutInLayer 34 = .ok (.getfield 152, 3) := by decide +kernel
theorem dX5_shutInLayer_37 : decode cX5_shutInLayer 37 = .ok (.iload_n 1, 1) := by decide +kernel
theorem dX5_shutInLayer_38 : decode cX5_shutInLayer 38 = .ok (.if_icmp .ne 6, 3) := by decide +kernel
theorem dX5_shutInLayer_41 : decode cX5_shutInLayer 41 = .ok (.iinc 2 1, 3) := by decide +kernel
theorem dX5_shutInLayer_44 : decode cX5_shutInLayer 44 = .ok (.iinc 3 1, 3) := by decide +kernel
theorem dX5_shutInLayer_47 : decode cX5_shutInLayer 47 = .ok (.goto (-43), 3) := by decide +kernel
theorem dX5_shutInLayer_50 : decode cX5_shutInLayer 50 = .ok (.iload_n 2, 1) := by decide +kernel
theorem dX5_shutInLayer_51 : decode cX5_shutInLayer 51 = .ok (.ireturn, 1) := by decide +kernel
theorem dX6_init_0 : decode cX6_init 0 = .ok (.aload_n 0, 1) := by decide +kernel
theorem dX6_init_1 : decode cX6_init 1 = .ok (.invokespecial 3, 3) := by decide +kernel
theorem dX6_init_4 : decode cX6_init 4 = .ok (.aload_n 0, 1) := by decide +kernel
theorem dX6_init_5 : decode cX6_init 5 = .ok (.bipush 60, 2) := by decide +kernel
theorem dX6_init_7 : decode cX6_init 7 = .ok (.newarray .char, 2) := by decide +kernel
theorem dX6_init_9 : decode cX6_init 9 = .ok (.putfield 9, 3) := by decide +kernel
theorem dX6_init_12 : decode cX6_init 12 = .ok (.return_, 1) := by decide +kernel
theorem dX6_append_0 : decode cX6_append 0 = .ok (.aload_n 0, 1) := by decide +kernel
theorem dX6_append_1 : decode cX6_append 1 = .ok (.getfield 15, 3) := by decide +kernel
theorem dX6_append_4 : decode cX6_append 4 = .ok (.ifCond .lt 12, 3) := by decide +kernel
theorem dX6_append_7 : decode cX6_append 7 = .ok (.aload_n 0, 1) := by decide +kernel
theorem dX6_append_8 : decode cX6_append 8 = .ok (.getfield 15, 3) := by decide +kernel
theorem dX6_append_11 : decode cX6_append 11 = .ok (.bipush 60, 2) := by decide +kernel
theorem dX6_append_13 : decode cX6_append 13 = .ok (.if_icmp .lt 5, 3) := by decide +kernel
theorem dX6_append_16 : decode cX6_append 16 = .ok (.iconst 0, 1) := by decide +kernel
theorem dX6_append_17 : decode cX6_append 17 = .ok (.ireturn, 1) := by decide +kernel
theorem dX6_append_18 : decode cX6_append 18 = .ok (.aload_n 0, 1) := by decide +kernel
theorem dX6_append_19 : decode cX6_append 19 = .ok (.getfield 9, 3) := by decide +kernel
theorem dX6_append_22 : decode cX6_append 22 = .ok (.aload_n 0, 1) := by decide +kernel
theorem dX6_append_23 : decode cX6_append 23 = .ok (.getfield 15, 3) := by decide +kernel
theorem dX6_append_26 : decode cX6_append 26 = .ok (.iload_n 1, 1) := by decide +kernel
theorem dX6_append_27 : decode cX6_append 27 = .ok (.castore, 1) := by decide +kernel
theorem dX6_append_28 : decode cX6_append 28 = .ok (.aload_n 0, 1) := by decide +kernel
theorem dX6_append_29 : decode cX6_append 29 = .ok (.dup, 1) := by decide +kernel
theorem dX6_append_30 : decode cX6_append 30 = .ok (.getfield 15, 3) := by decide +kernel
theorem dX6_append_33 : decode cX6_append 33 = .ok (.iconst 1, 1) := by decide +kernel
theorem dX6_append_34 : decode cX6_append 34 = .ok (.iadd, 1) := by decide +kernel
theorem dX6_append_35 : decode cX6_append 35 = .ok (.putfield 15, 3) := by decide +kernel
theorem dX6_append_38 : decode cX6_append 38 = .ok (.iconst 1, 1) := by decide +kernel
theorem dX6_append_39 : decode cX6_append 39 = .ok (.ireturn, 1) := by decide +kernel
theorem dX6_at_0 : decode cX6_at 0 = .ok (.iload_n 1, 1) := by decide +kernel
theorem dX6_at_1 : decode cX6_at 1 = .ok (.ifCond .lt 26, 3) := by decide +kernel
theorem dX6_at_4 : decode cX6_at 4 = .ok (.iload_n 1, 1) := by decide +kernel
theorem dX6_at_5 : decode cX6_at 5 = .ok (.aload_n 0, 1) := by decide +kernel
theorem dX6_at_6 : decode cX6_at 6 = .ok (.getfield 15, 3) := by decide +kernel
theorem dX6_at_9 : decode cX6_at 9 = .ok (.if_icmp .ge 18, 3) := by decide +kernel
theorem dX6_at_12 : decode cX6_at 12 = .ok (.iload_n 1, 1) := by decide +kernel
theorem dX6_at_13 : decode cX6_at 13 = .ok (.bipush 60, 2) := by decide +kernel
theorem dX6_at_15 : decode cX6_at 15 = .ok (.if_icmp .ge 12, 3) := by decide +kernel
theorem dX6_at_18 : decode cX6_at 18 = .ok (.aload_n 0, 1) := by decide +kernel
theorem dX6_at_19 : decode cX6_at 19 = .ok (.getfield 9, 3) := by decide +kernel
theorem dX6_at_22 : decode cX6_at 22 = .ok (.iload_n 1, 1) := by decide +kernel
theorem dX6_at_23 : decode cX6_at 23 = .ok (.caload, 1) := by decide +kernel
theorem dX6_at_24 : decode cX6_at 24 = .ok (.goto 4, 3) := by decide +kernel
theorem dX6_at_27 : decode cX6_at 27 = .ok (.iconst 0, 1) := by decide +kernel
theorem dX6_at_28 : decode cX6_at 28 = .ok (.ireturn, 1) := by decide +kernel
theorem dX6_digitAt_0 : decode cX6_digitAt 0 = .ok (.aload_n 0, 1) := by decide +kernel
theorem dX6_digitAt_1 : decode cX6_digitAt 1 = .ok (.iload_n 1, 1) := by decide +kernel
theorem dX6_digitAt_2 : decode cX6_digitAt 2 = .ok (.invokevirtual 19, 3) := by decide +kernel
theorem dX6_digitAt_5 : decode cX6_digitAt 5 = .ok (.istore_n 2, 1) := by decide +kernel
theorem dX6_digitAt_6 : decode cX6_digitAt 6 = .ok (.iload_n 2, 1) := by decide +kernel
theorem dX6_digitAt_7 : decode cX6_digitAt 7 = .ok (.bipush 48, 2) := by decide +kernel
theorem dX6_digitAt_9 : decode cX6_digitAt 9 = .ok (.if_icmp .lt 16, 3) := by decide +kernel
theorem dX6_digitAt_12 : decode cX6_digitAt 12 = .ok (.iload_n 2, 1) := by decide +kernel
theorem dX6_digitAt_13 : decode cX6_digitAt 13 = .ok (.bipush 57, 2) := by decide +kernel
theorem dX6_digitAt_15 : decode cX6_digitAt 15 = .ok (.if_icmp .gt 10, 3) := by decide +kernel
theorem dX6_digitAt_18 : decode cX6_digitAt 18 = .ok (.iload_n 2, 1) := by decide +kernel
theorem dX6_digitAt_19 : decode cX6_digitAt 19 = .ok (.bipush 48, 2) := by decide +kernel
theorem dX6_digitAt_21 : decode cX6_digitAt 21 = .ok (.isub, 1) := by decide +kernel
theorem dX6_digitAt_22 : decode cX6_digitAt 22 = .ok (.goto 4, 3) := by decide +kernel
theorem dX6_digitAt_25 : decode cX6_digitAt 25 = .ok (.iconst (-1), 1) := by decide +kernel
theorem dX6_digitAt_26 : decode cX6_digitAt 26 = .ok (.ireturn, 1) := by decide +kernel
theorem dX7_init_0 : decode cX7_init 0 = .ok (.aload_n 0, 1) := by decide +kernel
theorem dX7_init_1 : decode cX7_init 1 = .ok (.invokespecial 3, 3) := by decide +kernel
theorem dX7_init_4 : decode cX7_init 4 = .ok (.aload_n 0, 1) := by decide +kernel
theorem dX7_init_5 : decode cX7_init 5 = .ok (.bipush 10, 2) := by decide +kernel
theorem dX7_init_7 : decode cX7_init 7 = .ok (.newarray .int, 2) := by decide +kernel
theorem dX7_init_9 : decode cX7_init 9 = .ok (.putfield 9, 3) := by decide +kernel
theorem dX7_init_12 : decode cX7_init 12 = .ok (.aload_n 0, 1) := by decide +kernel
theorem dX7_init_13 : decode cX7_init 13 = .ok (.bipush 10, 2) := by decide +kernel
theorem dX7_init_15 : decode cX7_init 15 = .ok (.newarray .int, 2) := by decide +kernel
theorem dX7_init_17 : decode cX7_init 17 = .ok (.putfield 15, 3) := by decide +kernel
theorem dX7_init_20 : decode cX7_init 20 = .ok (.iconst 0, 1) := by decide +kernel
theorem dX7_init_21 : decode cX7_init 21 = .ok (.istore_n 1, 1) := by decide +kernel
theorem dX7_init_22 : decode cX7_init 22 = .ok (.iload_n 1, 1) := by decide +kernel
theorem dX7_init_23 : decode cX7_init 23 = .ok (.bipush 10, 2) := by decide +kernel
theorem dX7_init_25 : decode cX7_init 25 = .ok (.if_icmp .ge 34, 3) := by decide +kernel
theorem dX7_init_28 : decode cX7_init 28 = .ok (.aload_n 0, 1) := by decide +kernel
theorem dX7_init_29 : decode cX7_init 29 = .ok (.getfield 9, 3) := by decide +kernel
theorem dX7_init_32 : decode cX7_init 32 = .ok (.iload_n 1, 1) := by decide +kernel
theorem dX7_init_33 : decode cX7_init 33 = .ok (.sipush 200, 3) := by decide +kernel
theorem dX7_init_36 : decode cX7_init 36 = .ok (.bipush 20, 2) := by decide +kernel
theorem dX7_init_38 : decode cX7_init 38 = .ok (.iload_n 1, 1) := by decide +kernel
theorem dX7_init_39 : decode cX7_init 39 = .ok (.imul, 1) := by decide +kernel
theorem dX7_init_40 : decode cX7_init 40 = .ok (.isub, 1) := by decide +kernel
theorem dX7_init_41 : decode cX7_init 41 = .ok (.iastore, 1) := by decide +kernel
theorem dX7_init_42 : decode cX7_init 42 = .ok (.aload_n 0, 1) := by decide +kernel
theorem dX7_init_43 : decode cX7_init 43 = .ok (.getfield 15, 3) := by decide +kernel
theorem dX7_init_46 : decode cX7_init 46 = .ok (.iload_n 1, 1) := by decide +kernel
theorem dX7_init_47 : decode cX7_init 47 = .ok (.sipush 340, 3) := by decide +kernel
theorem dX7_init_50 : decode cX7_init 50 = .ok (.iload_n 1, 1) := by decide +kernel
theorem dX7_init_51 : decode cX7_init 51 = .ok (.iadd, 1) := by decide +kernel
theorem dX7_init_52 : decode cX7_init 52 = .ok (.iastore, 1) := by decide +kernel
theorem dX7_init_53 : decode cX7_init 53 = .ok (.iinc 1 1, 3) := by decide +kernel
theorem dX7_init_56 : decode cX7_init 56 = .ok (.goto (-34), 3) := by decide +kernel
theorem dX7_init_59 : decode cX7_init 59 = .ok (.return_, 1) := by decide +kernel
theorem dX7_copyFrom_0 : decode cX7_copyFrom 0 = .ok (.iconst 0, 1) := by decide +kernel
theorem dX7_copyFrom_1 : decode cX7_copyFrom 1 = .ok (.istore_n 2, 1) := by decide +kernel
theorem dX7_copyFrom_2 : decode cX7_copyFrom 2 = .ok (.iload_n 2, 1) := by decide +kernel
theorem dX7_copyFrom_3 : decode cX7_copyFrom 3 = .ok (.bipush 10, 2) := by decide +kernel
theorem dX7_copyFrom_5 : decode cX7_copyFrom 5 = .ok (.if_icmp .ge 33, 3) := by decide +kernel
theorem dX7_copyFrom_8 : decode cX7_copyFrom 8 = .ok (.aload_n 0, 1) := by decide +kernel
theorem dX7_copyFrom_9 : decode cX7_copyFrom 9 = .ok (.getfield 9, 3) := by decide +kernel
theorem dX7_copyFrom_12 : decode cX7_copyFrom 12 = .ok (.iload_n 2, 1) := by decide +kernel
theorem dX7_copyFrom_13 : decode cX7_copyFrom 13 = .ok (.aload_n 1, 1) := by decide +kernel
theorem dX7_copyFrom_14 : decode cX7_copyFrom 14 = .ok (.getfield 9, 3) := by decide +kernel
theorem dX7_copyFrom_17 : decode cX7_copyFrom 17 = .ok (.iload_n 2, 1) := by decide +kernel
theorem dX7_copyFrom_18 : decode cX7_copyFrom 18 = .ok (.iaload, 1) := by decide +kernel
theorem dX7_copyFrom_19 : decode cX7_copyFrom 19 = .ok (.iastore, 1) := by decide +kernel
theorem dX7_copyFrom_20 : decode cX7_copyFrom 20 = .ok (.aload_n 0, 1) := by decide +kernel
theorem dX7_copyFrom_21 : decode cX7_copyFrom 21 = .ok (.getfield 15, 3) := by decide +kernel
theorem dX7_copyFrom_24 : decode cX7_copyFrom 24 = .ok (.iload_n 2, 1) := by decide +kernel
theorem dX7_copyFrom_25 : decode cX7_copyFrom 25 = .ok (.aload_n 1, 1) := by decide +kernel
theorem dX7_copyFrom_26 : decode cX7_copyFrom 26 = .ok (.getfield 15, 3) := by decide +kernel
theorem dX7_copyFrom_29 : decode cX7_copyFrom 29 = .ok (.iload_n 2, 1) := by decide +kernel
theorem dX7_copyFrom_30 : decode cX7_copyFrom 30 = .ok (.iaload, 1) := by decide +kernel
theorem dX7_copyFrom_31 : decode cX7_copyFrom 31 = .ok (.iastore, 1) := by decide +kernel
theorem dX7_copyFrom_32 : decode cX7_copyFrom 32 = .ok (.iinc 2 1, 3) := by decide +kernel
theorem dX7_copyFrom_35 : decode cX7_copyFrom 35 = .ok (.goto (-33), 3) := by decide +kernel
theorem dX7_copyFrom_38 : decode cX7_copyFrom 38 = .ok (.return_, 1) := by decide +kernel
theorem dX7_has_0 : decode cX7_has 0 = .ok (.iload_n 1, 1) := by decide +kernel
theorem dX7_has_1 : decode cX7_has 1 = .ok (.ifCond .lt 13, 3) := by decide +kernel
theorem dX7_has_4 : decode cX7_has 4 = .ok (.iload_n 1, 1) := by decide +kernel
theorem dX7_has_5 : decode cX7_has 5 = .ok (.bipush 10, 2) := by decide +kernel
theorem dX7_has_7 : decode cX7_has 7 = .ok (.if_icmp .ge 7, 3) := by decide +kernel
theorem dX7_has_10 : decode cX7_has 10 = .ok (.iconst 1, 1) := by decide +kernel
theorem dX7_has_11 : decode cX7_has 11 = .ok (.goto 4, 3) := by decide +kernel
theorem dX7_has_14 : decode cX7_has 14 = .ok (.iconst 0, 1) := by decide +kernel
theorem dX7_has_15 : decode cX7_has 15 = .ok (.ireturn, 1) := by decide +kernel
theorem dX7_warmthIn_0 : decode cX7_warmthIn 0 = .ok (.aload_n 0, 1) := by decide +kernel
theorem dX7_warmthIn_1 : decode cX7_warmthIn 1 = .ok (.iload_n 1, 1) := by decide +kernel
theorem dX7_warmthIn_2 : decode cX7_warmthIn 2 = .ok (.invokevirtual 18, 3) := by decide +kernel
theorem dX7_warmthIn_5 : decode cX7_warmthIn 5 = .ok (.ifCond .eq 12, 3) := by decide +kernel
theorem dX7_warmthIn_8 : decode cX7_warmthIn 8 = .ok (.aload_n 0, 1) := by decide +kernel
theorem dX7_warmthIn_9 : decode cX7_warmthIn 9 = .ok (.getfield 9, 3) := by decide +kernel
theorem dX7_warmthIn_12 : decode cX7_warmthIn 12 = .ok (.iload_n 1, 1) := by decide +kernel
theorem dX7_warmthIn_13 : decode cX7_warmthIn 13 = .ok (.iaload, 1) := by decide +kernel
theorem dX7_warmthIn_14 : decode cX7_warmthIn 14 = .ok (.goto 4, 3) := by decide +kernel
theorem dX7_warmthIn_17 : decode cX7_warmthIn 17 = .ok (.iconst 0, 1) := by decide +kernel
theorem dX7_warmthIn_18 : decode cX7_warmthIn 18 = .ok (.ireturn, 1) := by decide +kernel
theorem dX7_saltIn_0 : decode cX7_saltIn 0 = .ok (.aload_n 0, 1) := by decide +kernel
theorem dX7_saltIn_1 : decode cX7_saltIn 1 = .ok (.iload_n 1, 1) := by decide +kernel
theorem dX7_saltIn_2 : decode cX7_saltIn 2 = .ok (.invokevirtual 18, 3) := by decide +kernel
theorem dX7_saltIn_5 : decode cX7_saltIn 5 = .ok (.ifCond .eq 12, 3) := by decide +kernel
theorem dX7_saltIn_8 : decode cX7_saltIn 8 = .ok (.aload_n 0, 1) := by decide +kernel
theorem dX7_saltIn_9 : decode cX7_saltIn 9 = .ok (.getfield 15, 3) := by decide +kernel
theorem dX7_saltIn_12 : decode cX7_saltIn 12 = .ok (.iload_n 1, 1) := by decide +kernel
theorem dX7_saltIn_13 : decode cX7_saltIn 13 = .ok (.iaload, 1) := by decide +kernel
theorem dX7_saltIn_14 : decode cX7_saltIn 14 = .ok (.goto 4, 3) := by decide +kernel
theorem dX7_saltIn_17 : decode cX7_saltIn 17 = .ok (.iconst 0, 1) := by decide +kernel
theorem dX7_saltIn_18 : decode cX7_saltIn 18 = .ok (.ireturn, 1) := by decide +kernel
theorem dX7_change_0 : decode cX7_change 0 = .ok (.aload_n 0, 1) := by decide +kernel
theorem dX7_change_1 : decode cX7_change 1 = .ok (.iload_n 1, 1) := by decide +kernel
theorem dX7_change_2 : decode cX7_change 2 = .ok (.invokevirtual 18, 3) := by decide +kernel
theorem dX7_change_5 : decode cX7_change 5 = .ok (.ifCond .ne 7, 3) := by decide +kernel
theorem dX7_change_8 : decode cX7_change 8 = .ok (.sipush (-1001), 3) := by decide +kernel
theorem dX7_change_11 : decode cX7_change 11 = .ok (.ireturn, 1) := by decide +kernel
theorem dX7_change_12 : decode cX7_change 12 = .ok (.iload_n 2, 1) := by decide +kernel
theorem dX7_change_13 : decode cX7_change 13 = .ok (.bipush (-20), 2) := by decide +kernel
theorem dX7_change_15 : decode cX7_change 15 = .ok (.if_icmp .lt 21, 3) := by decide +kernel
theorem dX7_change_18 : decode cX7_change 18 = .ok (.iload_n 2, 1) := by decide +kernel
theorem dX7_change_19 : decode cX7_change 19 = .ok (.sipush 300, 3) := by decide +kernel
theorem dX7_change_22 : decode cX7_change 22 = .ok (.if_icmp .gt 14, 3) := by decide +kernel
theorem dX7_change_25 : decode cX7_change 25 = .ok (.iload_n 3, 1) := by decide +kernel
theorem dX7_change_26 : decode cX7_change 26 = .ok (.ifCond .lt 10, 3) := by decide +kernel
theorem dX7_change_29 : decode cX7_change 29 = .ok (.iload_n 3, 1) := by decide +kernel
theorem dX7_change_30 : decode cX7_change 30 = .ok (.sipush 420, 3) := by decide +kernel
theorem dX7_change_33 : decode cX7_change 33 = .ok (.if_icmp .le 7, 3) := by decide +kernel
theorem dX7_change_36 : decode cX7_change 36 = .ok (.sipush (-1002), 3) := by decide +kernel
theorem dX7_change_39 : decode cX7_change 39 = .ok (.ireturn, 1) := by decide +kernel
theorem dX7_change_40 : decode cX7_change 40 = .ok (.aload_n 0, 1) := by decide +kernel
theorem dX7_change_41 : decode cX7_change 41 = .ok (.getfield 9, 3) := by decide +kernel
theorem dX7_change_44 : decode cX7_change 44 = .ok (.iload_n 1, 1) := by decide +kernel
theorem dX7_change_45 : decode cX7_change 45 = .ok (.iaload, 1) := by decide +kernel
theorem dX7_change_46 : decode cX7_change 46 = .ok (.istore 4, 2) := by decide +kernel
theorem dX7_change_48 : decode cX7_change 48 = .ok (.iload 4, 2) := by decide +kernel
theorem dX7_change_50 : decode cX7_change 50 = .ok (.iload_n 2, 1) := by decide +kernel
theorem dX7_change_51 : decode cX7_change 51 = .ok (.if_icmp .ne 17, 3) := by decide +kernel
theorem dX7_change_54 : decode cX7_change 54 = .ok (.aload_n 0, 1) := by decide +kernel
theorem dX7_change_55 : decode cX7_change 55 = .ok (.getfield 15, 3) := by decide +kernel
theorem dX7_change_58 : decode cX7_change 58 = .ok (.iload_n 1, 1) := by decide +kernel
theorem dX7_change_59 : decode cX7_change 59 = .ok (.iaload, 1) := by decide +kernel
theorem dX7_change_60 : decode cX7_change 60 = .ok (.iload_n 3, 1) := by decide +kernel
theorem dX7_change_61 : decode cX7_change 61 = .ok (.if_icmp .ne 7, 3) := by decide +kernel
theorem dX7_change_64 : decode cX7_change 64 = .ok (.sipush (-1005), 3) := by decide +kernel
theorem dX7_change_67 : decode cX7_change 67 = .ok (.ireturn, 1) := by decide +kernel
theorem dX7_change_68 : decode cX7_change 68 = .ok (.aload_n 0, 1) := by decide +kernel
theorem dX7_change_69 : decode cX7_change 69 = .ok (.getfield 9, 3) := by decide +kernel
theorem dX7_change_72 : decode cX7_change 72 = .ok (.iload_n 1, 1) := by decide +kernel
theorem dX7_change_73 : decode cX7_change 73 = .ok (.iload_n 2, 1) := by decide +kernel
theorem dX7_change_74 : decode cX7_change 74 = .ok (.iastore, 1) := by decide +kernel
theorem dX7_change_75 : decode cX7_change 75 = .ok (.aload_n 0, 1) := by decide +kernel
theorem dX7_change_76 : decode cX7_change 76 = .ok (.getfield 15, 3) := by decide +kernel
theorem dX7_change_79 : decode cX7_change 79 = .ok (.iload_n 1, 1) := by decide +kernel
theorem dX7_change_80 : decode cX7_change 80 = .ok (.iload_n 3, 1) := by decide +kernel
theorem dX7_change_81 : decode cX7_change 81 = .ok (.iastore, 1) := by decide +kernel
theorem dX7_change_82 : decode cX7_change 82 = .ok (.iload 4, 2) := by decide +kernel
theorem dX7_change_84 : decode cX7_change 84 = .ok (.ireturn, 1) := by decide +kernel
theorem dX8_init_0 : decode cX8_init 0 = .ok (.aload_n 0, 1) := by decide +kernel
theorem dX8_init_1 : decode cX8_init 1 = .ok (.invokespecial 1, 3) := by decide +kernel
theorem dX8_init_4 : decode cX8_init 4 = .ok (.aload_n 0, 1) := by decide +kernel
theorem dX8_init_5 : decode cX8_init 5 = .ok (.new 7, 3) := by decide +kernel
theorem dX8_init_8 : decode cX8_init 8 = .ok (.dup, 1) := by decide +kernel
theorem dX8_init_9 : decode cX8_init 9 = .ok (.invokespecial 9, 3) := by decide +kernel
theorem dX8_init_12 : decode cX8_init 12 = .ok (.putfield 10, 3) := by decide +kernel
theorem dX8_init_15 : decode cX8_init 15 = .ok (.aload_n 0, 1) := by decide +kernel
theorem dX8_init_16 : decode cX8_init 16 = .ok (.new 7, 3) := by decide +kernel
theorem dX8_init_19 : decode cX8_init 19 = .ok (.dup, 1) := by decide +kernel
theorem dX8_init_20 : decode cX8_init 20 = .ok (.invokespecial 9, 3) := by decide +kernel
theorem dX8_init_23 : decode cX8_init 23 = .ok (.putfield 16, 3) := by decide +kernel
theorem dX8_init_26 : decode cX8_init 26 = .ok (.aload_n 0, 1) := by decide +kernel
theorem dX8_init_27 : decode cX8_init 27 = .ok (.new 7, 3) := by decide +kernel
theorem dX8_init_30 : decode cX8_init 30 = .ok (.dup, 1) := by decide +kernel
theorem dX8_init_31 : decode cX8_init 31 = .ok (.invokespecial 9, 3) := by decide +kernel
theorem dX8_init_34 : decode cX8_init 34 = .ok (.putfield 19, 3) := by decide +kernel
theorem dX8_init_37 : decode cX8_init 37 = .ok (.aload_n 0, 1) := by decide +kernel
theorem dX8_init_38 : decode cX8_init 38 = .ok (.new 7, 3) := by decide +kernel
theorem dX8_init_41 : decode cX8_init 41 = .ok (.dup, 1) := by decide +kernel
theorem dX8_init_42 : decode cX8_init 42 = .ok (.invokespecial 9, 3) := by decide +kernel
theorem dX8_init_45 : decode cX8_init 45 = .ok (.putfield 22, 3) := by decide +kernel
theorem dX8_init_48 : decode cX8_init 48 = .ok (.aload_n 0, 1) := by decide +kernel
theorem dX8_init_49 : decode cX8_init 49 = .ok (.new 25, 3) := by decide +kernel
theorem dX8_init_52 : decode cX8_init 52 = .ok (.dup, 1) := by decide +kernel
theorem dX8_init_53 : decode cX8_init 53 = .ok (.invokespecial 27, 3) := by decide +kernel
theorem dX8_init_56 : decode cX8_init 56 = .ok (.putfield 28, 3) := by decide +kernel
theorem dX8_init_59 : decode cX8_init 59 = .ok (.aload_n 0, 1) := by decide +kernel
theorem dX8_init_60 : decode cX8_init 60 = .ok (.new 32, 3) := by decide +kernel
theorem dX8_init_63 : decode cX8_init 63 = .ok (.dup, 1) := by decide +kernel
theorem dX8_init_64 : decode cX8_init 64 = .ok (.invokespecial 34, 3) := by decide +kernel
theorem dX8_init_67 : decode cX8_init 67 = .ok (.putfield 35, 3) := by decide +kernel
theorem dX8_init_70 : decode cX8_init 70 = .ok (.aload_n 0, 1) := by decide +kernel
theorem dX8_init_71 : decode cX8_init 71 = .ok (.new 39, 3) := by decide +kernel
theorem dX8_init_74 : decode cX8_init 74 = .ok (.dup, 1) := by decide +kernel
theorem dX8_init_75 : decode cX8_init 75 = .ok (.invokespecial 41, 3) := by decide +kernel
theorem dX8_init_78 : decode cX8_init 78 = .ok (.putfield 42, 3) := by decide +kernel
theorem dX8_init_81 : decode cX8_init 81 = .ok (.return_, 1) := by decide +kernel
theorem dX8_pay_0 : decode cX8_pay 0 = .ok (.aload_n 0, 1) := by decide +kernel
theorem dX8_pay_1 : decode cX8_pay 1 = .ok (.getfield 16, 3) := by decide +kernel
theorem dX8_pay_4 : decode cX8_pay 4 = .ok (.aload_n 0, 1) := by decide +kernel
theorem dX8_pay_5 : decode cX8_pay 5 = .ok (.getfield 10, 3) := by decide +kernel
theorem dX8_pay_8 : decode cX8_pay 8 = .ok (.invokevirtual 46, 3) := by decide +kernel
theorem dX8_pay_11 : decode cX8_pay 11 = .ok (.aload_n 0, 1) := by decide +kernel
theorem dX8_pay_12 : decode cX8_pay 12 = .ok (.aload_n 0, 1) := by decide +kernel
theorem dX8_pay_13 : decode cX8_pay 13 = .ok (.getfield 10, 3) := by decide +kernel
theorem dX8_pay_16 : decode cX8_pay 16 = .ok (.iload_n 1, 1) := by decide +kernel
theorem dX8_pay_17 : decode cX8_pay 17 = .ok (.invokevirtual 50, 3) := by decide +kernel
theorem dX8_pay_20 : decode cX8_pay 20 = .ok (.invokevirtual 54, 3) := by decide +kernel
theorem dX8_pay_23 : decode cX8_pay 23 = .ok (.ireturn, 1) := by decide +kernel
theorem dX8_setSlope_0 : decode cX8_setSlope 0 = .ok (.aload_n 0, 1) := by decide +kernel
theorem dX8_setSlope_1 : decode cX8_setSlope 1 = .ok (.getfield 16, 3) := by decide +kernel
theorem dX8_setSlope_4 : decode cX8_setSlope 4 = .ok (.aload_n 0, 1) := by decide +kernel
theorem dX8_setSlope_5 : decode cX8_setSlope 5 = .ok (.getfield 10, 3) := by decide +kernel
theorem dX8_setSlope_8 : decode cX8_setSlope 8 = .ok (.invokevirtual 46, 3) := by decide +kernel
theorem dX8_setSlope_11 : decode cX8_setSlope 11 = .ok (.aload_n 0, 1) := by decide +kernel
theorem dX8_setSlope_12 : decode cX8_setSlope 12 = .ok (.aload_n 0, 1) := by decide +kernel
theorem dX8_setSlope_13 : decode cX8_setSlope 13 = .ok (.getfield 10, 3) := by decide +kernel
theorem dX8_setSlope_16 : decode cX8_setSlope 16 = .ok (.iload_n 1, 1) := by decide +kernel
theorem dX8_setSlope_17 : decode cX8_setSlope 17 = .ok (.invokevirtual 57, 3) := by decide +kernel
theorem dX8_setSlope_20 : decode cX8_setSlope 20 = .ok (.invokevirtual 54, 3) := by decide +kernel
theorem dX8_setSlope_23 : decode cX8_setSlope 23 = .ok (.ireturn, 1) := by decide +kernel
theorem dX8_weight_0 : decode cX8_weight 0 = .ok (.aload_n 0, 1) := by decide +kernel
theorem dX8_weight_1 : decode cX8_weight 1 = .ok (.getfield 16, 3) := by decide +kernel
theorem dX8_weight_4 : decode cX8_weight 4 = .ok (.aload_n 0, 1) := by decide +kernel
theorem dX8_weight_5 : decode cX8_weight 5 = .ok (.getfield 10, 3) := by decide +kernel
theorem dX8_weight_8 : decode cX8_weight 8 = .ok (.invokevirtual 46, 3) := by decide +kernel
theorem dX8_weight_11 : decode cX8_weight 11 = .ok (.aload_n 0, 1) := by decide +kernel
theorem dX8_weight_12 : decode cX8_weight 12 = .ok (.aload_n 0, 1) := by decide +kernel
theorem dX8_weight_13 : decode cX8_weight 13 = .ok (.getfield 10, 3) := by decide +kernel
theorem dX8_weight_16 : decode cX8_weight 16 = .ok (.iload_n 1, 1) := by decide +kernel
theorem dX8_weight_17 : decode cX8_weight 17 = .ok (.invokevirtual 60, 3) := by decide +kernel
theorem dX8_weight_20 : decode cX8_weight 20 = .ok (.invokevirtual 54, 3) := by decide +kernel
theorem dX8_weight_23 : decode cX8_weight 23 = .ok (.ireturn, 1) := by decide +kernel
theorem dX8_clamp_0 : decode cX8_clamp 0 = .ok (.aload_n 0, 1) := by decide +kernel
theorem dX8_clamp_1 : decode cX8_clamp 1 = .ok (.getfield 16, 3) := by decide +kernel
theorem dX8_clamp_4 : decode cX8_clamp 4 = .ok (.aload_n 0, 1) := by decide +kernel
theorem dX8_clamp_5 : decode cX8_clamp 5 = .ok (.getfield 10, 3) := by decide +kernel
theorem dX8_clamp_8 : decode cX8_clamp 8 = .ok (.invokevirtual 46, 3) := by decide +kernel
theorem dX8_clamp_11 : decode cX8_clamp 11 = .ok (.aload_n 0, 1) := by decide +kernel
theorem dX8_clamp_12 : decode cX8_clamp 12 = .ok (.aload_n 0, 1) := by decide +kernel
theorem dX8_clamp_13 : decode cX8_clamp 13 = .ok (.getfield 10, 3) := by decide +kernel
theorem dX8_clamp_16 : decode cX8_clamp 16 = .ok (.iload_n 1, 1) := by decide +kernel
theorem dX8_clamp_17 : decode cX8_clamp 17 = .ok (.invokevirtual 64, 3) := by decide +kernel
theorem dX8_clamp_20 : decode cX8_clamp 20 = .ok (.invokevirtual 54, 3) := by decide +kernel
theorem dX8_clamp_23 : decode cX8_clamp 23 = .ok (.ireturn, 1) := by decide +kernel
theorem dX8_takeOff_0 : decode cX8_takeOff 0 = .ok (.aload_n 0, 1) := by decide +kernel
theorem dX8_takeOff_1 : decode cX8_takeOff 1 = .ok (.getfield 16, 3) := by decide +kernel
theorem dX8_takeOff_4 : decode cX8_takeOff 4 = .ok (.aload_n 0, 1) := by decide +kernel
theorem dX8_takeOff_5 : decode cX8_takeOff 5 = .ok (.getfield 10, 3) := by decide +kernel
theorem dX8_takeOff_8 : decode cX8_takeOff 8 = .ok (.invokevirtual 46, 3) := by decide +kernel
theorem dX8_takeOff_11 : decode cX8_takeOff 11 = .ok (.aload_n 0, 1) := by decide +kernel
theorem dX8_takeOff_12 : decode cX8_takeOff 12 = .ok (.aload_n 0, 1) := by decide +kernel
theorem dX8_takeOff_13 : decode cX8_takeOff 13 = .ok (.getfield 10, 3) := by decide +kernel
theorem dX8_takeOff_16 : decode cX8_takeOff 16 = .ok (.iload_n 1, 1) := by decide +kernel
theorem dX8_takeOff_17 : decode cX8_takeOff 17 = .ok (.invokevirtual 67, 3) := by decide +kernel
theorem dX8_takeOff_20 : decode cX8_takeOff 20 = .ok (.invokevirtual 54, 3) := by decide +kernel
theorem dX8_takeOff_23 : decode cX8_takeOff 23 = .ok (.ireturn, 1) := by decide +kernel
theorem dX8_send_0 : decode cX8_send 0 = .ok (.aload_n 0, 1) := by decide +kernel
theorem dX8_send_1 : decode cX8_send 1 = .ok (.getfield 16, 3) := by decide +kernel
theorem dX8_send_4 : decode cX8_send 4 = .ok (.aload_n 0, 1) := by decide +kernel
theorem dX8_send_5 : decode cX8_send 5 = .ok (.getfield 10, 3) := by decide +kernel
theorem dX8_send_8 : decode cX8_send 8 = .ok (.invokevirtual 46, 3) := by decide +kernel
theorem dX8_send_11 : decode cX8_send 11 = .ok (.aload_n 0, 1) := by decide +kernel
theorem dX8_send_12 : decode cX8_send 12 = .ok (.aload_n 0, 1) := by decide +kernel
theorem dX8_send_13 : decode cX8_send 13 = .ok (.getfield 10, 3) := by decide +kernel
theorem dX8_send_16 : decode cX8_send 16 = .ok (.invokevirtual 70, 3) := by decide +kernel
theorem dX8_send_19 : decode cX8_send 19 = .ok (.invokevirtual 54, 3) := by decide +kernel
theorem dX8_send_22 : decode cX8_send 22 = .ok (.ireturn, 1) := by decide +kernel
theorem dX8_pass_0 : decode cX8_pass 0 = .ok (.aload_n 0, 1) := by decide +kernel
theorem dX8_pass_1 : decode cX8_pass 1 = .ok (.getfield 16, 3) := by decide +kernel
theorem dX8_pass_4 : decode cX8_pass 4 = .ok (.aload_n 0, 1) := by decide +kernel
theorem dX8_pass_5 : decode cX8_pass 5 = .ok (.getfield 10, 3) := by decide +kernel
theorem dX8_pass_8 : decode cX8_pass 8 = .ok (.invokevirtual 46, 3) := by decide +kernel
theorem dX8_pass_11 : decode cX8_pass 11 = .ok (.aload_n 0, 1) := by decide +kernel
theorem dX8_pass_12 : decode cX8_pass 12 = .ok (.aload_n 0, 1) := by decide +kernel
theorem dX8_pass_13 : decode cX8_pass 13 = .ok (.getfield 10, 3) := by decide +kernel
theorem dX8_pass_16 : decode cX8_pass 16 = .ok (.iload_n 1, 1) := by decide +kernel
theorem dX8_pass_17 : decode cX8_pass 17 = .ok (.invokevirtual 74, 3) := by decide +kernel
theorem dX8_pass_20 : decode cX8_pass 20 = .ok (.invokevirtual 54, 3) := by decide +kernel
theorem dX8_pass_23 : decode cX8_pass 23 = .ok (.ireturn, 1) := by decide +kernel
theorem dX8_setWater_0 : decode cX8_setWater 0 = .ok (.aload_n 0, 1) := by decide +kernel
theorem dX8_setWater_1 : decode cX8_setWater 1 = .ok (.getfield 16, 3) := by decide +kernel
theorem dX8_setWater_4 : decode cX8_setWater 4 = .ok (.aload_n 0, 1) := by decide +kernel
theorem dX8_setWater_5 : decode cX8_setWater 5 = .ok (.getfield 10, 3) := by decide +kernel
theorem dX8_setWater_8 : decode cX8_setWater 8 = .ok (.invokevirtual 46, 3) := by decide +kernel
theorem dX8_setWater_11 : decode cX8_setWater 11 = .ok (.aload_n 0, 1) := by decide +kernel
theorem dX8_setWater_12 : decode cX8_setWater 12 = .ok (.aload_n 0, 1) := by decide +kernel
theorem dX8_setWater_13 : decode cX8_setWater 13 = .ok (.getfield 10, 3) := by decide +kernel
theorem dX8_setWater_16 : decode cX8_setWater 16 = .ok (.getfield 77, 3) := by decide +kernel
theorem dX8_setWater_19 : decode cX8_setWater 19 = .ok (.iload_n 1, 1) := by decide +kernel
theorem dX8_setWater_20 : decode cX8_setWater 20 = .ok (.iload_n 2, 1) := by decide +kernel
theorem dX8_setWater_21 : decode cX8_setWater 21 = .ok (.iload_n 3, 1) := by decide +kernel
theorem dX8_setWater_22 : decode cX8_setWater 22 = .ok (.invokevirtual 81, 3) := by decide +kernel
theorem dX8_setWater_25 : decode cX8_setWater 25 = .ok (.invokevirtual 54, 3) := by decide +kernel
theorem dX8_setWater_28 : decode cX8_setWater 28 = .ok (.ireturn, 1) := by decide +kernel
theorem dX8_set_0 : decode cX8_set 0 = .ok (.aload_n 0, 1) := by decide +kernel
theorem dX8_set_1 : decode cX8_set 1 = .ok (.getfield 16, 3) := by decide +kernel
theorem dX8_set_4 : decode cX8_set 4 = .ok (.aload_n 0, 1) := by decide +kernel
theorem dX8_set_5 : decode cX8_set 5 = .ok (.getfield 10, 3) := by decide +kernel
theorem dX8_set_8 : decode cX8_set 8 = .ok (.invokevirtual 46, 3) := by decide +kernel
theorem dX8_set_11 : decode cX8_set 11 = .ok (.aload_n 0, 1) := by decide +kernel
theorem dX8_set_12 : decode cX8_set 12 = .ok (.aload_n 0, 1) := by decide +kernel
theorem dX8_set_13 : decode cX8_set 13 = .ok (.getfield 10, 3) := by decide +kernel
theorem dX8_set_16 : decode cX8_set 16 = .ok (.iload_n 1, 1) := by decide +kernel
theorem dX8_set_17 : decode cX8_set 17 = .ok (.iload_n 2, 1) := by decide +kernel
theorem dX8_set_18 : decode cX8_set 18 = .ok (.invokevirtual 87, 3) := by decide +kernel
theorem dX8_set_21 : decode cX8_set 21 = .ok (.invokevirtual 54, 3) := by decide +kernel
theorem dX8_set_24 : decode cX8_set 24 = .ok (.ireturn, 1) := by decide +kernel
theorem dX8_type_0 : decode cX8_type 0 = .ok (.aload_n 0, 1) := by decide +kernel
theorem dX8_type_1 : decode cX8_type 1 = .ok (.getfield 35, 3) := by decide +kernel
theorem dX8_type_4 : decode cX8_type 4 = .ok (.iload_n 1, 1) := by decide +kernel
theorem dX8_type_5 : decode cX8_type 5 = .ok (.invokevirtual 91, 3) := by decide +kernel
theorem dX8_type_8 : decode cX8_type 8 = .ok (.ifCond .eq 13, 3) := by decide +kernel
theorem dX8_type_11 : decode cX8_type 11 = .ok (.aload_n 0, 1) := by decide +kernel
theorem dX8_type_12 : decode cX8_type 12 = .ok (.getfield 35, 3) := by decide +kernel
theorem dX8_type_15 : decode cX8_type 15 = .ok (.getfield 95, 3) := by decide +kernel
theorem dX8_type_18 : decode cX8_type 18 = .ok (.goto 6, 3) := by decide +kernel
theorem dX8_type_21 : decode cX8_type 21 = .ok (.sipush (-1003), 3) := by decide +kernel
theorem dX8_type_24 : decode cX8_type 24 = .ok (.ireturn, 1) := by decide +kernel
theorem dX8_clearText_0 : decode cX8_clearText 0 = .ok (.aload_n 0, 1) := by decide +kernel
theorem dX8_clearText_1 : decode cX8_clearText 1 = .ok (.getfield 35, 3) := by decide +kernel
theorem dX8_clearText_4 : decode cX8_clearText 4 = .ok (.getfield 95, 3) := by decide +kernel
theorem dX8_clearText_7 : decode cX8_clearText 7 = .ok (.istore_n 1, 1) := by decide +kernel
theorem dX8_clearText_8 : decode cX8_clearText 8 = .ok (.aload_n 0, 1) := by decide +kernel
theorem dX8_clearText_9 : decode cX8_clearText 9 = .ok (.getfield 35, 3) := by decide +kernel
theorem dX8_clearText_12 : decode cX8_clearText 12 = .ok (.iconst 0, 1) := by decide +kernel
theorem dX8_clearText_13 : decode cX8_clearText 13 = .ok (.putfield 95, 3) := by decide +kernel
theorem dX8_clearText_16 : decode cX8_clearText 16 = .ok (.iload_n 1, 1) := by decide +kernel
theorem dX8_clearText_17 : decode cX8_clearText 17 = .ok (.ireturn, 1) := by decide +kernel
theorem dX8_perform_0 : decode cX8_perform 0 = .ok (.aload_n 0, 1) := by decide +kernel
theorem dX8_perform_1 : decode cX8_perform 1 = .ok (.getfield 42, 3) := by decide +kernel
theorem dX8_perform_4 : decode cX8_perform 4 = .ok (.aload_n 0, 1) := by decide +kernel
theorem dX8_perform_5 : decode cX8_perform 5 = .ok (.getfield 35, 3) := by decide +kernel
theorem dX8_perform_8 : decode cX8_perform 8 = .ok (.invokevirtual 99, 3) := by decide +kernel
theorem dX8_perform_11 : decode cX8_perform 11 = .ok (.istore_n 1, 1) := by decide +kernel
theorem dX8_perform_12 : decode cX8_perform 12 = .ok (.iload_n 1, 1) := by decide +kernel
theorem dX8_perform_13 : decode cX8_perform 13 = .ok (.iconst (-1), 1) := by decide +kernel
theorem dX8_perform_14 : decode cX8_perform 14 = .ok (.if_icmp .eq 9, 3) := by decide +kernel
theorem dX8_perform_17 : decode cX8_perform 17 = .ok (.sipush (-1100), 3) := by decide +kernel
theorem dX8_perform_20 : decode cX8_perform 20 = .ok (.iload_n 1, 1) := by decide +kernel
theorem dX8_perform_21 : decode cX8_perform 21 = .ok (.isub, 1) := by decide +kernel
theorem dX8_perform_22 : decode cX8_perform 22 = .ok (.ireturn, 1) := by decide +kernel
theorem dX8_perform_23 : decode cX8_perform 23 = .ok (.aload_n 0, 1) := by decide +kernel
theorem dX8_perform_24 : decode cX8_perform 24 = .ok (.getfield 16, 3) := by decide +kernel
theorem dX8_perform_27 : decode cX8_perform 27 = .ok (.aload_n 0, 1) := by decide +kernel
theorem dX8_perform_28 : decode cX8_perform 28 = .ok (.getfield 10, 3) := by decide +kernel
theorem dX8_perform_31 : decode cX8_perform 31 = .ok (.invokevirtual 46, 3) := by decide +kernel
theorem dX8_perform_34 : decode cX8_perform 34 = .ok (.iconst 0, 1) := by decide +kernel
theorem dX8_perform_35 : decode cX8_perform 35 = .ok (.istore_n 2, 1) := by decide +kernel
theorem dX8_perform_36 : decode cX8_perform 36 = .ok (.iload_n 2, 1) := by decide +kernel
theorem dX8_perform_37 : decode cX8_perform 37 = .ok (.aload_n 0, 1) := by decide +kernel
theorem dX8_perform_38 : decode cX8_perform 38 = .ok (.getfield 42, 3) := by decide +kernel
theorem dX8_perform_41 : decode cX8_perform 41 = .ok (.getfield 103, 3) := by decide +kernel
theorem dX8_perform_44 : decode cX8_perform 44 = .ok (.if_icmp .ge 65, 3) := by decide +kernel
theorem dX8_perform_47 : decode cX8_perform 47 = .ok (.aload_n 0, 1) := by decide +kernel
theorem dX8_perform_48 : decode cX8_perform 48 = .ok (.aload_n 0, 1) := by decide +kernel
theorem dX8_perform_49 : decode cX8_perform 49 = .ok (.getfield 42, 3) := by decide +kernel
theorem dX8_perform_52 : decode cX8_perform 52 = .ok (.iload_n 2, 1) := by decide +kernel
theorem dX8_perform_53 : decode cX8_perform 53 = .ok (.invokevirtual 106, 3) := by decide +kernel
theorem dX8_perform_56 : decode cX8_perform 56 = .ok (.aload_n 0, 1) := by decide +kernel
theorem dX8_perform_57 : decode cX8_perform 57 = .ok (.getfield 42, 3) := by decide +kernel
theorem dX8_perform_60 : decode cX8_perform 60 = .ok (.iload_n 2, 1) := by decide +kernel
theorem dX8_perform_61 : decode cX8_perform 61 = .ok (.invokevirtual 110, 3) := by decide +kernel
theorem dX8_perform_64 : decode cX8_perform 64 = .ok (.invokevirtual 113, 3) := by decide +kernel
theorem dX8_perform_67 : decode cX8_perform 67 = .ok (.istore_n 3, 1) := by decide +kernel
theorem dX8_perform_68 : decode cX8_perform 68 = .ok (.iload_n 3, 1) := by decide +kernel
theorem dX8_perform_69 : decode cX8_perform 69 = .ok (.invokestatic 117, 3) := by decide +kernel
theorem dX8_perform_72 : decode cX8_perform 72 = .ok (.ifCond .ne 31, 3) := by decide +kernel
theorem dX8_perform_75 : decode cX8_perform 75 = .ok (.iload_n 3, 1) := by decide +kernel
theorem dX8_perform_76 : decode cX8_perform 76 = .ok (.sipush (-1005), 3) := by decide +kernel
theorem dX8_perform_79 : decode cX8_perform 79 = .ok (.if_icmp .eq 24, 3) := by decide +kernel
theorem dX8_perform_82 : decode cX8_perform 82 = .ok (.aload_n 0, 1) := by decide +kernel
theorem dX8_perform_83 : decode cX8_perform 83 = .ok (.getfield 10, 3) := by decide +kernel
theorem dX8_perform_86 : decode cX8_perform 86 = .ok (.aload_n 0, 1) := by decide +kernel
theorem dX8_perform_87 : decode cX8_perform 87 = .ok (.getfield 16, 3) := by decide +kernel
theorem dX8_perform_90 : decode cX8_perform 90 = .ok (.invokevirtual 46, 3) := by decide +kernel
theorem dX8_perform_93 : decode cX8_perform 93 = .ok (.aload_n 0, 1) := by decide +kernel
theorem dX8_perform_94 : decode cX8_perform 94 = .ok (.iload_n 2, 1) := by decide +kernel
theorem dX8_perform_95 : decode cX8_perform 95 = .ok (.iload_n 3, 1) := by decide +kernel
theorem dX8_perform_96 : decode cX8_perform 96 = .ok (.invokevirtual 121, 3) := by decide +kernel
theorem dX8_perform_99 : decode cX8_perform 99 = .ok (.sipush (-1004), 3) := by decide +kernel
theorem dX8_perform_102 : decode cX8_perform 102 = .ok (.ireturn, 1) := by decide +kernel
theorem dX8_perform_103 : decode cX8_perform 103 = .ok (.iinc 2 1, 3) := by decide +kernel
theorem dX8_perform_106 : decode cX8_perform 106 = .ok (.goto (-70), 3) := by decide +kernel
theorem dX8_perform_109 : decode cX8_perform 109 = .ok (.aload_n 0, 1) := by decide +kernel
theorem dX8_perform_110 : decode cX8_perform 110 = .ok (.getfield 28, 3) := by decide +kernel
theorem dX8_perform_113 : decode cX8_perform 113 = .ok (.aload_n 0, 1) := by decide +kernel
theorem dX8_perform_114 : decode cX8_perform 114 = .ok (.getfield 16, 3) := by decide +kernel
theorem dX8_perform_117 : decode cX8_perform 117 = .ok (.invokevirtual 125, 3) := by decide +kernel
theorem dX8_perform_120 : decode cX8_perform 120 = .ok (.aload_n 0, 1) := by decide +kernel
theorem dX8_perform_121 : decode cX8_perform 121 = .ok (.getfield 42, 3) := by decide +kernel
theorem dX8_perform_124 : decode cX8_perform 124 = .ok (.getfield 103, 3) := by decide +kernel
theorem dX8_perform_127 : decode cX8_perform 127 = .ok (.ireturn, 1) := by decide +kernel
theorem dX8_stopped_0 : decode cX8_stopped 0 = .ok (.iload_n 1, 1) := by decide +kernel
theorem dX8_stopped_1 : decode cX8_stopped 1 = .ok (.ifCond .lt 8, 3) := by decide +kernel
theorem dX8_stopped_4 : decode cX8_stopped 4 = .ok (.iload_n 1, 1) := by decide +kernel
theorem dX8_stopped_5 : decode cX8_stopped 5 = .ok (.iconst 1, 1) := by decide +kernel
theorem dX8_stopped_6 : decode cX8_stopped 6 = .ok (.if_icmp .le 7, 3) := by decide +kernel
theorem dX8_stopped_9 : decode cX8_stopped 9 = .ok (.sipush (-1002), 3) := by decide +kernel
theorem dX8_stopped_12 : decode cX8_stopped 12 = .ok (.ireturn, 1) := by decide +kernel
theorem dX8_stopped_13 : decode cX8_stopped 13 = .ok (.aload_n 0, 1) := by decide +kernel
theorem dX8_stopped_14 : decode cX8_stopped 14 = .ok (.getfield 128, 3) := by decide +kernel
theorem dX8_stopped_17 : decode cX8_stopped 17 = .ok (.ifCond .ne 7, 3) := by decide +kernel
theorem dX8_stopped_20 : decode cX8_stopped 20 = .ok (.sipush (-1005), 3) := by decide +kernel
theorem dX8_stopped_23 : decode cX8_stopped 23 = .ok (.ireturn, 1) := by decide +kernel
theorem dX8_stopped_24 : decode cX8_stopped 24 = .ok (.iload_n 1, 1) := by decide +kernel
theorem dX8_stopped_25 : decode cX8_stopped 25 = .ok (.ifCond .ne 10, 3) := by decide +kernel
theorem dX8_stopped_28 : decode cX8_stopped 28 = .ok (.aload_n 0, 1) := by decide +kernel
theorem dX8_stopped_29 : decode cX8_stopped 29 = .ok (.getfield 132, 3) := by decide +kernel
theorem dX8_stopped_32 : decode cX8_stopped 32 = .ok (.goto 7, 3) := by decide +kernel
theorem dX8_stopped_35 : decode cX8_stopped 35 = .ok (.aload_n 0, 1) := by decide +kernel
theorem dX8_stopped_36 : decode cX8_stopped 36 = .ok (.getfield 135, 3) := by decide +kernel
theorem dX8_stopped_39 : decode cX8_stopped 39 = .ok (.ireturn, 1) := by decide +kernel
theorem dX8_undo_0 : decode cX8_undo 0 = .ok (.aload_n 0, 1) := by decide +kernel
theorem dX8_undo_1 : decode cX8_undo 1 = .ok (.getfield 28, 3) := by decide +kernel
theorem dX8_undo_4 : decode cX8_undo 4 = .ok (.aload_n 0, 1) := by decide +kernel
theorem dX8_undo_5 : decode cX8_undo 5 = .ok (.getfield 10, 3) := by decide +kernel
theorem dX8_undo_8 : decode cX8_undo 8 = .ok (.invokevirtual 138, 3) := by decide +kernel
theorem dX8_undo_11 : decode cX8_undo 11 = .ok (.ifCond .eq 13, 3) := by decide +kernel
theorem dX8_undo_14 : decode cX8_undo 14 = .ok (.aload_n 0, 1) := by decide +kernel
theorem dX8_undo_15 : decode cX8_undo 15 = .ok (.getfield 28, 3) := by decide +kernel
theorem dX8_undo_18 : decode cX8_undo 18 = .ok (.getfield 142, 3) := by decide +kernel
theorem dX8_undo_21 : decode cX8_undo 21 = .ok (.goto 6, 3) := by decide +kernel
theorem dX8_undo_24 : decode cX8_undo 24 = .ok (.sipush (-1005), 3) := by decide +kernel
theorem dX8_undo_27 : decode cX8_undo 27 = .ok (.ireturn, 1) := by decide +kernel
theorem dX8_keep_0 : decode cX8_keep 0 = .ok (.aload_n 0, 1) := by decide +kernel
theorem dX8_keep_1 : decode cX8_keep 1 = .ok (.getfield 22, 3) := by decide +kernel
theorem dX8_keep_4 : decode cX8_keep 4 = .ok (.aload_n 0, 1) := by decide +kernel
theorem dX8_keep_5 : decode cX8_keep 5 = .ok (.getfield 10, 3) := by decide +kernel
theorem dX8_keep_8 : decode cX8_keep 8 = .ok (.invokevirtual 46, 3) := by decide +kernel
theorem dX8_keep_11 : decode cX8_keep 11 = .ok (.aload_n 0, 1) := by decide +kernel
theorem dX8_keep_12 : decode cX8_keep 12 = .ok (.iconst 1, 1) := by decide +kernel
theorem dX8_keep_13 : decode cX8_keep 13 = .ok (.putfield 145, 3) := by decide +kernel
theorem dX8_keep_16 : decode cX8_keep 16 = .ok (.aload_n 0, 1) := by decide +kernel
theorem dX8_keep_17 : decode cX8_keep 17 = .ok (.getfield 10, 3) := by decide +kernel
theorem dX8_keep_20 : decode cX8_keep 20 = .ok (.getfield 148, 3) := by decide +kernel
theorem dX8_keep_23 : decode cX8_keep 23 = .ok (.ireturn, 1) := by decide +kernel
theorem dX8_restore_0 : decode cX8_restore 0 = .ok (.aload_n 0, 1) := by decide +kernel
theorem dX8_restore_1 : decode cX8_restore 1 = .ok (.getfield 145, 3) := by decide +kernel
theorem dX8_restore_4 : decode cX8_restore 4 = .ok (.ifCond .ne 7, 3) := by decide +kernel
theorem dX8_restore_7 : decode cX8_restore 7 = .ok (.sipush (-1005), 3) := by decide +kernel
theorem dX8_restore_10 : decode cX8_restore 10 = .ok (.ireturn, 1) := by decide +kernel
theorem dX8_restore_11 : decode cX8_restore 11 = .ok (.aload_n 0, 1) := by decide +kernel
theorem dX8_restore_12 : decode cX8_restore 12 = .ok (.getfield 28, 3) := by decide +kernel
theorem dX8_restore_15 : decode cX8_restore 15 = .ok (.aload_n 0, 1) := by decide +kernel
theorem dX8_restore_16 : decode cX8_restore 16 = .ok (.getfield 10, 3) := by decide +kernel
theorem dX8_restore_19 : decode cX8_restore 19 = .ok (.invokevirtual 125, 3) := by decide +kernel
theorem dX8_restore_22 : decode cX8_restore 22 = .ok (.aload_n 0, 1) := by decide +kernel
theorem dX8_restore_23 : decode cX8_restore 23 = .ok (.getfield 10, 3) := by decide +kernel
theorem dX8_restore_26 : decode cX8_restore 26 = .ok (.aload_n 0, 1) := by decide +kernel
theorem dX8_restore_27 : decode cX8_restore 27 = .ok (.getfield 22, 3) := by decide +kernel
theorem dX8_restore_30 : decode cX8_restore 30 = .ok (.invokevirtual 46, 3) := by decide +kernel
theorem dX8_restore_33 : decode cX8_restore 33 = .ok (.aload_n 0, 1) := by decide +kernel
theorem dX8_restore_34 : decode cX8_restore 34 = .ok (.getfield 10, 3) := by decide +kernel
theorem dX8_restore_37 : decode cX8_restore 37 = .ok (.getfield 148, 3) := by decide +kernel
theorem dX8_restore_40 : decode cX8_restore 40 = .ok (.ireturn, 1) := by decide +kernel
theorem dX8_bottle_0 : decode cX8_bottle 0 = .ok (.aload_n 0, 1) := by decide +kernel
theorem dX8_bottle_1 : decode cX8_bottle 1 = .ok (.getfield 10, 3) := by decide +kernel
theorem dX8_bottle_4 : decode cX8_bottle 4 = .ok (.iload_n 1, 1) := by decide +kernel
theorem dX8_bottle_5 : decode cX8_bottle 5 = .ok (.invokevirtual 151, 3) := by decide +kernel
theorem dX8_bottle_8 : decode cX8_bottle 8 = .ok (.astore_n 3, 1) := by decide +kernel
theorem dX8_bottle_9 : decode cX8_bottle 9 = .ok (.aload_n 3, 1) := by decide +kernel
theorem dX8_bottle_10 : decode cX8_bottle 10 = .ok (.ifnonnull 7, 3) := by decide +kernel
theorem dX8_bottle_13 : decode cX8_bottle 13 = .ok (.sipush (-1001), 3) := by decide +kernel
theorem dX8_bottle_16 : decode cX8_bottle 16 = .ok (.ireturn, 1) := by decide +kernel
theorem dX8_bottle_17 : decode cX8_bottle 17 = .ok (.iload_n 2, 1) := by decide +kernel
theorem dX8_bottle_18 : decode cX8_bottle 18 = .ok (.ifCond .lt 9, 3) := by decide +kernel
theorem dX8_bottle_21 : decode cX8_bottle 21 = .ok (.iload_n 2, 1) := by decide +kernel
theorem dX8_bottle_22 : decode cX8_bottle 22 = .ok (.bipush 13, 2) := by decide +kernel
theorem dX8_bottle_24 : decode cX8_bottle 24 = .ok (.if_icmp .le 7, 3) := by decide +kernel
theorem dX8_bottle_27 : decode cX8_bottle 27 = .ok (.sipush (-1002), 3) := by decide +kernel
theorem dX8_bottle_30 : decode cX8_bottle 30 = .ok (.ireturn, 1) := by decide +kernel
theorem dX8_bottle_31 : decode cX8_bottle 31 = .ok (.iload_n 2, 1) := by decide +kernel
theorem dX8_bottle_32 : decode cX8_bottle 32 = .ok (.bipush 6, 2) := by decide +kernel
theorem dX8_bottle_34 : decode cX8_bottle 34 = .ok (.if_icmp .lt 18, 3) := by decide +kernel
theorem dX8_bottle_37 : decode cX8_bottle 37 = .ok (.iload_n 2, 1) := by decide +kernel
theorem dX8_bottle_38 : decode cX8_bottle 38 = .ok (.bipush 12, 2) := by decide +kernel
theorem dX8_bottle_40 : decode cX8_bottle 40 = .ok (.if_icmp .gt 12, 3) := by decide +kernel
theorem dX8_bottle_43 : decode cX8_bottle 43 = .ok (.aload_n 0, 1) := by decide +kernel
theorem dX8_bottle_44 : decode cX8_bottle 44 = .ok (.aload_n 3, 1) := by decide +kernel
theorem dX8_bottle_45 : decode cX8_bottle 45 = .ok (.iload_n 2, 1) := by decide +kernel
theorem dX8_bottle_46 : decode cX8_bottle 46 = .ok (.invokevirtual 155, 3) := by decide +kernel
theorem dX8_bottle_49 : decode cX8_bottle 49 = .ok (.goto 9, 3) := by decide +kernel
theorem dX8_bottle_52 : decode cX8_bottle 52 = .ok (.aload_n 0, 1) := by decide +kernel
theorem dX8_bottle_53 : decode cX8_bottle 53 = .ok (.aload_n 3, 1) := by decide +kernel
theorem dX8_bottle_54 : decode cX8_bottle 54 = .ok (.iload_n 2, 1) := by decide +kernel
theorem dX8_bottle_55 : decode cX8_bottle 55 = .ok (.invokevirtual 159, 3) := by decide +kernel
theorem dX8_bottle_58 : decode cX8_bottle 58 = .ok (.ireturn, 1) := by decide +kernel
theorem dX8_messenger_0 : decode cX8_messenger 0 = .ok (.iload_n 1, 1) := by decide +kernel
theorem dX8_messenger_1 : decode cX8_messenger 1 = .ok (.ifCond .lt 12, 3) := by decide +kernel
theorem dX8_messenger_4 : decode cX8_messenger 4 = .ok (.iload_n 2, 1) := by decide +kernel
theorem dX8_messenger_5 : decode cX8_messenger 5 = .ok (.ifCond .lt 8, 3) := by decide +kernel
theorem dX8_messenger_8 : decode cX8_messenger 8 = .ok (.iload_n 2, 1) := by decide +kernel
theorem dX8_messenger_9 : decode cX8_messenger 9 = .ok (.iconst 1, 1) := by decide +kernel
theorem dX8_messenger_10 : decode cX8_messenger 10 = .ok (.if_icmp .le 7, 3) := by decide +kernel
theorem dX8_messenger_13 : decode cX8_messenger 13 = .ok (.sipush (-1002), 3) := by decide +kernel
theorem dX8_messenger_16 : decode cX8_messenger 16 = .ok (.ireturn, 1) := by decide +kernel
theorem dX8_messenger_17 : decode cX8_messenger 17 = .ok (.iload_n 1, 1) := by decide +kernel
theorem dX8_messenger_18 : decode cX8_messenger 18 = .ok (.aload_n 0, 1) := by decide +kernel
theorem dX8_messenger_19 : decode cX8_messenger 19 = .ok (.getfield 10, 3) := by decide +kernel
theorem dX8_messenger_22 : decode cX8_messenger 22 = .ok (.getfield 162, 3) := by decide +kernel
theorem dX8_messenger_25 : decode cX8_messenger 25 = .ok (.getfield 166, 3) := by decide +kernel
theorem dX8_messenger_28 : decode cX8_messenger 28 = .ok (.if_icmp .lt 7, 3) := by decide +kernel
theorem dX8_messenger_31 : decode cX8_messenger 31 = .ok (.sipush (-1005), 3) := by decide +kernel
theorem dX8_messenger_34 : decode cX8_messenger 34 = .ok (.ireturn, 1) := by decide +kernel
theorem dX8_messenger_35 : decode cX8_messenger 35 = .ok (.aload_n 0, 1) := by decide +kernel
theorem dX8_messenger_36 : decode cX8_messenger 36 = .ok (.getfield 10, 3) := by decide +kernel
theorem dX8_messenger_39 : decode cX8_messenger 39 = .ok (.getfield 162, 3) := by decide +kernel
theorem dX8_messenger_42 : decode cX8_messenger 42 = .ok (.iload_n 1, 1) := by decide +kernel
theorem dX8_messenger_43 : decode cX8_messenger 43 = .ok (.invokevirtual 171, 3) := by decide +kernel
theorem dX8_messenger_46 : decode cX8_messenger 46 = .ok (.istore_n 3, 1) := by decide +kernel
theorem dX8_messenger_47 : decode cX8_messenger 47 = .ok (.iload_n 2, 1) := by decide +kernel
theorem dX8_messenger_48 : decode cX8_messenger 48 = .ok (.ifCond .ne 7, 3) := by decide +kernel
theorem dX8_messenger_51 : decode cX8_messenger 51 = .ok (.iload_n 3, 1) := by decide +kernel
theorem dX8_messenger_52 : decode cX8_messenger 52 = .ok (.goto 14, 3) := by decide +kernel
theorem dX8_messenger_55 : decode cX8_messenger 55 = .ok (.aload_n 0, 1) := by decide +kernel
theorem dX8_messenger_56 : decode cX8_messenger 56 = .ok (.getfield 10, 3) := by decide +kernel
theorem dX8_messenger_59 : decode cX8_messenger 59 = .ok (.getfield 174, 3) := by decide +kernel
theorem dX8_messenger_62 : decode cX8_messenger 62 = .ok (.iload_n 3, 1) := by decide +kernel
theorem dX8_messenger_63 : decode cX8_messenger 63 = .ok (.invokevirtual 178, 3) := by decide +kernel
theorem dX8_messenger_66 : decode cX8_messenger 66 = .ok (.ireturn, 1) := by decide +kernel
theorem dX8_layer_0 : decode cX8_layer 0 = .ok (.aload_n 0, 1) := by decide +kernel
theorem dX8_layer_1 : decode cX8_layer 1 = .ok (.getfield 10, 3) := by decide +kernel
theorem dX8_layer_4 : decode cX8_layer 4 = .ok (.getfield 77, 3) := by decide +kernel
theorem dX8_layer_7 : decode cX8_layer 7 = .ok (.iload_n 1, 1) := by decide +kernel
theorem dX8_layer_8 : decode cX8_layer 8 = .ok (.invokevirtual 183, 3) := by decide +kernel
theorem dX8_layer_11 : decode cX8_layer 11 = .ok (.ifCond .ne 7, 3) := by decide +kernel
theorem dX8_layer_14 : decode cX8_layer 14 = .ok (.sipush (-1001), 3) := by decide +kernel
theorem dX8_layer_17 : decode cX8_layer 17 = .ok (.ireturn, 1) := by decide +kernel
theorem dX8_layer_18 : decode cX8_layer 18 = .ok (.iload_n 2, 1) := by decide +kernel
theorem dX8_layer_19 : decode cX8_layer 19 = .ok (.tableswitch 71 0 3 #[29, 41, 53, 62], 29) := by decide +kernel
theorem dX8_layer_48 : decode cX8_layer 48 = .ok (.aload_n 0, 1) := by decide +kernel
theorem dX8_layer_49 : decode cX8_layer 49 = .ok (.getfield 10, 3) := by decide +kernel
theorem dX8_layer_52 : decode cX8_layer 52 = .ok (.getfield 77, 3) := by decide +kernel
theorem dX8_layer_55 : decode cX8_layer 55 = .ok (.iload_n 1, 1) := by decide +kernel
theorem dX8_layer_56 : decode cX8_layer 56 = .ok (.invokevirtual 186, 3) := by decide +kernel
theorem dX8_layer_59 : decode cX8_layer 59 = .ok (.ireturn, 1) := by decide +kernel
theorem dX8_layer_60 : decode cX8_layer 60 = .ok (.aload_n 0, 1) := by decide +kernel
theorem dX8_layer_61 : decode cX8_layer 61 = .ok (.getfield 10, 3) := by decide +kernel
theorem dX8_layer_64 : decode cX8_layer 64 = .ok (.getfield 77, 3) := by decide +kernel
theorem dX8_layer_67 : decode cX8_layer 67 = .ok (.iload_n 1, 1) := by decide +kernel
theorem dX8_layer_68 : decode cX8_layer 68 = .ok (.invokevirtual 189, 3) := by decide +kernel
theorem dX8_layer_71 : decode cX8_layer 71 = .ok (.ireturn, 1) := by decide +kernel
theorem dX8_layer_72 : decode cX8_layer 72 = .ok (.aload_n 0, 1) := by decide +kernel
theorem dX8_layer_73 : decode cX8_layer 73 = .ok (.getfield 10, 3) := by decide +kernel
theorem dX8_layer_76 : decode cX8_layer 76 = .ok (.iload_n 1, 1) := by decide +kernel
theorem dX8_layer_77 : decode cX8_layer 77 = .ok (.invokevirtual 192, 3) := by decide +kernel
theorem dX8_layer_80 : decode cX8_layer 80 = .ok (.ireturn, 1) := by decide +kernel
theorem dX8_layer_81 : decode cX8_layer 81 = .ok (.aload_n 0, 1) := by decide +kernel
theorem dX8_layer_82 : decode cX8_layer 82 = .ok (.getfield 10, 3) := by decide +kernel
theorem dX8_layer_85 : decode cX8_layer 85 = .ok (.iload_n 1, 1) := by decide +kernel
theorem dX8_layer_86 : decode cX8_layer 86 = .ok (.invokevirtual 195, 3) := by decide +kernel
theorem dX8_layer_89 : decode cX8_layer 89 = .ok (.ireturn, 1) := by decide +kernel
theorem dX8_layer_90 : decode cX8_layer 90 = .ok (.sipush (-1002), 3) := by decide +kernel
theorem dX8_layer_93 : decode cX8_layer 93 = .ok (.ireturn, 1) := by decide +kernel
theorem dX8_depth_0 : decode cX8_depth 0 = .ok (.iload_n 1, 1) := by decide +kernel
theorem dX8_depth_1 : decode cX8_depth 1 = .ok (.ifCond .lt 20, 3) := by decide +kernel
theorem dX8_depth_4 : decode cX8_depth 4 = .ok (.iload_n 1, 1) := by decide +kernel
theorem dX8_depth_5 : decode cX8_depth 5 = .ok (.sipush 999, 3) := by decide +kernel
theorem dX8_depth_8 : decode cX8_depth 8 = .ok (.if_icmp .gt 13, 3) := by decide +kernel
theorem dX8_depth_11 : decode cX8_depth 11 = .ok (.iload_n 2, 1) := by decide +kernel
theorem dX8_depth_12 : decode cX8_depth 12 = .ok (.ifCond .lt 9, 3) := by decide +kernel
theorem dX8_depth_15 : decode cX8_depth 15 = .ok (.iload_n 2, 1) := by decide +kernel
theorem dX8_depth_16 : decode cX8_depth 16 = .ok (.bipush 6, 2) := by decide +kernel
theorem dX8_depth_18 : decode cX8_depth 18 = .ok (.if_icmp .le 7, 3) := by decide +kernel
theorem dX8_depth_21 : decode cX8_depth 21 = .ok (.sipush (-1002), 3) := by decide +kernel
theorem dX8_depth_24 : decode cX8_depth 24 = .ok (.ireturn, 1) := by decide +kernel
theorem dX8_depth_25 : decode cX8_depth 25 = .ok (.iload_n 1, 1) := by decide +kernel
theorem dX8_depth_26 : decode cX8_depth 26 = .ok (.iload_n 2, 1) := by decide +kernel
theorem dX8_depth_27 : decode cX8_depth 27 = .ok (.invokestatic 198, 3) := by decide +kernel
theorem dX8_depth_30 : decode cX8_depth 30 = .ok (.ireturn, 1) := by decide +kernel
theorem dX8_reason_0 : decode cX8_reason 0 = .ok (.aload_n 0, 1) := by decide +kernel
theorem dX8_reason_1 : decode cX8_reason 1 = .ok (.getfield 10, 3) := by decide +kernel
theorem dX8_reason_4 : decode cX8_reason 4 = .ok (.iload_n 1, 1) := by decide +kernel
theorem dX8_reason_5 : decode cX8_reason 5 = .ok (.invokevirtual 151, 3) := by decide +kernel
theorem dX8_reason_8 : decode cX8_reason 8 = .ok (.astore_n 2, 1) := by decide +kernel
theorem dX8_reason_9 : decode cX8_reason 9 = .ok (.aload_n 2, 1) := by decide +kernel
theorem dX8_reason_10 : decode cX8_reason 10 = .ok (.ifnonnull 7, 3) := by decide +kernel
theorem dX8_reason_13 : decode cX8_reason 13 = .ok (.sipush (-1001), 3) := by decide +kernel
theorem dX8_reason_16 : decode cX8_reason 16 = .ok (.ireturn, 1) := by decide +kernel
theorem dX8_reason_17 : decode cX8_reason 17 = .ok (.aload_n 2, 1) := by decide +kernel
theorem dX8_reason_18 : decode cX8_reason 18 = .ok (.getfield 201, 3) := by decide +kernel
theorem dX8_reason_21 : decode cX8_reason 21 = .ok (.ifCond .eq 5, 3) := by decide +kernel
theorem dX8_reason_24 : decode cX8_reason 24 = .ok (.iconst 1, 1) := by decide +kernel
theorem dX8_reason_25 : decode cX8_reason 25 = .ok (.ireturn, 1) := by decide +kernel
theorem dX8_reason_26 : decode cX8_reason 26 = .ok (.aload_n 0, 1) := by decide +kernel
theorem dX8_reason_27 : decode cX8_reason 27 = .ok (.getfield 10, 3) := by decide +kernel
theorem dX8_reason_30 : decode cX8_reason 30 = .ok (.getfield 174, 3) := by decide +kernel
theorem dX8_reason_33 : decode cX8_reason 33 = .ok (.aload_n 2, 1) := by decide +kernel
theorem dX8_reason_34 : decode cX8_reason 34 = .ok (.getfield 206, 3) := by decide +kernel
theorem dX8_reason_37 : decode cX8_reason 37 = .ok (.invokevirtual 209, 3) := by decide +kernel
theorem dX8_reason_40 : decode cX8_reason 40 = .ok (.ifCond .ne 5, 3) := by decide +kernel
theorem dX8_reason_43 : decode cX8_reason 43 = .ok (.iconst 2, 1) := by decide +kernel
theorem dX8_reason_44 : decode cX8_reason 44 = .ok (.ireturn, 1) := by decide +kernel
theorem dX8_reason_45 : decode cX8_reason 45 = .ok (.aload_n 0, 1) := by decide +kernel
theorem dX8_reason_46 : decode cX8_reason 46 = .ok (.getfield 10, 3) := by decide +kernel
theorem dX8_reason_49 : decode cX8_reason 49 = .ok (.getfield 174, 3) := by decide +kernel
theorem dX8_reason_52 : decode cX8_reason 52 = .ok (.invokevirtual 212, 3) := by decide +kernel
theorem dX8_reason_55 : decode cX8_reason 55 = .ok (.ifCond .eq 5, 3) := by decide +kernel
theorem dX8_reason_58 : decode cX8_reason 58 = .ok (.iconst 3, 1) := by decide +kernel
theorem dX8_reason_59 : decode cX8_reason 59 = .ok (.ireturn, 1) := by decide +kernel
theorem dX8_reason_60 : decode cX8_reason 60 = .ok (.aload_n 0, 1) := by decide +kernel
theorem dX8_reason_61 : decode cX8_reason 61 = .ok (.getfield 10, 3) := by decide +kernel
theorem dX8_reason_64 : decode cX8_reason 64 = .ok (.getfield 162, 3) := by decide +kernel
theorem dX8_reason_67 : decode cX8_reason 67 = .ok (.aload_n 2, 1) := by decide +kernel
theorem dX8_reason_68 : decode cX8_reason 68 = .ok (.getfield 206, 3) := by decide +kernel
theorem dX8_reason_71 : decode cX8_reason 71 = .ok (.invokevirtual 216, 3) := by decide +kernel
theorem dX8_reason_74 : decode cX8_reason 74 = .ok (.ifCond .ne 5, 3) := by decide +kernel
theorem dX8_reason_77 : decode cX8_reason 77 = .ok (.iconst 4, 1) := by decide +kernel
theorem dX8_reason_78 : decode cX8_reason 78 = .ok (.ireturn, 1) := by decide +kernel
theorem dX8_reason_79 : decode cX8_reason 79 = .ok (.aload_n 0, 1) := by decide +kernel
theorem dX8_reason_80 : decode cX8_reason 80 = .ok (.iload_n 1, 1) := by decide +kernel
theorem dX8_reason_81 : decode cX8_reason 81 = .ok (.invokevirtual 219, 3) := by decide +kernel
theorem dX8_reason_84 : decode cX8_reason 84 = .ok (.sipush (-1005), 3) := by decide +kernel
theorem dX8_reason_87 : decode cX8_reason 87 = .ok (.if_icmp .ne 7, 3) := by decide +kernel
theorem dX8_reason_90 : decode cX8_reason 90 = .ok (.iconst 5, 1) := by decide +kernel
theorem dX8_reason_91 : decode cX8_reason 91 = .ok (.goto 4, 3) := by decide +kernel
theorem dX8_reason_94 : decode cX8_reason 94 = .ok (.iconst 0, 1) := by decide +kernel
theorem dX8_reason_95 : decode cX8_reason 95 = .ok (.ireturn, 1) := by decide +kernel
theorem dX8_shutIn_0 : decode cX8_shutIn 0 = .ok (.aload_n 0, 1) := by decide +kernel
theorem dX8_shutIn_1 : decode cX8_shutIn 1 = .ok (.getfield 10, 3) := by decide +kernel
theorem dX8_shutIn_4 : decode cX8_shutIn 4 = .ok (.iload_n 1, 1) := by decide +kernel
theorem dX8_shutIn_5 : decode cX8_shutIn 5 = .ok (.invokevirtual 151, 3) := by decide +kernel
theorem dX8_shutIn_8 : decode cX8_shutIn 8 = .ok (.astore_n 2, 1) := by decide +kernel
theorem dX8_shutIn_9 : decode cX8_shutIn 9 = .ok (.aload_n 2, 1) := by decide +kernel
theorem dX8_shutIn_10 : decode cX8_shutIn 10 = .ok (.ifnonnull 7, 3) := by decide +kernel
theorem dX8_shutIn_13 : decode cX8_shutIn 13 = .ok (.sipush (-1001), 3) := by decide +kernel
theorem dX8_shutIn_16 : decode cX8_shutIn 16 = .ok (.ireturn, 1) := by decide +kernel
theorem dX8_shutIn_17 : decode cX8_shutIn 17 = .ok (.aload_n 2, 1) := by decide +kernel
theorem dX8_shutIn_18 : decode cX8_shutIn 18 = .ok (.getfield 201, 3) := by decide +kernel
theorem dX8_shutIn_21 : decode cX8_shutIn 21 = .ok (.ifCond .eq 9, 3) := by decide +kernel
theorem dX8_shutIn_24 : decode cX8_shutIn 24 = .ok (.sipush (-1005), 3) := by decide +kernel
theorem dX8_shutIn_27 : decode cX8_shutIn 27 = .ok (.goto 8, 3) := by decide +kernel
theorem dX8_shutIn_30 : decode cX8_shutIn 30 = .ok (.aload_n 0, 1) := by decide +kernel
theorem dX8_shutIn_31 : decode cX8_shutIn 31 = .ok (.iload_n 1, 1) := by decide +kernel
theorem dX8_shutIn_32 : decode cX8_shutIn 32 = .ok (.invokevirtual 219, 3) := by decide +kernel
theorem dX8_shutIn_35 : decode cX8_shutIn 35 = .ok (.ireturn, 1) := by decide +kernel
theorem dX8_quietIn_0 : decode cX8_quietIn 0 = .ok (.aload_n 0, 1) := by decide +kernel
theorem dX8_quietIn_1 : decode cX8_quietIn 1 = .ok (.getfield 10, 3) := by decide +kernel
theorem dX8_quietIn_4 : decode cX8_quietIn 4 = .ok (.getfield 162, 3) := by decide +kernel
theorem dX8_quietIn_7 : decode cX8_quietIn 7 = .ok (.getfield 166, 3) := by decide +kernel
theorem dX8_quietIn_10 : decode cX8_quietIn 10 = .ok (.ifCond .ne 5, 3) := by decide +kernel
theorem dX8_quietIn_13 : decode cX8_quietIn 13 = .ok (.iconst 0, 1) := by decide +kernel
theorem dX8_quietIn_14 : decode cX8_quietIn 14 = .ok (.ireturn, 1) := by decide +kernel
theorem dX8_quietIn_15 : decode cX8_quietIn 15 = .ok (.aload_n 0, 1) := by decide +kernel
theorem dX8_quietIn_16 : decode cX8_quietIn 16 = .ok (.getfield 10, 3) := by decide +kernel
theorem dX8_quietIn_19 : decode cX8_quietIn 19 = .ok (.getfield 174, 3) := by decide +kernel
theorem dX8_quietIn_22 : decode cX8_quietIn 22 = .ok (.invokevirtual 212, 3) := by decide +kernel
theorem dX8_quietIn_25 : decode cX8_quietIn 25 = .ok (.ifCond .eq 7, 3) := by decide +kernel
theorem dX8_quietIn_28 : decode cX8_quietIn 28 = .ok (.sipush (-1005), 3) := by decide +kernel
theorem dX8_quietIn_31 : decode cX8_quietIn 31 = .ok (.ireturn, 1) := by decide +kernel
theorem dX8_quietIn_32 : decode cX8_quietIn 32 = .ok (.aload_n 0, 1) := by decide +kernel
theorem dX8_quietIn_33 : decode cX8_quietIn 33 = .ok (.getfield 19, 3) := by decide +kernel
theorem dX8_quietIn_36 : decode cX8_quietIn 36 = .ok (.aload_n 0, 1) := by decide +kernel
theorem dX8_quietIn_37 : decode cX8_quietIn 37 = .ok (.getfield 10, 3) := by decide +kernel
theorem dX8_quietIn_40 : decode cX8_quietIn 40 = .ok (.invokevirtual 46, 3) := by decide +kernel
theorem dX8_quietIn_43 : decode cX8_quietIn 43 = .ok (.aload_n 0, 1) := by decide +kernel
theorem dX8_quietIn_44 : decode cX8_quietIn 44 = .ok (.getfield 19, 3) := by decide +kernel
theorem dX8_quietIn_47 : decode cX8_quietIn 47 = .ok (.invokevirtual 222, 3) := by decide +kernel
theorem dX8_quietIn_50 : decode cX8_quietIn 50 = .ok (.ireturn, 1) := by decide +kernel
theorem dX8_worst_0 : decode cX8_worst 0 = .ok (.sipush (-1005), 3) := by decide +kernel
theorem dX8_worst_3 : decode cX8_worst 3 = .ok (.istore_n 1, 1) := by decide +kernel
theorem dX8_worst_4 : decode cX8_worst 4 = .ok (.iconst (-1), 1) := by decide +kernel
theorem dX8_worst_5 : decode cX8_worst 5 = .ok (.istore_n 2, 1) := by decide +kernel
theorem dX8_worst_6 : decode cX8_worst 6 = .ok (.iconst 0, 1) := by decide +kernel
theorem dX8_worst_7 : decode cX8_worst 7 = .ok (.istore_n 3, 1) := by decide +kernel
theorem dX8_worst_8 : decode cX8_worst 8 = .ok (.iload_n 3, 1) := by decide +kernel
theorem dX8_worst_9 : decode cX8_worst 9 = .ok (.aload_n 0, 1) := by decide +kernel
theorem dX8_worst_10 : decode cX8_worst 10 = .ok (.getfield 10, 3) := by decide +kernel
theorem dX8_worst_13 : decode cX8_worst 13 = .ok (.getfield 148, 3) := by decide +kernel
theorem dX8_worst_16 : decode cX8_worst 16 = .ok (.if_icmp .ge 49, 3) := by decide +kernel
theorem dX8_worst_19 : decode cX8_worst 19 = .ok (.aload_n 0, 1) := by decide +kernel
theorem dX8_worst_20 : decode cX8_worst 20 = .ok (.getfield 10, 3) := by decide +kernel
theorem dX8_worst_23 : decode cX8_worst 23 = .ok (.iload_n 3, 1) := by decide +kernel
theorem dX8_worst_24 : decode cX8_worst 24 = .ok (.invokevirtual 151, 3) := by decide +kernel
theorem dX8_worst_27 : decode cX8_worst 27 = .ok (.astore 4, 2) := by decide +kernel
theorem dX8_worst_29 : decode cX8_worst 29 = .ok (.aload 4, 2) := by decide +kernel
theorem dX8_worst_31 : decode cX8_worst 31 = .ok (.ifnull 28, 3) := by decide +kernel
theorem dX8_worst_34 : decode cX8_worst 34 = .ok (.aload 4, 2) := by decide +kernel
theorem dX8_worst_36 : decode cX8_worst 36 = .ok (.getfield 201, 3) := by decide +kernel
theorem dX8_worst_39 : decode cX8_worst 39 = .ok (.ifCond .eq 20, 3) := by decide +kernel
theorem dX8_worst_42 : decode cX8_worst 42 = .ok (.aload 4, 2) := by decide +kernel
theorem dX8_worst_44 : decode cX8_worst 44 = .ok (.invokevirtual 225, 3) := by decide +kernel
theorem dX8_worst_47 : decode cX8_worst 47 = .ok (.iload_n 2, 1) := by decide +kernel
theorem dX8_worst_48 : decode cX8_worst 48 = .ok (.if_icmp .le 11, 3) := by decide +kernel
theorem dX8_worst_51 : decode cX8_worst 51 = .ok (.iload_n 3, 1) := by decide +kernel
theorem dX8_worst_52 : decode cX8_worst 52 = .ok (.istore_n 1, 1) := by decide +kernel
theorem dX8_worst_53 : decode cX8_worst 53 = .ok (.aload 4, 2) := by decide +kernel
theorem dX8_worst_55 : decode cX8_worst 55 = .ok (.invokevirtual 225, 3) := by decide +kernel
theorem dX8_worst_58 : decode cX8_worst 58 = .ok (.istore_n 2, 1) := by decide +kernel
theorem dX8_worst_59 : decode cX8_worst 59 = .ok (.iinc 3 1, 3) := by decide +kernel
theorem dX8_worst_62 : decode cX8_worst 62 = .ok (.goto (-54), 3) := by decide +kernel
theorem dX8_worst_65 : decode cX8_worst 65 = .ok (.iload_n 1, 1) := by decide +kernel
theorem dX8_worst_66 : decode cX8_worst 66 = .ok (.ireturn, 1) := by decide +kernel
theorem dX8_count_0 : decode cX8_count 0 = .ok (.iload_n 1, 1) := by decide +kernel
theorem dX8_count_1 : decode cX8_count 1 = .ok (.ifCond .lt 9, 3) := by decide +kernel
theorem dX8_count_4 : decode cX8_count 4 = .ok (.iload_n 1, 1) := by decide +kernel
theorem dX8_count_5 : decode cX8_count 5 = .ok (.bipush 18, 2) := by decide +kernel
theorem dX8_count_7 : decode cX8_count 7 = .ok (.if_icmp .le 7, 3) := by decide +kernel
theorem dX8_count_10 : decode cX8_count 10 = .ok (.sipush (-1002), 3) := by decide +kernel
theorem dX8_count_13 : decode cX8_count 13 = .ok (.ireturn, 1) := by decide +kernel
theorem dX8_count_14 : decode cX8_count 14 = .ok (.iload_n 1, 1) := by decide +kernel
theorem dX8_count_15 : decode cX8_count 15 = .ok (.bipush 8, 2) := by decide +kernel
theorem dX8_count_17 : decode cX8_count 17 = .ok (.if_icmp .gt 11, 3) := by decide +kernel
theorem dX8_count_20 : decode cX8_count 20 = .ok (.aload_n 0, 1) := by decide +kernel
theorem dX8_count_21 : decode cX8_count 21 = .ok (.iload_n 1, 1) := by decide +kernel
theorem dX8_count_22 : decode cX8_count 22 = .ok (.invokevirtual 228, 3) := by decide +kernel
theorem dX8_count_25 : decode cX8_count 25 = .ok (.goto 8, 3) := by decide +kernel
theorem dX8_count_28 : decode cX8_count 28 = .ok (.aload_n 0, 1) := by decide +kernel
theorem dX8_count_29 : decode cX8_count 29 = .ok (.iload_n 1, 1) := by decide +kernel
theorem dX8_count_30 : decode cX8_count 30 = .ok (.invokevirtual 231, 3) := by decide +kernel
theorem dX8_count_33 : decode cX8_count 33 = .ok (.ireturn, 1) := by decide +kernel
theorem dX8_depthAt_0 : decode cX8_depthAt 0 = .ok (.iload_n 1, 1) := by decide +kernel
theorem dX8_depthAt_1 : decode cX8_depthAt 1 = .ok (.ifCond .lt 11, 3) := by decide +kernel
theorem dX8_depthAt_4 : decode cX8_depthAt 4 = .ok (.iload_n 1, 1) := by decide +kernel
theorem dX8_depthAt_5 : decode cX8_depthAt 5 = .ok (.getstatic 234, 3) := by decide +kernel
theorem dX8_depthAt_8 : decode cX8_depthAt 8 = .ok (.arraylength, 1) := by decide +kernel
theorem dX8_depthAt_9 : decode cX8_depthAt 9 = .ok (.if_icmp .lt 5, 3) := by decide +kernel
theorem dX8_depthAt_12 : decode cX8_depthAt 12 = .ok (.iconst 0, 1) := by decide +kernel
theorem dX8_depthAt_13 : decode cX8_depthAt 13 = .ok (.ireturn, 1) := by decide +kernel
theorem dX8_depthAt_14 : decode cX8_depthAt 14 = .ok (.iload_n 0, 1) := by decide +kernel
theorem dX8_depthAt_15 : decode cX8_depthAt 15 = .ok (.getstatic 234, 3) := by decide +kernel
theorem dX8_depthAt_18 : decode cX8_depthAt 18 = .ok (.iload_n 1, 1) := by decide +kernel
theorem dX8_depthAt_19 : decode cX8_depthAt 19 = .ok (.iaload, 1) := by decide +kernel
theorem dX8_depthAt_20 : decode cX8_depthAt 20 = .ok (.imul, 1) := by decide +kernel
theorem dX8_depthAt_21 : decode cX8_depthAt 21 = .ok (.sipush 1000, 3) := by decide +kernel
theorem dX8_depthAt_24 : decode cX8_depthAt 24 = .ok (.idiv, 1) := by decide +kernel
theorem dX8_depthAt_25 : decode cX8_depthAt 25 = .ok (.ireturn, 1) := by decide +kernel
theorem dX8_layerAt_0 : decode cX8_layerAt 0 = .ok (.bipush 9, 2) := by decide +kernel
theorem dX8_layerAt_2 : decode cX8_layerAt 2 = .ok (.iload_n 0, 1) := by decide +kernel
theorem dX8_layerAt_3 : decode cX8_layerAt 3 = .ok (.bipush 100, 2) := by decide +kernel
theorem dX8_layerAt_5 : decode cX8_layerAt 5 = .ok (.idiv, 1) := by decide +kernel
theorem dX8_layerAt_6 : decode cX8_layerAt 6 = .ok (.invokestatic 238, 3) := by decide +kernel
theorem dX8_layerAt_9 : decode cX8_layerAt 9 = .ok (.ireturn, 1) := by decide +kernel
theorem dX8_isDone_0 : decode cX8_isDone 0 = .ok (.iload_n 0, 1) := by decide +kernel
theorem dX8_isDone_1 : decode cX8_isDone 1 = .ok (.sipush (-1001), 3) := by decide +kernel
theorem dX8_isDone_4 : decode cX8_isDone 4 = .ok (.if_icmp .le 7, 3) := by decide +kernel
theorem dX8_isDone_7 : decode cX8_isDone 7 = .ok (.iconst 1, 1) := by decide +kernel
theorem dX8_isDone_8 : decode cX8_isDone 8 = .ok (.goto 4, 3) := by decide +kernel
theorem dX8_isDone_11 : decode cX8_isDone 11 = .ok (.iconst 0, 1) := by decide +kernel
theorem dX8_isDone_12 : decode cX8_isDone 12 = .ok (.ireturn, 1) := by decide +kernel
theorem dX8_recorded_0 : decode cX8_recorded 0 = .ok (.iload_n 1, 1) := by decide +kernel
theorem dX8_recorded_1 : decode cX8_recorded 1 = .ok (.invokestatic 117, 3) := by decide +kernel
theorem dX8_recorded_4 : decode cX8_recorded 4 = .ok (.ifCond .eq 14, 3) := by decide +kernel
theorem dX8_recorded_7 : decode cX8_recorded 7 = .ok (.aload_n 0, 1) := by decide +kernel
theorem dX8_recorded_8 : decode cX8_recorded 8 = .ok (.getfield 28, 3) := by decide +kernel
theorem dX8_recorded_11 : decode cX8_recorded 11 = .ok (.aload_n 0, 1) := by decide +kernel
theorem dX8_recorded_12 : decode cX8_recorded 12 = .ok (.getfield 16, 3) := by decide +kernel
theorem dX8_recorded_15 : decode cX8_recorded 15 = .ok (.invokevirtual 125, 3) := by decide +kernel
theorem dX8_recorded_18 : decode cX8_recorded 18 = .ok (.iload_n 1, 1) := by decide +kernel
theorem dX8_recorded_19 : decode cX8_recorded 19 = .ok (.ireturn, 1) := by decide +kernel
theorem dX8_rememberStop_0 : decode cX8_rememberStop 0 = .ok (.aload_n 0, 1) := by decide +kernel
theorem dX8_rememberStop_1 : decode cX8_rememberStop 1 = .ok (.iconst 1, 1) := by decide +kernel
theorem dX8_rememberStop_2 : decode cX8_rememberStop 2 = .ok (.putfield 128, 3) := by decide +kernel
theorem dX8_rememberStop_5 : decode cX8_rememberStop 5 = .ok (.aload_n 0, 1) := by decide +kernel
theorem dX8_rememberStop_6 : decode cX8_rememberStop 6 = .ok (.iload_n 1, 1) := by decide +kernel
theorem dX8_rememberStop_7 : decode cX8_rememberStop 7 = .ok (.putfield 132, 3) := by decide +kernel
theorem dX8_rememberStop_10 : decode cX8_rememberStop 10 = .ok (.aload_n 0, 1) := by decide +kernel
theorem dX8_rememberStop_11 : decode cX8_rememberStop 11 = .ok (.iload_n 2, 1) := by decide +kernel
theorem dX8_rememberStop_12 : decode cX8_rememberStop 12 = .ok (.putfield 135, 3) := by decide +kernel
theorem dX8_rememberStop_15 : decode cX8_rememberStop 15 = .ok (.return_, 1) := by decide +kernel
theorem dX8_doThing_0 : decode cX8_doThing 0 = .ok (.iload_n 1, 1) := by decide +kernel
theorem dX8_doThing_1 : decode cX8_doThing 1 = .ok (.lookupswitch 130 #[(33, 104), (43, 67), (45, 76), (46, 121), (47, 112), (98, 86), (109, 95)], 67) := by decide +kernel
theorem dX8_doThing_68 : decode cX8_doThing 68 = .ok (.aload_n 0, 1) := by decide +kernel
theorem dX8_doThing_69 : decode cX8_doThing 69 = .ok (.getfield 10, 3) := by decide +kernel
theorem dX8_doThing_72 : decode cX8_doThing 72 = .ok (.iload_n 2, 1) := by decide +kernel
theorem dX8_doThing_73 : decode cX8_doThing 73 = .ok (.invokevirtual 50, 3) := by decide +kernel
theorem dX8_doThing_76 : decode cX8_doThing 76 = .ok (.ireturn, 1) := by decide +kernel
theorem dX8_doThing_77 : decode cX8_doThing 77 = .ok (.aload_n 0, 1) := by decide +kernel
theorem dX8_doThing_78 : decode cX8_doThing 78 = .ok (.getfield 10, 3) := by decide +kernel
theorem dX8_doThing_81 : decode cX8_doThing 81 = .ok (.iload_n 2, 1) := by decide +kernel
theorem dX8_doThing_82 : decode cX8_doThing 82 = .ok (.ineg, 1) := by decide +kernel
theorem dX8_doThing_83 : decode cX8_doThing 83 = .ok (.invokevirtual 50, 3) := by decide +kernel
theorem dX8_doThing_86 : decode cX8_doThing 86 = .ok (.ireturn, 1) := by decide +kernel
theorem dX8_doThing_87 : decode cX8_doThing 87 = .ok (.aload_n 0, 1) := by decide +kernel
theorem dX8_doThing_88 : decode cX8_doThing 88 = .ok (.getfield 10, 3) := by decide +kernel
theorem dX8_doThing_91 : decode cX8_doThing 91 = .ok (.iconst 0, 1) := by decide +kernel
theorem dX8_doThing_92 : decode cX8_doThing 92 = .ok (.invokevirtual 64, 3) := by decide +kernel
theorem dX8_doThing_95 : decode cX8_doThing 95 = .ok (.ireturn, 1) := by decide +kernel
theorem dX8_doThing_96 : decode cX8_doThing 96 = .ok (.aload_n 0, 1) := by decide +kernel
theorem dX8_doThing_97 : decode cX8_doThing 97 = .ok (.getfield 10, 3) := by decide +kernel
theorem dX8_doThing_100 : decode cX8_doThing 100 = .ok (.iconst 1, 1) := by decide +kernel
theorem dX8_doThing_101 : decode cX8_doThing 101 = .ok (.invokevirtual 64, 3) := by decide +kernel
theorem dX8_doThing_104 : decode cX8_doThing 104 = .ok (.ireturn, 1) := by decide +kernel
theorem dX8_doThing_105 : decode cX8_doThing 105 = .ok (.aload_n 0, 1) := by decide +kernel
theorem dX8_doThing_106 : decode cX8_doThing 106 = .ok (.getfield 10, 3) := by decide +kernel
theorem dX8_doThing_109 : decode cX8_doThing 109 = .ok (.invokevirtual 70, 3) := by decide +kernel
theorem dX8_doThing_112 : decode cX8_doThing 112 = .ok (.ireturn, 1) := by decide +kernel
theorem dX8_doThing_113 : decode cX8_doThing 113 = .ok (.aload_n 0, 1) := by decide +kernel
theorem dX8_doThing_114 : decode cX8_doThing 114 = .ok (.getfield 10, 3) := by decide +kernel
theorem dX8_doThing_117 : decode cX8_doThing 117 = .ok (.iload_n 2, 1) := by decide +kernel
theorem dX8_doThing_118 : decode cX8_doThing 118 = .ok (.invokevirtual 57, 3) := by decide +kernel
theorem dX8_doThing_121 : decode cX8_doThing 121 = .ok (.ireturn, 1) := by decide +kernel
theorem dX8_doThing_122 : decode cX8_doThing 122 = .ok (.aload_n 0, 1) := by decide +kernel
theorem dX8_doThing_123 : decode cX8_doThing 123 = .ok (.getfield 10, 3) := by decide +kernel
theorem dX8_doThing_126 : decode cX8_doThing 126 = .ok (.iload_n 2, 1) := by decide +kernel
theorem dX8_doThing_127 : decode cX8_doThing 127 = .ok (.invokevirtual 74, 3) := by decide +kernel
theorem dX8_doThing_130 : decode cX8_doThing 130 = .ok (.ireturn, 1) := by decide +kernel
theorem dX8_doThing_131 : decode cX8_doThing 131 = .ok (.sipush (-1002), 3) := by decide +kernel
theorem dX8_doThing_134 : decode cX8_doThing 134 = .ok (.ireturn, 1) := by decide +kernel
theorem dX8_secondsToShut_0 : decode cX8_secondsToShut 0 = .ok (.aload_n 0, 1) := by decide +kernel
theorem dX8_secondsToShut_1 : decode cX8_secondsToShut 1 = .ok (.getfield 19, 3) := by decide +kernel
theorem dX8_secondsToShut_4 : decode cX8_secondsToShut 4 = .ok (.aload_n 0, 1) := by decide +kernel
theorem dX8_secondsToShut_5 : decode cX8_secondsToShut 5 = .ok (.getfield 10, 3) := by decide +kernel
theorem dX8_secondsToShut_8 : decode cX8_secondsToShut 8 = .ok (.invokevirtual 46, 3) := by decide +kernel
theorem dX8_secondsToShut_11 : decode cX8_secondsToShut 11 = .ok (.aload_n 0, 1) := by decide +kernel
theorem dX8_secondsToShut_12 : decode cX8_secondsToShut 12 = .ok (.getfield 19, 3) := by decide +kernel
theorem dX8_secondsToShut_15 : decode cX8_secondsToShut 15 = .ok (.iload_n 1, 1) := by decide +kernel
theorem dX8_secondsToShut_16 : decode cX8_secondsToShut 16 = .ok (.invokevirtual 243, 3) := by decide +kernel
theorem dX8_secondsToShut_19 : decode cX8_secondsToShut 19 = .ok (.ireturn, 1) := by decide +kernel
theorem dX8_tellOfAny_0 : decode cX8_tellOfAny 0 = .ok (.iload_n 2, 1) := by decide +kernel
theorem dX8_tellOfAny_1 : decode cX8_tellOfAny 1 = .ok (.tableswitch 105 0 5 #[39, 44, 59, 74, 87, 100], 39) := by decide +kernel
theorem dX8_tellOfAny_40 : decode cX8_tellOfAny 40 = .ok (.aload_n 1, 1) := by decide +kernel
theorem dX8_tellOfAny_41 : decode cX8_tellOfAny 41 = .ok (.getfield 206, 3) := by decide +kernel
theorem dX8_tellOfAny_44 : decode cX8_tellOfAny 44 = .ok (.ireturn, 1) := by decide +kernel
theorem dX8_tellOfAny_45 : decode cX8_tellOfAny 45 = .ok (.aload_n 0, 1) := by decide +kernel
theorem dX8_tellOfAny_46 : decode cX8_tellOfAny 46 = .ok (.getfield 10, 3) := by decide +kernel
theorem dX8_tellOfAny_49 : decode cX8_tellOfAny 49 = .ok (.getfield 174, 3) := by decide +kernel
theorem dX8_tellOfAny_52 : decode cX8_tellOfAny 52 = .ok (.aload_n 1, 1) := by decide +kernel
theorem dX8_tellOfAny_53 : decode cX8_tellOfAny 53 = .ok (.getfield 206, 3) := by decide +kernel
theorem dX8_tellOfAny_56 : decode cX8_tellOfAny 56 = .ok (.invokevirtual 246, 3) := by decide +kernel
theorem dX8_tellOfAny_59 : decode cX8_tellOfAny 59 = .ok (.ireturn, 1) := by decide +kernel
theorem dX8_tellOfAny_60 : decode cX8_tellOfAny 60 = .ok (.aload_n 0, 1) := by decide +kernel
theorem dX8_tellOfAny_61 : decode cX8_tellOfAny 61 = .ok (.getfield 10, 3) := by decide +kernel
theorem dX8_tellOfAny_64 : decode cX8_tellOfAny 64 = .ok (.getfield 174, 3) := by decide +kernel
theorem dX8_tellOfAny_67 : decode cX8_tellOfAny 67 = .ok (.aload_n 1, 1) := by decide +kernel
theorem dX8_tellOfAny_68 : decode cX8_tellOfAny 68 = .ok (.getfield 206, 3) := by decide +kernel
theorem dX8_tellOfAny_71 : decode cX8_tellOfAny 71 = .ok (.invokevirtual 178, 3) := by decide +kernel
theorem dX8_tellOfAny_74 : decode cX8_tellOfAny 74 = .ok (.ireturn, 1) := by decide +kernel
theorem dX8_tellOfAny_75 : decode cX8_tellOfAny 75 = .ok (.aload_n 1, 1) := by decide +kernel
theorem dX8_tellOfAny_76 : decode cX8_tellOfAny 76 = .ok (.getfield 201, 3) := by decide +kernel
theorem dX8_tellOfAny_79 : decode cX8_tellOfAny 79 = .ok (.ifCond .eq 7, 3) := by decide +kernel
theorem dX8_tellOfAny_82 : decode cX8_tellOfAny 82 = .ok (.iconst 1, 1) := by decide +kernel
theorem dX8_tellOfAny_83 : decode cX8_tellOfAny 83 = .ok (.goto 4, 3) := by decide +kernel
theorem dX8_tellOfAny_86 : decode cX8_tellOfAny 86 = .ok (.iconst 0, 1) := by decide +kernel
theorem dX8_tellOfAny_87 : decode cX8_tellOfAny 87 = .ok (.ireturn, 1) := by decide +kernel
theorem dX8_tellOfAny_88 : decode cX8_tellOfAny 88 = .ok (.aload_n 1, 1) := by decide +kernel
theorem dX8_tellOfAny_89 : decode cX8_tellOfAny 89 = .ok (.getfield 249, 3) := by decide +kernel
theorem dX8_tellOfAny_92 : decode cX8_tellOfAny 92 = .ok (.ifCond .eq 7, 3) := by decide +kernel
theorem dX8_tellOfAny_95 : decode cX8_tellOfAny 95 = .ok (.iconst 1, 1) := by decide +kernel
theorem dX8_tellOfAny_96 : decode cX8_tellOfAny 96 = .ok (.goto 4, 3) := by decide +kernel
theorem dX8_tellOfAny_99 : decode cX8_tellOfAny 99 = .ok (.iconst 0, 1) := by decide +kernel
theorem dX8_tellOfAny_100 : decode cX8_tellOfAny 100 = .ok (.ireturn, 1) := by decide +kernel
theorem dX8_tellOfAny_101 : decode cX8_tellOfAny 101 = .ok (.aload_n 1, 1) := by decide +kernel
theorem dX8_tellOfAny_102 : decode cX8_tellOfAny 102 = .ok (.getfield 252, 3) := by decide +kernel
theorem dX8_tellOfAny_105 : decode cX8_tellOfAny 105 = .ok (.ireturn, 1) := by decide +kernel
theorem dX8_tellOfAny_106 : decode cX8_tellOfAny 106 = .ok (.aload_n 1, 1) := by decide +kernel
theorem dX8_tellOfAny_107 : decode cX8_tellOfAny 107 = .ok (.getfield 255, 3) := by decide +kernel
theorem dX8_tellOfAny_110 : decode cX8_tellOfAny 110 = .ok (.ifCond .eq 7, 3) := by decide +kernel
theorem dX8_tellOfAny_113 : decode cX8_tellOfAny 113 = .ok (.iconst 1, 1) := by decide +kernel
theorem dX8_tellOfAny_114 : decode cX8_tellOfAny 114 = .ok (.goto 4, 3) := by decide +kernel
theorem dX8_tellOfAny_117 : decode cX8_tellOfAny 117 = .ok (.iconst 0, 1) := by decide +kernel
theorem dX8_tellOfAny_118 : decode cX8_tellOfAny 118 = .ok (.ireturn, 1) := by decide +kernel
theorem dX8_tellOfShut_0 : decode cX8_tellOfShut 0 = .ok (.aload_n 1, 1) := by decide +kernel
theorem dX8_tellOfShut_1 : decode cX8_tellOfShut 1 = .ok (.getfield 201, 3) := by decide +kernel
theorem dX8_tellOfShut_4 : decode cX8_tellOfShut 4 = .ok (.ifCond .ne 7, 3) := by decide +kernel
theorem dX8_tellOfShut_7 : decode cX8_tellOfShut 7 = .ok (.sipush (-1005), 3) := by decide +kernel
theorem dX8_tellOfShut_10 : decode cX8_tellOfShut 10 = .ok (.ireturn, 1) := by decide +kernel
theorem dX8_tellOfShut_11 : decode cX8_tellOfShut 11 = .ok (.iload_n 2, 1) := by decide +kernel
theorem dX8_tellOfShut_12 : decode cX8_tellOfShut 12 = .ok (.tableswitch 70 6 11 #[40, 45, 50, 55, 60, 65], 40) := by decide +kernel
theorem dX8_tellOfShut_52 : decode cX8_tellOfShut 52 = .ok (.aload_n 1, 1) := by decide +kernel
theorem dX8_tellOfShut_53 : decode cX8_tellOfShut 53 = .ok (.getfield 258, 3) := by decide +kernel
theorem dX8_tellOfShut_56 : decode cX8_tellOfShut 56 = .ok (.ireturn, 1) := by decide +kernel
theorem dX8_tellOfShut_57 : decode cX8_tellOfShut 57 = .ok (.aload_n 1, 1) := by decide +kernel
theorem dX8_tellOfShut_58 : decode cX8_tellOfShut 58 = .ok (.getfield 261, 3) := by decide +kernel
theorem dX8_tellOfShut_61 : decode cX8_tellOfShut 61 = .ok (.ireturn, 1) := by decide +kernel
theorem dX8_tellOfShut_62 : decode cX8_tellOfShut 62 = .ok (.aload_n 1, 1) := by decide +kernel
theorem dX8_tellOfShut_63 : decode cX8_tellOfShut 63 = .ok (.getfield 264, 3) := by decide +kernel
theorem dX8_tellOfShut_66 : decode cX8_tellOfShut 66 = .ok (.ireturn, 1) := by decide +kernel
theorem dX8_tellOfShut_67 : decode cX8_tellOfShut 67 = .ok (.aload_n 1, 1) := by decide +kernel
theorem dX8_tellOfShut_68 : decode cX8_tellOfShut 68 = .ok (.getfield 267, 3) := by decide +kernel
theorem dX8_tellOfShut_71 : decode cX8_tellOfShut 71 = .ok (.ireturn, 1) := by decide +kernel
theorem dX8_tellOfShut_72 : decode cX8_tellOfShut 72 = .ok (.aload_n 1, 1) := by decide +kernel
theorem dX8_tellOfShut_73 : decode cX8_tellOfShut 73 = .ok (.invokevirtual 270, 3) := by decide +kernel
theorem dX8_tellOfShut_76 : decode cX8_tellOfShut 76 = .ok (.ireturn, 1) := by decide +kernel
theorem dX8_tellOfShut_77 : decode cX8_tellOfShut 77 = .ok (.aload_n 1, 1) := by decide +kernel
theorem dX8_tellOfShut_78 : decode cX8_tellOfShut 78 = .ok (.getfield 273, 3) := by decide +kernel
theorem dX8_tellOfShut_81 : decode cX8_tellOfShut 81 = .ok (.ireturn, 1) := by decide +kernel
theorem dX8_tellOfShut_82 : decode cX8_tellOfShut 82 = .ok (.aload_n 0, 1) := by decide +kernel
theorem dX8_tellOfShut_83 : decode cX8_tellOfShut 83 = .ok (.getfield 10, 3) := by decide +kernel
theorem dX8_tellOfShut_86 : decode cX8_tellOfShut 86 = .ok (.aload_n 1, 1) := by decide +kernel
theorem dX8_tellOfShut_87 : decode cX8_tellOfShut 87 = .ok (.invokevirtual 276, 3) := by decide +kernel
theorem dX8_tellOfShut_90 : decode cX8_tellOfShut 90 = .ok (.ifCond .eq 7, 3) := by decide +kernel
theorem dX8_tellOfShut_93 : decode cX8_tellOfShut 93 = .ok (.iconst 1, 1) := by decide +kernel
theorem dX8_tellOfShut_94 : decode cX8_tellOfShut 94 = .ok (.goto 4, 3) := by decide +kernel
theorem dX8_tellOfShut_97 : decode cX8_tellOfShut 97 = .ok (.iconst 0, 1) := by decide +kernel
theorem dX8_tellOfShut_98 : decode cX8_tellOfShut 98 = .ok (.ireturn, 1) := by decide +kernel
theorem dX8_countOnCable_0 : decode cX8_countOnCable 0 = .ok (.iload_n 1, 1) := by decide +kernel
theorem dX8_countOnCable_1 : decode cX8_countOnCable 1 = .ok (.tableswitch 131 0 7 #[47, 55, 66, 77, 88, 107, 115, 123], 47) := by decide +kernel
theorem dX8_countOnCable_48 : decode cX8_countOnCable 48 = .ok (.aload_n 0, 1) := by decide +kernel
theorem dX8_countOnCable_49 : decode cX8_countOnCable 49 = .ok (.getfield 10, 3) := by decide +kernel
theorem dX8_countOnCable_52 : decode cX8_countOnCable 52 = .ok (.getfield 280, 3) := by decide +kernel
theorem dX8_countOnCable_55 : decode cX8_countOnCable 55 = .ok (.ireturn, 1) := by decide +kernel
theorem dX8_countOnCable_56 : decode cX8_countOnCable 56 = .ok (.aload_n 0, 1) := by decide +kernel
theorem dX8_countOnCable_57 : decode cX8_countOnCable 57 = .ok (.getfield 10, 3) := by decide +kernel
theorem dX8_countOnCable_60 : decode cX8_countOnCable 60 = .ok (.getfield 174, 3) := by decide +kernel
theorem dX8_countOnCable_63 : decode cX8_countOnCable 63 = .ok (.getfield 283, 3) := by decide +kernel
theorem dX8_countOnCable_66 : decode cX8_countOnCable 66 = .ok (.ireturn, 1) := by decide +kernel
theorem dX8_countOnCable_67 : decode cX8_countOnCable 67 = .ok (.aload_n 0, 1) := by decide +kernel
theorem dX8_countOnCable_68 : decode cX8_countOnCable 68 = .ok (.getfield 10, 3) := by decide +kernel
theorem dX8_countOnCable_71 : decode cX8_countOnCable 71 = .ok (.getfield 174, 3) := by decide +kernel
theorem dX8_countOnCable_74 : decode cX8_countOnCable 74 = .ok (.getfield 286, 3) := by decide +kernel
theorem dX8_countOnCable_77 : decode cX8_countOnCable 77 = .ok (.ireturn, 1) := by decide +kernel
theorem dX8_countOnCable_78 : decode cX8_countOnCable 78 = .ok (.aload_n 0, 1) := by decide +kernel
theorem dX8_countOnCable_79 : decode cX8_countOnCable 79 = .ok (.getfield 10, 3) := by decide +kernel
theorem dX8_countOnCable_82 : decode cX8_countOnCable 82 = .ok (.getfield 174, 3) := by decide +kernel
theorem dX8_countOnCable_85 : decode cX8_countOnCable 85 = .ok (.invokevirtual 289, 3) := by decide +kernel
theorem dX8_countOnCable_88 : decode cX8_countOnCable 88 = .ok (.ireturn, 1) := by decide +kernel
theorem dX8_countOnCable_89 : decode cX8_countOnCable 89 = .ok (.aload_n 0, 1) := by decide +kernel
theorem dX8_countOnCable_90 : decode cX8_countOnCable 90 = .ok (.getfield 10, 3) := by decide +kernel
theorem dX8_countOnCable_93 : decode cX8_countOnCable 93 = .ok (.getfield 174, 3) := by decide +kernel
theorem dX8_countOnCable_96 : decode cX8_countOnCable 96 = .ok (.getfield 292, 3) := by decide +kernel
theorem dX8_countOnCable_99 : decode cX8_countOnCable 99 = .ok (.ifCond .eq 7, 3) := by decide +kernel
theorem dX8_countOnCable_102 : decode cX8_countOnCable 102 = .ok (.iconst 1, 1) := by decide +kernel
theorem dX8_countOnCable_103 : decode cX8_countOnCable 103 = .ok (.goto 4, 3) := by decide +kernel
theorem dX8_countOnCable_106 : decode cX8_countOnCable 106 = .ok (.iconst 0, 1) := by decide +kernel
theorem dX8_countOnCable_107 : decode cX8_countOnCable 107 = .ok (.ireturn, 1) := by decide +kernel
theorem dX8_countOnCable_108 : decode cX8_countOnCable 108 = .ok (.aload_n 0, 1) := by decide +kernel
theorem dX8_countOnCable_109 : decode cX8_countOnCable 109 = .ok (.getfield 10, 3) := by decide +kernel
theorem dX8_countOnCable_112 : decode cX8_countOnCable 112 = .ok (.getfield 148, 3) := by decide +kernel
theorem dX8_countOnCable_115 : decode cX8_countOnCable 115 = .ok (.ireturn, 1) := by decide +kernel
theorem dX8_countOnCable_116 : decode cX8_countOnCable 116 = .ok (.aload_n 0, 1) := by decide +kernel
theorem dX8_countOnCable_117 : decode cX8_countOnCable 117 = .ok (.getfield 10, 3) := by decide +kernel
theorem dX8_countOnCable_120 : decode cX8_countOnCable 120 = .ok (.invokevirtual 295, 3) := by decide +kernel
theorem dX8_countOnCable_123 : decode cX8_countOnCable 123 = .ok (.ireturn, 1) := by decide +kernel
theorem dX8_countOnCable_124 : decode cX8_countOnCable 124 = .ok (.aload_n 0, 1) := by decide +kernel
theorem dX8_countOnCable_125 : decode cX8_countOnCable 125 = .ok (.getfield 10, 3) := by decide +kernel
theorem dX8_countOnCable_128 : decode cX8_countOnCable 128 = .ok (.invokevirtual 298, 3) := by decide +kernel
theorem dX8_countOnCable_131 : decode cX8_countOnCable 131 = .ok (.ireturn, 1) := by decide +kernel
theorem dX8_countOnCable_132 : decode cX8_countOnCable 132 = .ok (.aload_n 0, 1) := by decide +kernel
theorem dX8_countOnCable_133 : decode cX8_countOnCable 133 = .ok (.getfield 10, 3) := by decide +kernel
theorem dX8_countOnCable_136 : decode cX8_countOnCable 136 = .ok (.invokevirtual 301, 3) := by decide +kernel
theorem dX8_countOnCable_139 : decode cX8_countOnCable 139 = .ok (.ireturn, 1) := by decide +kernel
theorem dX8_countOthers_0 : decode cX8_countOthers 0 = .ok (.iload_n 1, 1) := by decide +kernel
theorem dX8_countOthers_1 : decode cX8_countOthers 1 = .ok (.tableswitch 141 9 17 #[51, 62, 73, 84, 95, 106, 117, 125, 133], 51) := by decide +kernel
theorem dX8_countOthers_52 : decode cX8_countOthers 52 = .ok (.aload_n 0, 1) := by decide +kernel
theorem dX8_countOthers_53 : decode cX8_countOthers 53 = .ok (.getfield 10, 3) := by decide +kernel
theorem dX8_countOthers_56 : decode cX8_countOthers 56 = .ok (.getfield 162, 3) := by decide +kernel
theorem dX8_countOthers_59 : decode cX8_countOthers 59 = .ok (.getfield 166, 3) := by decide +kernel
theorem dX8_countOthers_62 : decode cX8_countOthers 62 = .ok (.ireturn, 1) := by decide +kernel
theorem dX8_countOthers_63 : decode cX8_countOthers 63 = .ok (.aload_n 0, 1) := by decide +kernel
theorem dX8_countOthers_64 : decode cX8_countOthers 64 = .ok (.getfield 10, 3) := by decide +kernel
theorem dX8_countOthers_67 : decode cX8_countOthers 67 = .ok (.getfield 162, 3) := by decide +kernel
theorem dX8_countOthers_70 : decode cX8_countOthers 70 = .ok (.getfield 304, 3) := by decide +kernel
theorem dX8_countOthers_73 : decode cX8_countOthers 73 = .ok (.ireturn, 1) := by decide +kernel
theorem dX8_countOthers_74 : decode cX8_countOthers 74 = .ok (.aload_n 0, 1) := by decide +kernel
theorem dX8_countOthers_75 : decode cX8_countOthers 75 = .ok (.getfield 10, 3) := by decide +kernel
theorem dX8_countOthers_78 : decode cX8_countOthers 78 = .ok (.getfield 162, 3) := by decide +kernel
theorem dX8_countOthers_81 : decode cX8_countOthers 81 = .ok (.getfield 306, 3) := by decide +kernel
theorem dX8_countOthers_84 : decode cX8_countOthers 84 = .ok (.ireturn, 1) := by decide +kernel
theorem dX8_countOthers_85 : decode cX8_countOthers 85 = .ok (.aload_n 0, 1) := by decide +kernel
theorem dX8_countOthers_86 : decode cX8_countOthers 86 = .ok (.getfield 10, 3) := by decide +kernel
theorem dX8_countOthers_89 : decode cX8_countOthers 89 = .ok (.getfield 162, 3) := by decide +kernel
theorem dX8_countOthers_92 : decode cX8_countOthers 92 = .ok (.getfield 309, 3) := by decide +kernel
theorem dX8_countOthers_95 : decode cX8_countOthers 95 = .ok (.ireturn, 1) := by decide +kernel
theorem dX8_countOthers_96 : decode cX8_countOthers 96 = .ok (.aload_n 0, 1) := by decide +kernel
theorem dX8_countOthers_97 : decode cX8_countOthers 97 = .ok (.getfield 10, 3) := by decide +kernel
theorem dX8_countOthers_100 : decode cX8_countOthers 100 = .ok (.getfield 162, 3) := by decide +kernel
theorem dX8_countOthers_103 : decode cX8_countOthers 103 = .ok (.getfield 312, 3) := by decide +kernel
theorem dX8_countOthers_106 : decode cX8_countOthers 106 = .ok (.ireturn, 1) := by decide +kernel
theorem dX8_countOthers_107 : decode cX8_countOthers 107 = .ok (.aload_n 0, 1) := by decide +kernel
theorem dX8_countOthers_108 : decode cX8_countOthers 108 = .ok (.getfield 10, 3) := by decide +kernel
theorem dX8_countOthers_111 : decode cX8_countOthers 111 = .ok (.getfield 162, 3) := by decide +kernel
theorem dX8_countOthers_114 : decode cX8_countOthers 114 = .ok (.getfield 315, 3) := by decide +kernel
theorem dX8_countOthers_117 : decode cX8_countOthers 117 = .ok (.ireturn, 1) := by decide +kernel
theorem dX8_countOthers_118 : decode cX8_countOthers 118 = .ok (.aload_n 0, 1) := by decide +kernel
theorem dX8_countOthers_119 : decode cX8_countOthers 119 = .ok (.getfield 10, 3) := by decide +kernel
theorem dX8_countOthers_122 : decode cX8_countOthers 122 = .ok (.getfield 318, 3) := by decide +kernel
theorem dX8_countOthers_125 : decode cX8_countOthers 125 = .ok (.ireturn, 1) := by decide +kernel
theorem dX8_countOthers_126 : decode cX8_countOthers 126 = .ok (.aload_n 0, 1) := by decide +kernel
theorem dX8_countOthers_127 : decode cX8_countOthers 127 = .ok (.getfield 10, 3) := by decide +kernel
theorem dX8_countOthers_130 : decode cX8_countOthers 130 = .ok (.getfield 321, 3) := by decide +kernel
theorem dX8_countOthers_133 : decode cX8_countOthers 133 = .ok (.ireturn, 1) := by decide +kernel
theorem dX8_countOthers_134 : decode cX8_countOthers 134 = .ok (.aload_n 0, 1) := by decide +kernel
theorem dX8_countOthers_135 : decode cX8_countOthers 135 = .ok (.getfield 28, 3) := by decide +kernel
theorem dX8_countOthers_138 : decode cX8_countOthers 138 = .ok (.getfield 142, 3) := by decide +kernel
theorem dX8_countOthers_141 : decode cX8_countOthers 141 = .ok (.ireturn, 1) := by decide +kernel
theorem dX8_countOthers_142 : decode cX8_countOthers 142 = .ok (.aload_n 0, 1) := by decide +kernel
theorem dX8_countOthers_143 : decode cX8_countOthers 143 = .ok (.getfield 35, 3) := by decide +kernel
theorem dX8_countOthers_146 : decode cX8_countOthers 146 = .ok (.getfield 95, 3) := by decide +kernel
theorem dX8_countOthers_149 : decode cX8_countOthers 149 = .ok (.ireturn, 1) := by decide +kernel
theorem dX9_init_0 : decode cX9_init 0 = .ok (.aload_n 0, 1) := by decide +kernel
theorem dX9_init_1 : decode cX9_init 1 = .ok (.invokespecial 1, 3) := by decide +kernel
theorem dX9_init_4 : decode cX9_init 4 = .ok (.aload_n 0, 1) := by decide +kernel
theorem dX9_init_5 : decode cX9_init 5 = .ok (.sipush 1416, 3) := by decide +kernel
theorem dX9_init_8 : decode cX9_init 8 = .ok (.newarray .int, 2) := by decide +kernel
theorem dX9_init_10 : decode cX9_init 10 = .ok (.putfield 7, 3) := by decide +kernel
theorem dX9_init_13 : decode cX9_init 13 = .ok (.aload_n 0, 1) := by decide +kernel
theorem dX9_init_14 : decode cX9_init 14 = .ok (.bipush 60, 2) := by decide +kernel
theorem dX9_init_16 : decode cX9_init 16 = .ok (.newarray .int, 2) := by decide +kernel
theorem dX9_init_18 : decode cX9_init 18 = .ok (.putfield 13, 3) := by decide +kernel
theorem dX9_init_21 : decode cX9_init 21 = .ok (.aload_n 0, 1) := by decide +kernel
theorem dX9_init_22 : decode cX9_init 22 = .ok (.sipush (-1005), 3) := by decide +kernel
theorem dX9_init_25 : decode cX9_init 25 = .ok (.putfield 16, 3) := by decide +kernel
theorem dX9_init_28 : decode cX9_init 28 = .ok (.aload_n 0, 1) := by decide +kernel
theorem dX9_init_29 : decode cX9_init 29 = .ok (.sipush (-1005), 3) := by decide +kernel
theorem dX9_init_32 : decode cX9_init 32 = .ok (.putfield 20, 3) := by decide +kernel
theorem dX9_init_35 : decode cX9_init 35 = .ok (.aload_n 0, 1) := by decide +kernel
theorem dX9_init_36 : decode cX9_init 36 = .ok (.getfield 7, 3) := by decide +kernel
theorem dX9_init_39 : decode cX9_init 39 = .ok (.bipush 11, 2) := by decide +kernel
theorem dX9_init_41 : decode cX9_init 41 = .ok (.bipush 20, 2) := by decide +kernel
theorem dX9_init_43 : decode cX9_init 43 = .ok (.iastore, 1) := by decide +kernel
theorem dX9_init_44 : decode cX9_init 44 = .ok (.aload_n 0, 1) := by decide +kernel
theorem dX9_init_45 : decode cX9_init 45 = .ok (.getfield 7, 3) := by decide +kernel
theorem dX9_init_48 : decode cX9_init 48 = .ok (.bipush 12, 2) := by decide +kernel
theorem dX9_init_50 : decode cX9_init 50 = .ok (.sipush 200, 3) := by decide +kernel
theorem dX9_init_53 : decode cX9_init 53 = .ok (.iastore, 1) := by decide +kernel
theorem dX9_init_54 : decode cX9_init 54 = .ok (.iconst 0, 1) := by decide +kernel
theorem dX9_init_55 : decode cX9_init 55 = .ok (.istore_n 1, 1) := by decide +kernel
theorem dX9_init_56 : decode cX9_init 56 = .ok (.iload_n 1, 1) := by decide +kernel
theorem dX9_init_57 : decode cX9_init 57 = .ok (.bipush 10, 2) := by decide +kernel
theorem dX9_init_59 : decode cX9_init 59 = .ok (.if_icmp .ge 46, 3) := by decide +kernel
theorem dX9_init_62 : decode cX9_init 62 = .ok (.aload_n 0, 1) := by decide +kernel
theorem dX9_init_63 : decode cX9_init 63 = .ok (.getfield 7, 3) := by decide +kernel
theorem dX9_init_66 : decode cX9_init 66 = .ok (.bipush 13, 2) := by decide +kernel
theorem dX9_init_68 : decode cX9_init 68 = .ok (.iconst 2, 1) := by decide +kernel
theorem dX9_init_69 : decode cX9_init 69 = .ok (.iload_n 1, 1) := by decide +kernel
theorem dX9_init_70 : decode cX9_init 70 = .ok (.imul, 1) := by decide +kernel
theorem dX9_init_71 : decode cX9_init 71 = .ok (.iadd, 1) := by decide +kernel
theorem dX9_init_72 : decode cX9_init 72 = .ok (.sipush 200, 3) := by decide +kernel
theorem dX9_init_75 : decode cX9_init 75 = .ok (.bipush 20, 2) := by decide +kernel
theorem dX9_init_77 : decode cX9_init 77 = .ok (.iload_n 1, 1) := by decide +kernel
theorem dX9_init_78 : decode cX9_init 78 = .ok (.imul, 1) := by decide +kernel
theorem dX9_init_79 : decode cX9_init 79 = .ok (.isub, 1) := by decide +kernel
theorem dX9_init_80 : decode cX9_init 80 = .ok (.iastore, 1) := by decide +kernel
theorem dX9_init_81 : decode cX9_init 81 = .ok (.aload_n 0, 1) := by decide +kernel
theorem dX9_init_82 : decode cX9_init 82 = .ok (.getfield 7, 3) := by decide +kernel
theorem dX9_init_85 : decode cX9_init 85 = .ok (.bipush 13, 2) := by decide +kernel
theorem dX9_init_87 : decode cX9_init 87 = .ok (.iconst 2, 1) := by decide +kernel
theorem dX9_init_88 : decode cX9_init 88 = .ok (.iload_n 1, 1) := by decide +kernel
theorem dX9_init_89 : decode cX9_init 89 = .ok (.imul, 1) := by decide +kernel
theorem dX9_init_90 : decode cX9_init 90 = .ok (.iadd, 1) := by decide +kernel
theorem dX9_init_91 : decode cX9_init 91 = .ok (.iconst 1, 1) := by decide +kernel
theorem dX9_init_92 : decode cX9_init 92 = .ok (.iadd, 1) := by decide +kernel
theorem dX9_init_93 : decode cX9_init 93 = .ok (.sipush 340, 3) := by decide +kernel
theorem dX9_init_96 : decode cX9_init 96 = .ok (.iload_n 1, 1) := by decide +kernel
theorem dX9_init_97 : decode cX9_init 97 = .ok (.iadd, 1) := by decide +kernel
theorem dX9_init_98 : decode cX9_init 98 = .ok (.iastore, 1) := by decide +kernel
theorem dX9_init_99 : decode cX9_init 99 = .ok (.iinc 1 1, 3) := by decide +kernel
theorem dX9_init_102 : decode cX9_init 102 = .ok (.goto (-46), 3) := by decide +kernel
theorem dX9_init_105 : decode cX9_init 105 = .ok (.return_, 1) := by decide +kernel
theorem dX9_in_0 : decode cX9_in 0 = .ok (.iload_n 0, 1) := by decide +kernel
theorem dX9_in_1 : decode cX9_in 1 = .ok (.iload_n 1, 1) := by decide +kernel
theorem dX9_in_2 : decode cX9_in 2 = .ok (.if_icmp .lt 12, 3) := by decide +kernel
theorem dX9_in_5 : decode cX9_in 5 = .ok (.iload_n 0, 1) := by decide +kernel
theorem dX9_in_6 : decode cX9_in 6 = .ok (.iload_n 2, 1) := by decide +kernel
theorem dX9_in_7 : decode cX9_in 7 = .ok (.if_icmp .gt 7, 3) := by decide +kernel
theorem dX9_in_10 : decode cX9_in 10 = .ok (.iconst 1, 1) := by decide +kernel
theorem dX9_in_11 : decode cX9_in 11 = .ok (.goto 4, 3) := by decide +kernel
theorem dX9_in_14 : decode cX9_in 14 = .ok (.iconst 0, 1) := by decide +kernel
theorem dX9_in_15 : decode cX9_in 15 = .ok (.ireturn, 1) := by decide +kernel
theorem dX9_flag_0 : decode cX9_flag 0 = .ok (.iload_n 0, 1) := by decide +kernel
theorem dX9_flag_1 : decode cX9_flag 1 = .ok (.ifCond .eq 7, 3) := by decide +kernel
theorem dX9_flag_4 : decode cX9_flag 4 = .ok (.iconst 1, 1) := by decide +kernel
theorem dX9_flag_5 : decode cX9_flag 5 = .ok (.goto 4, 3) := by decide +kernel
theorem dX9_flag_8 : decode cX9_flag 8 = .ok (.iconst 0, 1) := by decide +kernel
theorem dX9_flag_9 : decode cX9_flag 9 = .ok (.ireturn, 1) := by decide +kernel
theorem dX9_size_0 : decode cX9_size 0 = .ok (.iload_n 0, 1) := by decide +kernel
theorem dX9_size_1 : decode cX9_size 1 = .ok (.ifCond .ge 8, 3) := by decide +kernel
theorem dX9_size_4 : decode cX9_size 4 = .ok (.iload_n 0, 1) := by decide +kernel
theorem dX9_size_5 : decode cX9_size 5 = .ok (.ineg, 1) := by decide +kernel
theorem dX9_size_6 : decode cX9_size 6 = .ok (.goto 4, 3) := by decide +kernel
theorem dX9_size_9 : decode cX9_size 9 = .ok (.iload_n 0, 1) := by decide +kernel
theorem dX9_size_10 : decode cX9_size 10 = .ok (.ireturn, 1) := by decide +kernel
theorem dX9_copies_0 : decode cX9_copies 0 = .ok (.iconst 0, 1) := by decide +kernel
theorem dX9_copies_1 : decode cX9_copies 1 = .ok (.istore_n 3, 1) := by decide +kernel
theorem dX9_copies_2 : decode cX9_copies 2 = .ok (.iload_n 3, 1) := by decide +kernel
theorem dX9_copies_3 : decode cX9_copies 3 = .ok (.sipush 177, 3) := by decide +kernel
theorem dX9_copies_6 : decode cX9_copies 6 = .ok (.if_icmp .ge 33, 3) := by decide +kernel
theorem dX9_copies_9 : decode cX9_copies 9 = .ok (.aload_n 0, 1) := by decide +kernel
theorem dX9_copies_10 : decode cX9_copies 10 = .ok (.getfield 7, 3) := by decide +kernel
theorem dX9_copies_13 : decode cX9_copies 13 = .ok (.sipush 177, 3) := by decide +kernel
theorem dX9_copies_16 : decode cX9_copies 16 = .ok (.iload_n 2, 1) := by decide +kernel
theorem dX9_copies_17 : decode cX9_copies 17 = .ok (.imul, 1) := by decide +kernel
theorem dX9_copies_18 : decode cX9_copies 18 = .ok (.iload_n 3, 1) := by decide +kernel
theorem dX9_copies_19 : decode cX9_copies 19 = .ok (.iadd, 1) := by decide +kernel
theorem dX9_copies_20 : decode cX9_copies 20 = .ok (.aload_n 0, 1) := by decide +kernel
theorem dX9_copies_21 : decode cX9_copies 21 = .ok (.getfield 7, 3) := by decide +kernel
theorem dX9_copies_24 : decode cX9_copies 24 = .ok (.sipush 177, 3) := by decide +kernel
theorem dX9_copies_27 : decode cX9_copies 27 = .ok (.iload_n 1, 1) := by decide +kernel
theorem dX9_copies_28 : decode cX9_copies 28 = .ok (.imul, 1) := by decide +kernel
theorem dX9_copies_29 : decode cX9_copies 29 = .ok (.iload_n 3, 1) := by decide +kernel
theorem dX9_copies_30 : decode cX9_copies 30 = .ok (.iadd, 1) := by decide +kernel
theorem dX9_copies_31 : decode cX9_copies 31 = .ok (.iaload, 1) := by decide +kernel
theorem dX9_copies_32 : decode cX9_copies 32 = .ok (.iastore, 1) := by decide +kernel
theorem dX9_copies_33 : decode cX9_copies 33 = .ok (.iinc 3 1, 3) := by decide +kernel
theorem dX9_copies_36 : decode cX9_copies 36 = .ok (.goto (-34), 3) := by decide +kernel
theorem dX9_copies_39 : decode cX9_copies 39 = .ok (.return_, 1) := by decide +kernel
theorem dX9_records_0 : decode cX9_records 0 = .ok (.aload_n 0, 1) := by decide +kernel
theorem dX9_records_1 : decode cX9_records 1 = .ok (.getfield 23, 3) := by decide +kernel
theorem dX9_records_4 : decode cX9_records 4 = .ok (.iconst 4, 1) := by decide +kernel
theorem dX9_records_5 : decode cX9_records 5 = .ok (.if_icmp .ne 34, 3) := by decide +kernel
theorem dX9_records_8 : decode cX9_records 8 = .ok (.iconst 1, 1) := by decide +kernel
theorem dX9_records_9 : decode cX9_records 9 = .ok (.istore_n 2, 1) := by decide +kernel
theorem dX9_records_10 : decode cX9_records 10 = .ok (.iload_n 2, 1) := by decide +kernel
theorem dX9_records_11 : decode cX9_records 11 = .ok (.iconst 4, 1) := by decide +kernel
theorem dX9_records_12 : decode cX9_records 12 = .ok (.if_icmp .ge 17, 3) := by decide +kernel
theorem dX9_records_15 : decode cX9_records 15 = .ok (.aload_n 0, 1) := by decide +kernel
theorem dX9_records_16 : decode cX9_records 16 = .ok (.iload_n 2, 1) := by decide +kernel
theorem dX9_records_17 : decode cX9_records 17 = .ok (.iconst 1, 1) := by decide +kernel
theorem dX9_records_18 : decode cX9_records 18 = .ok (.iadd, 1) := by decide +kernel
theorem dX9_records_19 : decode cX9_records 19 = .ok (.iload_n 2, 1) := by decide +kernel
theorem dX9_records_20 : decode cX9_records 20 = .ok (.invokevirtual 26, 3) := by decide +kernel
theorem dX9_records_23 : decode cX9_records 23 = .ok (.iinc 2 1, 3) := by decide +kernel
theorem dX9_records_26 : decode cX9_records 26 = .ok (.goto (-16), 3) := by decide +kernel
theorem dX9_records_29 : decode cX9_records 29 = .ok (.aload_n 0, 1) := by decide +kernel
theorem dX9_records_30 : decode cX9_records 30 = .ok (.dup, 1) := by decide +kernel
theorem dX9_records_31 : decode cX9_records 31 = .ok (.getfield 23, 3) := by decide +kernel
theorem dX9_records_34 : decode cX9_records 34 = .ok (.iconst 1, 1) := by decide +kernel
theorem dX9_records_35 : decode cX9_records 35 = .ok (.isub, 1) := by decide +kernel
theorem dX9_records_36 : decode cX9_records 36 = .ok (.putfield 23, 3) := by decide +kernel
theorem dX9_records_39 : decode cX9_records 39 = .ok (.aload_n 0, 1) := by decide +kernel
theorem dX9_records_40 : decode cX9_records 40 = .ok (.dup, 1) := by decide +kernel
theorem dX9_records_41 : decode cX9_records 41 = .ok (.getfield 23, 3) := by decide +kernel
theorem dX9_records_44 : decode cX9_records 44 = .ok (.iconst 1, 1) := by decide +kernel
theorem dX9_records_45 : decode cX9_records 45 = .ok (.iadd, 1) := by decide +kernel
theorem dX9_records_46 : decode cX9_records 46 = .ok (.putfield 23, 3) := by decide +kernel
theorem dX9_records_49 : decode cX9_records 49 = .ok (.aload_n 0, 1) := by decide +kernel
theorem dX9_records_50 : decode cX9_records 50 = .ok (.iload_n 1, 1) := by decide +kernel
theorem dX9_records_51 : decode cX9_records 51 = .ok (.aload_n 0, 1) := by decide +kernel
theorem dX9_records_52 : decode cX9_records 52 = .ok (.getfield 23, 3) := by decide +kernel
theorem dX9_records_55 : decode cX9_records 55 = .ok (.invokevirtual 26, 3) := by decide +kernel
theorem dX9_records_58 : decode cX9_records 58 = .ok (.return_, 1) := by decide +kernel
theorem dX9_bottleAt_0 : decode cX9_bottleAt 0 = .ok (.iload_n 0, 1) := by decide +kernel
theorem dX9_bottleAt_1 : decode cX9_bottleAt 1 = .ok (.bipush 33, 2) := by decide +kernel
theorem dX9_bottleAt_3 : decode cX9_bottleAt 3 = .ok (.iadd, 1) := by decide +kernel
theorem dX9_bottleAt_4 : decode cX9_bottleAt 4 = .ok (.bipush 12, 2) := by decide +kernel
theorem dX9_bottleAt_6 : decode cX9_bottleAt 6 = .ok (.iload_n 1, 1) := by decide +kernel
theorem dX9_bottleAt_7 : decode cX9_bottleAt 7 = .ok (.imul, 1) := by decide +kernel
theorem dX9_bottleAt_8 : decode cX9_bottleAt 8 = .ok (.iadd, 1) := by decide +kernel
theorem dX9_bottleAt_9 : decode cX9_bottleAt 9 = .ok (.ireturn, 1) := by decide +kernel
theorem dX9_messengerAt_0 : decode cX9_messengerAt 0 = .ok (.iload_n 0, 1) := by decide +kernel
theorem dX9_messengerAt_1 : decode cX9_messengerAt 1 = .ok (.sipush 153, 3) := by decide +kernel
theorem dX9_messengerAt_4 : decode cX9_messengerAt 4 = .ok (.iadd, 1) := by decide +kernel
theorem dX9_messengerAt_5 : decode cX9_messengerAt 5 = .ok (.iconst 2, 1) := by decide +kernel
theorem dX9_messengerAt_6 : decode cX9_messengerAt 6 = .ok (.iload_n 1, 1) := by decide +kernel
theorem dX9_messengerAt_7 : decode cX9_messengerAt 7 = .ok (.imul, 1) := by decide +kernel
theorem dX9_messengerAt_8 : decode cX9_messengerAt 8 = .ok (.iadd, 1) := by decide +kernel
theorem dX9_messengerAt_9 : decode cX9_messengerAt 9 = .ok (.ireturn, 1) := by decide +kernel
theorem dX9_counted_0 : decode cX9_counted 0 = .ok (.aload_n 0, 1) := by decide +kernel
theorem dX9_counted_1 : decode cX9_counted 1 = .ok (.getfield 7, 3) := by decide +kernel
theorem dX9_counted_4 : decode cX9_counted 4 = .ok (.iload_n 1, 1) := by decide +kernel
theorem dX9_counted_5 : decode cX9_counted 5 = .ok (.iconst 2, 1) := by decide +kernel
theorem dX9_counted_6 : decode cX9_counted 6 = .ok (.iadd, 1) := by decide +kernel
theorem dX9_counted_7 : decode cX9_counted 7 = .ok (.iaload, 1) := by decide +kernel
theorem dX9_counted_8 : decode cX9_counted 8 = .ok (.iconst 2, 1) := by decide +kernel
theorem dX9_counted_9 : decode cX9_counted 9 = .ok (.aload_n 0, 1) := by decide +kernel
theorem dX9_counted_10 : decode cX9_counted 10 = .ok (.getfield 7, 3) := by decide +kernel
theorem dX9_counted_13 : decode cX9_counted 13 = .ok (.iload_n 1, 1) := by decide +kernel
theorem dX9_counted_14 : decode cX9_counted 14 = .ok (.iconst 3, 1) := by decide +kernel
theorem dX9_counted_15 : decode cX9_counted 15 = .ok (.iadd, 1) := by decide +kernel
theorem dX9_counted_16 : decode cX9_counted 16 = .ok (.iaload, 1) := by decide +kernel
theorem dX9_counted_17 : decode cX9_counted 17 = .ok (.imul, 1) := by decide +kernel
theorem dX9_counted_18 : decode cX9_counted 18 = .ok (.iadd, 1) := by decide +kernel
theorem dX9_counted_19 : decode cX9_counted 19 = .ok (.istore_n 2, 1) := by decide +kernel
theorem dX9_counted_20 : decode cX9_counted 20 = .ok (.iload_n 2, 1) := by decide +kernel
theorem dX9_counted_21 : decode cX9_counted 21 = .ok (.bipush 6, 2) := by decide +kernel
theorem dX9_counted_23 : decode cX9_counted 23 = .ok (.if_icmp .le 8, 3) := by decide +kernel
theorem dX9_counted_26 : decode cX9_counted 26 = .ok (.bipush 6, 2) := by decide +kernel
theorem dX9_counted_28 : decode cX9_counted 28 = .ok (.goto 4, 3) := by decide +kernel
theorem dX9_counted_31 : decode cX9_counted 31 = .ok (.iload_n 2, 1) := by decide +kernel
theorem dX9_counted_32 : decode cX9_counted 32 = .ok (.ireturn, 1) := by decide +kernel
theorem dX9_factor_0 : decode cX9_factor 0 = .ok (.iload_n 0, 1) := by decide +kernel
theorem dX9_factor_1 : decode cX9_factor 1 = .ok (.tableswitch 63 0 5 #[39, 43, 47, 51, 55, 59], 39) := by decide +kernel
theorem dX9_factor_40 : decode cX9_factor 40 = .ok (.sipush 1000, 3) := by decide +kernel
theorem dX9_factor_43 : decode cX9_factor 43 = .ok (.ireturn, 1) := by decide +kernel
theorem dX9_factor_44 : decode cX9_factor 44 = .ok (.sipush 985, 3) := by decide +kernel
theorem dX9_factor_47 : decode cX9_factor 47 = .ok (.ireturn, 1) := by decide +kernel
theorem dX9_factor_48 : decode cX9_factor 48 = .ok (.sipush 940, 3) := by decide +kernel
theorem dX9_factor_51 : decode cX9_factor 51 = .ok (.ireturn, 1) := by decide +kernel
theorem dX9_factor_52 : decode cX9_factor 52 = .ok (.sipush 866, 3) := by decide +kernel
theorem dX9_factor_55 : decode cX9_factor 55 = .ok (.ireturn, 1) := by decide +kernel
theorem dX9_factor_56 : decode cX9_factor 56 = .ok (.sipush 766, 3) := by decide +kernel
theorem dX9_factor_59 : decode cX9_factor 59 = .ok (.ireturn, 1) := by decide +kernel
theorem dX9_factor_60 : decode cX9_factor 60 = .ok (.sipush 643, 3) := by decide +kernel
theorem dX9_factor_63 : decode cX9_factor 63 = .ok (.ireturn, 1) := by decide +kernel
theorem dX9_factor_64 : decode cX9_factor 64 = .ok (.sipush 500, 3) := by decide +kernel
theorem dX9_factor_67 : decode cX9_factor 67 = .ok (.ireturn, 1) := by decide +kernel
theorem dX9_deep_0 : decode cX9_deep 0 = .ok (.iload_n 0, 1) := by decide +kernel
theorem dX9_deep_1 : decode cX9_deep 1 = .ok (.iload_n 1, 1) := by decide +kernel
theorem dX9_deep_2 : decode cX9_deep 2 = .ok (.invokestatic 30, 3) := by decide +kernel
theorem dX9_deep_5 : decode cX9_deep 5 = .ok (.imul, 1) := by decide +kernel
theorem dX9_deep_6 : decode cX9_deep 6 = .ok (.sipush 1000, 3) := by decide +kernel
theorem dX9_deep_9 : decode cX9_deep 9 = .ok (.idiv, 1) := by decide +kernel
theorem dX9_deep_10 : decode cX9_deep 10 = .ok (.ireturn, 1) := by decide +kernel
theorem dX9_isInWater_0 : decode cX9_isInWater 0 = .ok (.aload_n 0, 1) := by decide +kernel
theorem dX9_isInWater_1 : decode cX9_isInWater 1 = .ok (.getfield 7, 3) := by decide +kernel
theorem dX9_isInWater_4 : decode cX9_isInWater 4 = .ok (.iload_n 1, 1) := by decide +kernel
theorem dX9_isInWater_5 : decode cX9_isInWater 5 = .ok (.iload_n 2, 1) := by decide +kernel
theorem dX9_isInWater_6 : decode cX9_isInWater 6 = .ok (.invokestatic 34, 3) := by decide +kernel
theorem dX9_isInWater_9 : decode cX9_isInWater 9 = .ok (.iaload, 1) := by decide +kernel
theorem dX9_isInWater_10 : decode cX9_isInWater 10 = .ok (.aload_n 0, 1) := by decide +kernel
theorem dX9_isInWater_11 : decode cX9_isInWater 11 = .ok (.getfield 7, 3) := by decide +kernel
theorem dX9_isInWater_14 : decode cX9_isInWater 14 = .ok (.iload_n 1, 1) := by decide +kernel
theorem dX9_isInWater_15 : decode cX9_isInWater 15 = .ok (.iconst 1, 1) := by decide +kernel
theorem dX9_isInWater_16 : decode cX9_isInWater 16 = .ok (.iadd, 1) := by decide +kernel
theorem dX9_isInWater_17 : decode cX9_isInWater 17 = .ok (.iaload, 1) := by decide +kernel
theorem dX9_isInWater_18 : decode cX9_isInWater 18 = .ok (.if_icmp .ge 7, 3) := by decide +kernel
theorem dX9_isInWater_21 : decode cX9_isInWater 21 = .ok (.iconst 1, 1) := by decide +kernel
theorem dX9_isInWater_22 : decode cX9_isInWater 22 = .ok (.goto 4, 3) := by decide +kernel
theorem dX9_isInWater_25 : decode cX9_isInWater 25 = .ok (.iconst 0, 1) := by decide +kernel
theorem dX9_isInWater_26 : decode cX9_isInWater 26 = .ok (.ireturn, 1) := by decide +kernel
theorem dX9_metre_0 : decode cX9_metre 0 = .ok (.aload_n 0, 1) := by decide +kernel
theorem dX9_metre_1 : decode cX9_metre 1 = .ok (.iload_n 1, 1) := by decide +kernel
theorem dX9_metre_2 : decode cX9_metre 2 = .ok (.iload_n 2, 1) := by decide +kernel
theorem dX9_metre_3 : decode cX9_metre 3 = .ok (.invokevirtual 38, 3) := by decide +kernel
theorem dX9_metre_6 : decode cX9_metre 6 = .ok (.ifCond .eq 25, 3) := by decide +kernel
theorem dX9_metre_9 : decode cX9_metre 9 = .ok (.aload_n 0, 1) := by decide +kernel
theorem dX9_metre_10 : decode cX9_metre 10 = .ok (.getfield 7, 3) := by decide +kernel
theorem dX9_metre_13 : decode cX9_metre 13 = .ok (.iload_n 1, 1) := by decide +kernel
theorem dX9_metre_14 : decode cX9_metre 14 = .ok (.iconst 1, 1) := by decide +kernel
theorem dX9_metre_15 : decode cX9_metre 15 = .ok (.iadd, 1) := by decide +kernel
theorem dX9_metre_16 : decode cX9_metre 16 = .ok (.iaload, 1) := by decide +kernel
theorem dX9_metre_17 : decode cX9_metre 17 = .ok (.aload_n 0, 1) := by decide +kernel
theorem dX9_metre_18 : decode cX9_metre 18 = .ok (.getfield 7, 3) := by decide +kernel
theorem dX9_metre_21 : decode cX9_metre 21 = .ok (.iload_n 1, 1) := by decide +kernel
theorem dX9_metre_22 : decode cX9_metre 22 = .ok (.iload_n 2, 1) := by decide +kernel
theorem dX9_metre_23 : decode cX9_metre 23 = .ok (.invokestatic 34, 3) := by decide +kernel
theorem dX9_metre_26 : decode cX9_metre 26 = .ok (.iaload, 1) := by decide +kernel
theorem dX9_metre_27 : decode cX9_metre 27 = .ok (.isub, 1) := by decide +kernel
theorem dX9_metre_28 : decode cX9_metre 28 = .ok (.goto 4, 3) := by decide +kernel
theorem dX9_metre_31 : decode cX9_metre 31 = .ok (.iconst 0, 1) := by decide +kernel
theorem dX9_metre_32 : decode cX9_metre 32 = .ok (.ireturn, 1) := by decide +kernel
theorem dX9_layerOf_0 : decode cX9_layerOf 0 = .ok (.iload_n 0, 1) := by decide +kernel
theorem dX9_layerOf_1 : decode cX9_layerOf 1 = .ok (.bipush 100, 2) := by decide +kernel
theorem dX9_layerOf_3 : decode cX9_layerOf 3 = .ok (.idiv, 1) := by decide +kernel
theorem dX9_layerOf_4 : decode cX9_layerOf 4 = .ok (.bipush 9, 2) := by decide +kernel
theorem dX9_layerOf_6 : decode cX9_layerOf 6 = .ok (.if_icmp .le 8, 3) := by decide +kernel
theorem dX9_layerOf_9 : decode cX9_layerOf 9 = .ok (.bipush 9, 2) := by decide +kernel
theorem dX9_layerOf_11 : decode cX9_layerOf 11 = .ok (.goto 7, 3) := by decide +kernel
theorem dX9_layerOf_14 : decode cX9_layerOf 14 = .ok (.iload_n 0, 1) := by decide +kernel
theorem dX9_layerOf_15 : decode cX9_layerOf 15 = .ok (.bipush 100, 2) := by decide +kernel
theorem dX9_layerOf_17 : decode cX9_layerOf 17 = .ok (.idiv, 1) := by decide +kernel
theorem dX9_layerOf_18 : decode cX9_layerOf 18 = .ok (.ireturn, 1) := by decide +kernel
theorem dX9_shuts_0 : decode cX9_shuts 0 = .ok (.iload_n 1, 1) := by decide +kernel
theorem dX9_shuts_1 : decode cX9_shuts 1 = .ok (.iload_n 2, 1) := by decide +kernel
theorem dX9_shuts_2 : decode cX9_shuts 2 = .ok (.invokestatic 34, 3) := by decide +kernel
theorem dX9_shuts_5 : decode cX9_shuts 5 = .ok (.istore_n 3, 1) := by decide +kernel
theorem dX9_shuts_6 : decode cX9_shuts 6 = .ok (.aload_n 0, 1) := by decide +kernel
theorem dX9_shuts_7 : decode cX9_shuts 7 = .ok (.iload_n 1, 1) := by decide +kernel
theorem dX9_shuts_8 : decode cX9_shuts 8 = .ok (.iload_n 2, 1) := by decide +kernel
theorem dX9_shuts_9 : decode cX9_shuts 9 = .ok (.invokevirtual 42, 3) := by decide +kernel
theorem dX9_shuts_12 : decode cX9_shuts 12 = .ok (.aload_n 0, 1) := by decide +kernel
theorem dX9_shuts_13 : decode cX9_shuts 13 = .ok (.iload_n 1, 1) := by decide +kernel
theorem dX9_shuts_14 : decode cX9_shuts 14 = .ok (.invokevirtual 45, 3) := by decide +kernel
theorem dX9_shuts_17 : decode cX9_shuts 17 = .ok (.invokestatic 48, 3) := by decide +kernel
theorem dX9_shuts_20 : decode cX9_shuts 20 = .ok (.istore 4, 2) := by decide +kernel
theorem dX9_shuts_22 : decode cX9_shuts 22 = .ok (.iload 4, 2) := by decide +kernel
theorem dX9_shuts_24 : decode cX9_shuts 24 = .ok (.invokestatic 51, 3) := by decide +kernel
theorem dX9_shuts_27 : decode cX9_shuts 27 = .ok (.istore 5, 2) := by decide +kernel
theorem dX9_shuts_29 : decode cX9_shuts 29 = .ok (.aload_n 0, 1) := by decide +kernel
theorem dX9_shuts_30 : decode cX9_shuts 30 = .ok (.getfield 7, 3) := by decide +kernel
theorem dX9_shuts_33 : decode cX9_shuts 33 = .ok (.iload_n 3, 1) := by decide +kernel
theorem dX9_shuts_34 : decode cX9_shuts 34 = .ok (.iconst 1, 1) := by decide +kernel
theorem dX9_shuts_35 : decode cX9_shuts 35 = .ok (.iadd, 1) := by decide +kernel
theorem dX9_shuts_36 : decode cX9_shuts 36 = .ok (.iconst 1, 1) := by decide +kernel
theorem dX9_shuts_37 : decode cX9_shuts 37 = .ok (.iastore, 1) := by decide +kernel
theorem dX9_shuts_38 : decode cX9_shuts 38 = .ok (.aload_n 0, 1) := by decide +kernel
theorem dX9_shuts_39 : decode cX9_shuts 39 = .ok (.getfield 7, 3) := by decide +kernel
theorem dX9_shuts_42 : decode cX9_shuts 42 = .ok (.iload_n 3, 1) := by decide +kernel
theorem dX9_shuts_43 : decode cX9_shuts 43 = .ok (.iconst 5, 1) := by decide +kernel
theorem dX9_shuts_44 : decode cX9_shuts 44 = .ok (.iadd, 1) := by decide +kernel
theorem dX9_shuts_45 : decode cX9_shuts 45 = .ok (.aload_n 0, 1) := by decide +kernel
theorem dX9_shuts_46 : decode cX9_shuts 46 = .ok (.getfield 7, 3) := by decide +kernel
theorem dX9_shuts_49 : decode cX9_shuts 49 = .ok (.iload_n 1, 1) := by decide +kernel
theorem dX9_shuts_50 : decode cX9_shuts 50 = .ok (.iconst 0, 1) := by decide +kernel
theorem dX9_shuts_51 : decode cX9_shuts 51 = .ok (.iadd, 1) := by decide +kernel
theorem dX9_shuts_52 : decode cX9_shuts 52 = .ok (.iaload, 1) := by decide +kernel
theorem dX9_shuts_53 : decode cX9_shuts 53 = .ok (.iastore, 1) := by decide +kernel
theorem dX9_shuts_54 : decode cX9_shuts 54 = .ok (.aload_n 0, 1) := by decide +kernel
theorem dX9_shuts_55 : decode cX9_shuts 55 = .ok (.getfield 7, 3) := by decide +kernel
theorem dX9_shuts_58 : decode cX9_shuts 58 = .ok (.iload_n 3, 1) := by decide +kernel
theorem dX9_shuts_59 : decode cX9_shuts 59 = .ok (.bipush 6, 2) := by decide +kernel
theorem dX9_shuts_61 : decode cX9_shuts 61 = .ok (.iadd, 1) := by decide +kernel
theorem dX9_shuts_62 : decode cX9_shuts 62 = .ok (.aload_n 0, 1) := by decide +kernel
theorem dX9_shuts_63 : decode cX9_shuts 63 = .ok (.getfield 7, 3) := by decide +kernel
theorem dX9_shuts_66 : decode cX9_shuts 66 = .ok (.iload_n 1, 1) := by decide +kernel
theorem dX9_shuts_67 : decode cX9_shuts 67 = .ok (.bipush 13, 2) := by decide +kernel
theorem dX9_shuts_69 : decode cX9_shuts 69 = .ok (.iadd, 1) := by decide +kernel
theorem dX9_shuts_70 : decode cX9_shuts 70 = .ok (.iconst 2, 1) := by decide +kernel
theorem dX9_shuts_71 : decode cX9_shuts 71 = .ok (.iload 5, 2) := by decide +kernel
theorem dX9_shuts_73 : decode cX9_shuts 73 = .ok (.imul, 1) := by decide +kernel
theorem dX9_shuts_74 : decode cX9_shuts 74 = .ok (.iadd, 1) := by decide +kernel
theorem dX9_shuts_75 : decode cX9_shuts 75 = .ok (.iaload, 1) := by decide +kernel
theorem dX9_shuts_76 : decode cX9_shuts 76 = .ok (.iastore, 1) := by decide +kernel
theorem dX9_shuts_77 : decode cX9_shuts 77 = .ok (.aload_n 0, 1) := by decide +kernel
theorem dX9_shuts_78 : decode cX9_shuts 78 = .ok (.getfield 7, 3) := by decide +kernel
theorem dX9_shuts_81 : decode cX9_shuts 81 = .ok (.iload_n 3, 1) := by decide +kernel
theorem dX9_shuts_82 : decode cX9_shuts 82 = .ok (.bipush 7, 2) := by decide +kernel
theorem dX9_shuts_84 : decode cX9_shuts 84 = .ok (.iadd, 1) := by decide +kernel
theorem dX9_shuts_85 : decode cX9_shuts 85 = .ok (.aload_n 0, 1) := by decide +kernel
theorem dX9_shuts_86 : decode cX9_shuts 86 = .ok (.getfield 7, 3) := by decide +kernel
theorem dX9_shuts_89 : decode cX9_shuts 89 = .ok (.iload_n 1, 1) := by decide +kernel
theorem dX9_shuts_90 : decode cX9_shuts 90 = .ok (.bipush 13, 2) := by decide +kernel
theorem dX9_shuts_92 : decode cX9_shuts 92 = .ok (.iadd, 1) := by decide +kernel
theorem dX9_shuts_93 : decode cX9_shuts 93 = .ok (.iconst 2, 1) := by decide +kernel
theorem dX9_shuts_94 : decode cX9_shuts 94 = .ok (.iload 5, 2) := by decide +kernel
theorem dX9_shuts_96 : decode cX9_shuts 96 = .ok (.imul, 1) := by decide +kernel
theorem dX9_shuts_97 : decode cX9_shuts 97 = .ok (.iadd, 1) := by decide +kernel
theorem dX9_shuts_98 : decode cX9_shuts 98 = .ok (.iaload, 1) := by decide +kernel
theorem dX9_shuts_99 : decode cX9_shuts 99 = .ok (.iload 4, 2) := by decide +kernel
theorem dX9_shuts_101 : decode cX9_shuts 101 = .ok (.bipush 10, 2) := by decide +kernel
theorem dX9_shuts_103 : decode cX9_shuts 103 = .ok (.idiv, 1) := by decide +kernel
theorem dX9_shuts_104 : decode cX9_shuts 104 = .ok (.iadd, 1) := by decide +kernel
theorem dX9_shuts_105 : decode cX9_shuts 105 = .ok (.iastore, 1) := by decide +kernel
theorem dX9_shuts_106 : decode cX9_shuts 106 = .ok (.aload_n 0, 1) := by decide +kernel
theorem dX9_shuts_107 : decode cX9_shuts 107 = .ok (.getfield 7, 3) := by decide +kernel
theorem dX9_shuts_110 : decode cX9_shuts 110 = .ok (.iload_n 3, 1) := by decide +kernel
theorem dX9_shuts_111 : decode cX9_shuts 111 = .ok (.bipush 8, 2) := by decide +kernel
theorem dX9_shuts_113 : decode cX9_shuts 113 = .ok (.iadd, 1) := by decide +kernel
theorem dX9_shuts_114 : decode cX9_shuts 114 = .ok (.aload_n 0, 1) := by decide +kernel
theorem dX9_shuts_115 : decode cX9_shuts 115 = .ok (.getfield 7, 3) := by decide +kernel
theorem dX9_shuts_118 : decode cX9_shuts 118 = .ok (.iload_n 1, 1) := by decide +kernel
theorem dX9_shuts_119 : decode cX9_shuts 119 = .ok (.bipush 13, 2) := by decide +kernel
theorem dX9_shuts_121 : decode cX9_shuts 121 = .ok (.iadd, 1) := by decide +kernel
theorem dX9_shuts_122 : decode cX9_shuts 122 = .ok (.iconst 2, 1) := by decide +kernel
theorem dX9_shuts_123 : decode cX9_shuts 123 = .ok (.iload 5, 2) := by decide +kernel
theorem dX9_shuts_125 : decode cX9_shuts 125 = .ok (.imul, 1) := by decide +kernel
theorem dX9_shuts_126 : decode cX9_shuts 126 = .ok (.iadd, 1) := by decide +kernel
theorem dX9_shuts_127 : decode cX9_shuts 127 = .ok (.iconst 1, 1) := by decide +kernel
theorem dX9_shuts_128 : decode cX9_shuts 128 = .ok (.iadd, 1) := by decide +kernel
theorem dX9_shuts_129 : decode cX9_shuts 129 = .ok (.iaload, 1) := by decide +kernel
theorem dX9_shuts_130 : decode cX9_shuts 130 = .ok (.iastore, 1) := by decide +kernel
theorem dX9_shuts_131 : decode cX9_shuts 131 = .ok (.aload_n 0, 1) := by decide +kernel
theorem dX9_shuts_132 : decode cX9_shuts 132 = .ok (.getfield 7, 3) := by decide +kernel
theorem dX9_shuts_135 : decode cX9_shuts 135 = .ok (.iload_n 3, 1) := by decide +kernel
theorem dX9_shuts_136 : decode cX9_shuts 136 = .ok (.bipush 9, 2) := by decide +kernel
theorem dX9_shuts_138 : decode cX9_shuts 138 = .ok (.iadd, 1) := by decide +kernel
theorem dX9_shuts_139 : decode cX9_shuts 139 = .ok (.aload_n 0, 1) := by decide +kernel
theorem dX9_shuts_140 : decode cX9_shuts 140 = .ok (.iload_n 1, 1) := by decide +kernel
theorem dX9_shuts_141 : decode cX9_shuts 141 = .ok (.iload_n 2, 1) := by decide +kernel
theorem dX9_shuts_142 : decode cX9_shuts 142 = .ok (.invokevirtual 42, 3) := by decide +kernel
theorem dX9_shuts_145 : decode cX9_shuts 145 = .ok (.iastore, 1) := by decide +kernel
theorem dX9_shuts_146 : decode cX9_shuts 146 = .ok (.aload_n 0, 1) := by decide +kernel
theorem dX9_shuts_147 : decode cX9_shuts 147 = .ok (.getfield 7, 3) := by decide +kernel
theorem dX9_shuts_150 : decode cX9_shuts 150 = .ok (.iload_n 3, 1) := by decide +kernel
theorem dX9_shuts_151 : decode cX9_shuts 151 = .ok (.bipush 10, 2) := by decide +kernel
theorem dX9_shuts_153 : decode cX9_shuts 153 = .ok (.iadd, 1) := by decide +kernel
theorem dX9_shuts_154 : decode cX9_shuts 154 = .ok (.iload 5, 2) := by decide +kernel
theorem dX9_shuts_156 : decode cX9_shuts 156 = .ok (.iastore, 1) := by decide +kernel
theorem dX9_shuts_157 : decode cX9_shuts 157 = .ok (.return_, 1) := by decide +kernel
theorem dX9_removes_0 : decode cX9_removes 0 = .ok (.aload_n 0, 1) := by decide +kernel
theorem dX9_removes_1 : decode cX9_removes 1 = .ok (.getfield 7, 3) := by decide +kernel
theorem dX9_removes_4 : decode cX9_removes 4 = .ok (.iload_n 1, 1) := by decide +kernel
theorem dX9_removes_5 : decode cX9_removes 5 = .ok (.iconst 5, 1) := by decide +kernel
theorem dX9_removes_6 : decode cX9_removes 6 = .ok (.iadd, 1) := by decide +kernel
theorem dX9_removes_7 : decode cX9_removes 7 = .ok (.dup2, 1) := by decide +kernel
theorem dX9_removes_8 : decode cX9_removes 8 = .ok (.iaload, 1) := by decide +kernel
theorem dX9_removes_9 : decode cX9_removes 9 = .ok (.iconst 1, 1) := by decide +kernel
theorem dX9_removes_10 : decode cX9_removes 10 = .ok (.isub, 1) := by decide +kernel
theorem dX9_removes_11 : decode cX9_removes 11 = .ok (.iastore, 1) := by decide +kernel
theorem dX9_removes_12 : decode cX9_removes 12 = .ok (.iload_n 1, 1) := by decide +kernel
theorem dX9_removes_13 : decode cX9_removes 13 = .ok (.iload_n 2, 1) := by decide +kernel
theorem dX9_removes_14 : decode cX9_removes 14 = .ok (.invokestatic 54, 3) := by decide +kernel
theorem dX9_removes_17 : decode cX9_removes 17 = .ok (.istore_n 3, 1) := by decide +kernel
theorem dX9_removes_18 : decode cX9_removes 18 = .ok (.iload_n 3, 1) := by decide +kernel
theorem dX9_removes_19 : decode cX9_removes 19 = .ok (.iload_n 1, 1) := by decide +kernel
theorem dX9_removes_20 : decode cX9_removes 20 = .ok (.aload_n 0, 1) := by decide +kernel
theorem dX9_removes_21 : decode cX9_removes 21 = .ok (.getfield 7, 3) := by decide +kernel
theorem dX9_removes_24 : decode cX9_removes 24 = .ok (.iload_n 1, 1) := by decide +kernel
theorem dX9_removes_25 : decode cX9_removes 25 = .ok (.iconst 5, 1) := by decide +kernel
theorem dX9_removes_26 : decode cX9_removes 26 = .ok (.iadd, 1) := by decide +kernel
theorem dX9_removes_27 : decode cX9_removes 27 = .ok (.iaload, 1) := by decide +kernel
theorem dX9_removes_28 : decode cX9_removes 28 = .ok (.invokestatic 54, 3) := by decide +kernel
theorem dX9_removes_31 : decode cX9_removes 31 = .ok (.if_icmp .ge 23, 3) := by decide +kernel
theorem dX9_removes_34 : decode cX9_removes 34 = .ok (.aload_n 0, 1) := by decide +kernel
theorem dX9_removes_35 : decode cX9_removes 35 = .ok (.getfield 7, 3) := by decide +kernel
theorem dX9_removes_38 : decode cX9_removes 38 = .ok (.iload_n 3, 1) := by decide +kernel
theorem dX9_removes_39 : decode cX9_removes 39 = .ok (.aload_n 0, 1) := by decide +kernel
theorem dX9_removes_40 : decode cX9_removes 40 = .ok (.getfield 7, 3) := by decide +kernel
theorem dX9_removes_43 : decode cX9_removes 43 = .ok (.iload_n 3, 1) := by decide +kernel
theorem dX9_removes_44 : decode cX9_removes 44 = .ok (.iconst 2, 1) := by decide +kernel
theorem dX9_removes_45 : decode cX9_removes 45 = .ok (.iadd, 1) := by decide +kernel
theorem dX9_removes_46 : decode cX9_removes 46 = .ok (.iaload, 1) := by decide +kernel
theorem dX9_removes_47 : decode cX9_removes 47 = .ok (.iastore, 1) := by decide +kernel
theorem dX9_removes_48 : decode cX9_removes 48 = .ok (.iinc 3 1, 3) := by decide +kernel
theorem dX9_removes_51 : decode cX9_removes 51 = .ok (.goto (-33), 3) := by decide +kernel
theorem dX9_removes_54 : decode cX9_removes 54 = .ok (.return_, 1) := by decide +kernel
theorem dX9_starts_0 : decode cX9_starts 0 = .ok (.aload_n 0, 1) := by decide +kernel
theorem dX9_starts_1 : decode cX9_starts 1 = .ok (.getfield 7, 3) := by decide +kernel
theorem dX9_starts_4 : decode cX9_starts 4 = .ok (.iload_n 1, 1) := by decide +kernel
theorem dX9_starts_5 : decode cX9_starts 5 = .ok (.iconst 5, 1) := by decide +kernel
theorem dX9_starts_6 : decode cX9_starts 6 = .ok (.iadd, 1) := by decide +kernel
theorem dX9_starts_7 : decode cX9_starts 7 = .ok (.iaload, 1) := by decide +kernel
theorem dX9_starts_8 : decode cX9_starts 8 = .ok (.istore 4, 2) := by decide +kernel
theorem dX9_starts_10 : decode cX9_starts 10 = .ok (.iload 4, 2) := by decide +kernel
theorem dX9_starts_12 : decode cX9_starts 12 = .ok (.ifCond .le 78, 3) := by decide +kernel
theorem dX9_starts_15 : decode cX9_starts 15 = .ok (.aload_n 0, 1) := by decide +kernel
theorem dX9_starts_16 : decode cX9_starts 16 = .ok (.getfield 7, 3) := by decide +kernel
theorem dX9_starts_19 : decode cX9_starts 19 = .ok (.iload_n 1, 1) := by decide +kernel
theorem dX9_starts_20 : decode cX9_starts 20 = .ok (.iload 4, 2) := by decide +kernel
theorem dX9_starts_22 : decode cX9_starts 22 = .ok (.iconst 1, 1) := by decide +kernel
theorem dX9_starts_23 : decode cX9_starts 23 = .ok (.isub, 1) := by decide +kernel
theorem dX9_starts_24 : decode cX9_starts 24 = .ok (.invokestatic 54, 3) := by decide +kernel
theorem dX9_starts_27 : decode cX9_starts 27 = .ok (.iaload, 1) := by decide +kernel
theorem dX9_starts_28 : decode cX9_starts 28 = .ok (.iload_n 2, 1) := by decide +kernel
theorem dX9_starts_29 : decode cX9_starts 29 = .ok (.if_icmp .le 61, 3) := by decide +kernel
theorem dX9_starts_32 : decode cX9_starts 32 = .ok (.aload_n 0, 1) := by decide +kernel
theorem dX9_starts_33 : decode cX9_starts 33 = .ok (.getfield 7, 3) := by decide +kernel
theorem dX9_starts_36 : decode cX9_starts 36 = .ok (.iload_n 1, 1) := by decide +kernel
theorem dX9_starts_37 : decode cX9_starts 37 = .ok (.iload 4, 2) := by decide +kernel
theorem dX9_starts_39 : decode cX9_starts 39 = .ok (.invokestatic 54, 3) := by decide +kernel
theorem dX9_starts_42 : decode cX9_starts 42 = .ok (.aload_n 0, 1) := by decide +kernel
theorem dX9_starts_43 : decode cX9_starts 43 = .ok (.getfield 7, 3) := by decide +kernel
theorem dX9_starts_46 : decode cX9_starts 46 = .ok (.iload_n 1, 1) := by decide +kernel
theorem dX9_starts_47 : decode cX9_starts 47 = .ok (.iload 4, 2) := by decide +kernel
theorem dX9_starts_49 : decode cX9_starts 49 = .ok (.iconst 1, 1) := by decide +kernel
theorem dX9_starts_50 : decode cX9_starts 50 = .ok (.isub, 1) := by decide +kernel
theorem dX9_starts_51 : decode cX9_starts 51 = .ok (.invokestatic 54, 3) := by decide +kernel
theorem dX9_starts_54 : decode cX9_starts 54 = .ok (.iaload, 1) := by decide +kernel
theorem dX9_starts_55 : decode cX9_starts 55 = .ok (.iastore, 1) := by decide +kernel
theorem dX9_starts_56 : decode cX9_starts 56 = .ok (.aload_n 0, 1) := by decide +kernel
theorem dX9_starts_57 : decode cX9_starts 57 = .ok (.getfield 7, 3) := by decide +kernel
theorem dX9_starts_60 : decode cX9_starts 60 = .ok (.iload_n 1, 1) := by decide +kernel
theorem dX9_starts_61 : decode cX9_starts 61 = .ok (.iload 4, 2) := by decide +kernel
theorem dX9_starts_63 : decode cX9_starts 63 = .ok (.invokestatic 54, 3) := by decide +kernel
theorem dX9_starts_66 : decode cX9_starts 66 = .ok (.iconst 1, 1) := by decide +kernel
theorem dX9_starts_67 : decode cX9_starts 67 = .ok (.iadd, 1) := by decide +kernel
theorem dX9_starts_68 : decode cX9_starts 68 = .ok (.aload_n 0, 1) := by decide +kernel
theorem dX9_starts_69 : decode cX9_starts 69 = .ok (.getfield 7, 3) := by decide +kernel
theorem dX9_starts_72 : decode cX9_starts 72 = .ok (.iload_n 1, 1) := by decide +kernel
theorem dX9_starts_73 : decode cX9_starts 73 = .ok (.iload 4, 2) := by decide +kernel
theorem dX9_starts_75 : decode cX9_starts 75 = .ok (.iconst 1, 1) := by decide +kernel
theorem dX9_starts_76 : decode cX9_starts 76 = .ok (.isub, 1) := by decide +kernel
theorem dX9_starts_77 : decode cX9_starts 77 = .ok (.invokestatic 54, 3) := by decide +kernel
theorem dX9_starts_80 : decode cX9_starts 80 = .ok (.iconst 1, 1) := by decide +kernel
theorem dX9_starts_81 : decode cX9_starts 81 = .ok (.iadd, 1) := by decide +kernel
theorem dX9_starts_82 : decode cX9_starts 82 = .ok (.iaload, 1) := by decide +kernel
theorem dX9_starts_83 : decode cX9_starts 83 = .ok (.iastore, 1) := by decide +kernel
theorem dX9_starts_84 : decode cX9_starts 84 = .ok (.iinc 4 (-1), 3) := by decide +kernel
theorem dX9_starts_87 : decode cX9_starts 87 = .ok (.goto (-77), 3) := by decide +kernel
theorem dX9_starts_90 : decode cX9_starts 90 = .ok (.aload_n 0, 1) := by decide +kernel
theorem dX9_starts_91 : decode cX9_starts 91 = .ok (.getfield 7, 3) := by decide +kernel
theorem dX9_starts_94 : decode cX9_starts 94 = .ok (.iload_n 1, 1) := by decide +kernel
theorem dX9_starts_95 : decode cX9_starts 95 = .ok (.iload 4, 2) := by decide +kernel
theorem dX9_starts_97 : decode cX9_starts 97 = .ok (.invokestatic 54, 3) := by decide +kernel
theorem dX9_starts_100 : decode cX9_starts 100 = .ok (.iload_n 2, 1) := by decide +kernel
theorem dX9_starts_101 : decode cX9_starts 101 = .ok (.iastore, 1) := by decide +kernel
theorem dX9_starts_102 : decode cX9_starts 102 = .ok (.aload_n 0, 1) := by decide +kernel
theorem dX9_starts_103 : decode cX9_starts 103 = .ok (.getfield 7, 3) := by decide +kernel
theorem dX9_starts_106 : decode cX9_starts 106 = .ok (.iload_n 1, 1) := by decide +kernel
theorem dX9_starts_107 : decode cX9_starts 107 = .ok (.iload 4, 2) := by decide +kernel
theorem dX9_starts_109 : decode cX9_starts 109 = .ok (.invokestatic 54, 3) := by decide +kernel
theorem dX9_starts_112 : decode cX9_starts 112 = .ok (.iconst 1, 1) := by decide +kernel
theorem dX9_starts_113 : decode cX9_starts 113 = .ok (.iadd, 1) := by decide +kernel
theorem dX9_starts_114 : decode cX9_starts 114 = .ok (.iload_n 3, 1) := by decide +kernel
theorem dX9_starts_115 : decode cX9_starts 115 = .ok (.iastore, 1) := by decide +kernel
theorem dX9_starts_116 : decode cX9_starts 116 = .ok (.aload_n 0, 1) := by decide +kernel
theorem dX9_starts_117 : decode cX9_starts 117 = .ok (.getfield 7, 3) := by decide +kernel
theorem dX9_starts_120 : decode cX9_starts 120 = .ok (.iload_n 1, 1) := by decide +kernel
theorem dX9_starts_121 : decode cX9_starts 121 = .ok (.iconst 5, 1) := by decide +kernel
theorem dX9_starts_122 : decode cX9_starts 122 = .ok (.iadd, 1) := by decide +kernel
theorem dX9_starts_123 : decode cX9_starts 123 = .ok (.dup2, 1) := by decide +kernel
theorem dX9_starts_124 : decode cX9_starts 124 = .ok (.iaload, 1) := by decide +kernel
theorem dX9_starts_125 : decode cX9_starts 125 = .ok (.iconst 1, 1) := by decide +kernel
theorem dX9_starts_126 : decode cX9_starts 126 = .ok (.iadd, 1) := by decide +kernel
theorem dX9_starts_127 : decode cX9_starts 127 = .ok (.iastore, 1) := by decide +kernel
theorem dX9_starts_128 : decode cX9_starts 128 = .ok (.return_, 1) := by decide +kernel
theorem dX9_met_0 : decode cX9_met 0 = .ok (.sipush (-1005), 3) := by decide +kernel
theorem dX9_met_3 : decode cX9_met 3 = .ok (.istore 4, 2) := by decide +kernel
theorem dX9_met_5 : decode cX9_met 5 = .ok (.iconst 0, 1) := by decide +kernel
theorem dX9_met_6 : decode cX9_met 6 = .ok (.istore 5, 2) := by decide +kernel
theorem dX9_met_8 : decode cX9_met 8 = .ok (.iload 5, 2) := by decide +kernel
theorem dX9_met_10 : decode cX9_met 10 = .ok (.aload_n 0, 1) := by decide +kernel
theorem dX9_met_11 : decode cX9_met 11 = .ok (.getfield 7, 3) := by decide +kernel
theorem dX9_met_14 : decode cX9_met 14 = .ok (.iload_n 1, 1) := by decide +kernel
theorem dX9_met_15 : decode cX9_met 15 = .ok (.iconst 4, 1) := by decide +kernel
theorem dX9_met_16 : decode cX9_met 16 = .ok (.iadd, 1) := by decide +kernel
theorem dX9_met_17 : decode cX9_met 17 = .ok (.iaload, 1) := by decide +kernel
theorem dX9_met_18 : decode cX9_met 18 = .ok (.if_icmp .ge 53, 3) := by decide +kernel
theorem dX9_met_21 : decode cX9_met 21 = .ok (.aload_n 0, 1) := by decide +kernel
theorem dX9_met_22 : decode cX9_met 22 = .ok (.getfield 7, 3) := by decide +kernel
theorem dX9_met_25 : decode cX9_met 25 = .ok (.iload_n 1, 1) := by decide +kernel
theorem dX9_met_26 : decode cX9_met 26 = .ok (.iload 5, 2) := by decide +kernel
theorem dX9_met_28 : decode cX9_met 28 = .ok (.invokestatic 34, 3) := by decide +kernel
theorem dX9_met_31 : decode cX9_met 31 = .ok (.iaload, 1) := by decide +kernel
theorem dX9_met_32 : decode cX9_met 32 = .ok (.istore 6, 2) := by decide +kernel
theorem dX9_met_34 : decode cX9_met 34 = .ok (.aload_n 0, 1) := by decide +kernel
theorem dX9_met_35 : decode cX9_met 35 = .ok (.iload_n 1, 1) := by decide +kernel
theorem dX9_met_36 : decode cX9_met 36 = .ok (.iload 5, 2) := by decide +kernel
theorem dX9_met_38 : decode cX9_met 38 = .ok (.invokevirtual 38, 3) := by decide +kernel
theorem dX9_met_41 : decode cX9_met 41 = .ok (.ifCond .eq 20, 3) := by decide +kernel
theorem dX9_met_44 : decode cX9_met 44 = .ok (.iload 6, 2) := by decide +kernel
theorem dX9_met_46 : decode cX9_met 46 = .ok (.iload_n 2, 1) := by decide +kernel
theorem dX9_met_47 : decode cX9_met 47 = .ok (.if_icmp .ge 14, 3) := by decide +kernel
theorem dX9_met_50 : decode cX9_met 50 = .ok (.iload 6, 2) := by decide +kernel
theorem dX9_met_52 : decode cX9_met 52 = .ok (.iload_n 3, 1) := by decide +kernel
theorem dX9_met_53 : decode cX9_met 53 = .ok (.if_icmp .lt 8, 3) := by decide +kernel
theorem dX9_met_56 : decode cX9_met 56 = .ok (.iload 5, 2) := by decide +kernel
theorem dX9_met_58 : decode cX9_met 58 = .ok (.goto 5, 3) := by decide +kernel
theorem dX9_met_61 : decode cX9_met 61 = .ok (.iload 4, 2) := by decide +kernel
theorem dX9_met_63 : decode cX9_met 63 = .ok (.istore 4, 2) := by decide +kernel
theorem dX9_met_65 : decode cX9_met 65 = .ok (.iinc 5 1, 3) := by decide +kernel
theorem dX9_met_68 : decode cX9_met 68 = .ok (.goto (-60), 3) := by decide +kernel
theorem dX9_met_71 : decode cX9_met 71 = .ok (.iload 4, 2) := by decide +kernel
theorem dX9_met_73 : decode cX9_met 73 = .ok (.ireturn, 1) := by decide +kernel
theorem dX9_strikes_0 : decode cX9_strikes 0 = .ok (.iload_n 1, 1) := by decide +kernel
theorem dX9_strikes_1 : decode cX9_strikes 1 = .ok (.iload_n 2, 1) := by decide +kernel
theorem dX9_strikes_2 : decode cX9_strikes 2 = .ok (.invokestatic 34, 3) := by decide +kernel
theorem dX9_strikes_5 : decode cX9_strikes 5 = .ok (.istore_n 3, 1) := by decide +kernel
theorem dX9_strikes_6 : decode cX9_strikes 6 = .ok (.aload_n 0, 1) := by decide +kernel
theorem dX9_strikes_7 : decode cX9_strikes 7 = .ok (.getfield 7, 3) := by decide +kernel
theorem dX9_strikes_10 : decode cX9_strikes 10 = .ok (.iload_n 3, 1) := by decide +kernel
theorem dX9_strikes_11 : decode cX9_strikes 11 = .ok (.iconst 3, 1) := by decide +kernel
theorem dX9_strikes_12 : decode cX9_strikes 12 = .ok (.iadd, 1) := by decide +kernel
theorem dX9_strikes_13 : decode cX9_strikes 13 = .ok (.dup2, 1) := by decide +kernel
theorem dX9_strikes_14 : decode cX9_strikes 14 = .ok (.iaload, 1) := by decide +kernel
theorem dX9_strikes_15 : decode cX9_strikes 15 = .ok (.iconst 1, 1) := by decide +kernel
theorem dX9_strikes_16 : decode cX9_strikes 16 = .ok (.iadd, 1) := by decide +kernel
theorem dX9_strikes_17 : decode cX9_strikes 17 = .ok (.iastore, 1) := by decide +kernel
theorem dX9_strikes_18 : decode cX9_strikes 18 = .ok (.aload_n 0, 1) := by decide +kernel
theorem dX9_strikes_19 : decode cX9_strikes 19 = .ok (.getfield 7, 3) := by decide +kernel
theorem dX9_strikes_22 : decode cX9_strikes 22 = .ok (.iload_n 1, 1) := by decide +kernel
theorem dX9_strikes_23 : decode cX9_strikes 23 = .ok (.bipush 8, 2) := by decide +kernel
theorem dX9_strikes_25 : decode cX9_strikes 25 = .ok (.iadd, 1) := by decide +kernel
theorem dX9_strikes_26 : decode cX9_strikes 26 = .ok (.dup2, 1) := by decide +kernel
theorem dX9_strikes_27 : decode cX9_strikes 27 = .ok (.iaload, 1) := by decide +kernel
theorem dX9_strikes_28 : decode cX9_strikes 28 = .ok (.iconst 1, 1) := by decide +kernel
theorem dX9_strikes_29 : decode cX9_strikes 29 = .ok (.iadd, 1) := by decide +kernel
theorem dX9_strikes_30 : decode cX9_strikes 30 = .ok (.iastore, 1) := by decide +kernel
theorem dX9_strikes_31 : decode cX9_strikes 31 = .ok (.aload_n 0, 1) := by decide +kernel
theorem dX9_strikes_32 : decode cX9_strikes 32 = .ok (.getfield 7, 3) := by decide +kernel
theorem dX9_strikes_35 : decode cX9_strikes 35 = .ok (.iload_n 3, 1) := by decide +kernel
theorem dX9_strikes_36 : decode cX9_strikes 36 = .ok (.iconst 1, 1) := by decide +kernel
theorem dX9_strikes_37 : decode cX9_strikes 37 = .ok (.iadd, 1) := by decide +kernel
theorem dX9_strikes_38 : decode cX9_strikes 38 = .ok (.iaload, 1) := by decide +kernel
theorem dX9_strikes_39 : decode cX9_strikes 39 = .ok (.iconst 1, 1) := by decide +kernel
theorem dX9_strikes_40 : decode cX9_strikes 40 = .ok (.if_icmp .ne 5, 3) := by decide +kernel
theorem dX9_strikes_43 : decode cX9_strikes 43 = .ok (.iconst 0, 1) := by decide +kernel
theorem dX9_strikes_44 : decode cX9_strikes 44 = .ok (.ireturn, 1) := by decide +kernel
theorem dX9_strikes_45 : decode cX9_strikes 45 = .ok (.aload_n 0, 1) := by decide +kernel
theorem dX9_strikes_46 : decode cX9_strikes 46 = .ok (.iload_n 1, 1) := by decide +kernel
theorem dX9_strikes_47 : decode cX9_strikes 47 = .ok (.iload_n 2, 1) := by decide +kernel
theorem dX9_strikes_48 : decode cX9_strikes 48 = .ok (.invokevirtual 57, 3) := by decide +kernel
theorem dX9_strikes_51 : decode cX9_strikes 51 = .ok (.aload_n 0, 1) := by decide +kernel
theorem dX9_strikes_52 : decode cX9_strikes 52 = .ok (.getfield 7, 3) := by decide +kernel
theorem dX9_strikes_55 : decode cX9_strikes 55 = .ok (.iload_n 3, 1) := by decide +kernel
theorem dX9_strikes_56 : decode cX9_strikes 56 = .ok (.iconst 2, 1) := by decide +kernel
theorem dX9_strikes_57 : decode cX9_strikes 57 = .ok (.iadd, 1) := by decide +kernel
theorem dX9_strikes_58 : decode cX9_strikes 58 = .ok (.iaload, 1) := by decide +kernel
theorem dX9_strikes_59 : decode cX9_strikes 59 = .ok (.iconst 1, 1) := by decide +kernel
theorem dX9_strikes_60 : decode cX9_strikes 60 = .ok (.if_icmp .ne 37, 3) := by decide +kernel
theorem dX9_strikes_63 : decode cX9_strikes 63 = .ok (.aload_n 0, 1) := by decide +kernel
theorem dX9_strikes_64 : decode cX9_strikes 64 = .ok (.getfield 7, 3) := by decide +kernel
theorem dX9_strikes_67 : decode cX9_strikes 67 = .ok (.iload_n 3, 1) := by decide +kernel
theorem dX9_strikes_68 : decode cX9_strikes 68 = .ok (.iconst 2, 1) := by decide +kernel
theorem dX9_strikes_69 : decode cX9_strikes 69 = .ok (.iadd, 1) := by decide +kernel
theorem dX9_strikes_70 : decode cX9_strikes 70 = .ok (.iconst 0, 1) := by decide +kernel
theorem dX9_strikes_71 : decode cX9_strikes 71 = .ok (.iastore, 1) := by decide +kernel
theorem dX9_strikes_72 : decode cX9_strikes 72 = .ok (.aload_n 0, 1) := by decide +kernel
theorem dX9_strikes_73 : decode cX9_strikes 73 = .ok (.getfield 7, 3) := by decide +kernel
theorem dX9_strikes_76 : decode cX9_strikes 76 = .ok (.iload_n 1, 1) := by decide +kernel
theorem dX9_strikes_77 : decode cX9_strikes 77 = .ok (.bipush 7, 2) := by decide +kernel
theorem dX9_strikes_79 : decode cX9_strikes 79 = .ok (.iadd, 1) := by decide +kernel
theorem dX9_strikes_80 : decode cX9_strikes 80 = .ok (.dup2, 1) := by decide +kernel
theorem dX9_strikes_81 : decode cX9_strikes 81 = .ok (.iaload, 1) := by decide +kernel
theorem dX9_strikes_82 : decode cX9_strikes 82 = .ok (.iconst 1, 1) := by decide +kernel
theorem dX9_strikes_83 : decode cX9_strikes 83 = .ok (.iadd, 1) := by decide +kernel
theorem dX9_strikes_84 : decode cX9_strikes 84 = .ok (.iastore, 1) := by decide +kernel
theorem dX9_strikes_85 : decode cX9_strikes 85 = .ok (.aload_n 0, 1) := by decide +kernel
theorem dX9_strikes_86 : decode cX9_strikes 86 = .ok (.iload_n 1, 1) := by decide +kernel
theorem dX9_strikes_87 : decode cX9_strikes 87 = .ok (.aload_n 0, 1) := by decide +kernel
theorem dX9_strikes_88 : decode cX9_strikes 88 = .ok (.getfield 7, 3) := by decide +kernel
theorem dX9_strikes_91 : decode cX9_strikes 91 = .ok (.iload_n 3, 1) := by decide +kernel
theorem dX9_strikes_92 : decode cX9_strikes 92 = .ok (.iaload, 1) := by decide +kernel
theorem dX9_strikes_93 : decode cX9_strikes 93 = .ok (.iconst 1, 1) := by decide +kernel
theorem dX9_strikes_94 : decode cX9_strikes 94 = .ok (.invokevirtual 60, 3) := by decide +kernel
theorem dX9_strikes_97 : decode cX9_strikes 97 = .ok (.iconst 1, 1) := by decide +kernel
theorem dX9_strikes_98 : decode cX9_strikes 98 = .ok (.ireturn, 1) := by decide +kernel
theorem dX9_second_0 : decode cX9_second 0 = .ok (.aload_n 0, 1) := by decide +kernel
theorem dX9_second_1 : decode cX9_second 1 = .ok (.getfield 7, 3) := by decide +kernel
theorem dX9_second_4 : decode cX9_second 4 = .ok (.iload_n 1, 1) := by decide +kernel
theorem dX9_second_5 : decode cX9_second 5 = .ok (.iconst 0, 1) := by decide +kernel
theorem dX9_second_6 : decode cX9_second 6 = .ok (.iadd, 1) := by decide +kernel
theorem dX9_second_7 : decode cX9_second 7 = .ok (.dup2, 1) := by decide +kernel
theorem dX9_second_8 : decode cX9_second 8 = .ok (.iaload, 1) := by decide +kernel
theorem dX9_second_9 : decode cX9_second 9 = .ok (.iconst 1, 1) := by decide +kernel
theorem dX9_second_10 : decode cX9_second 10 = .ok (.iadd, 1) := by decide +kernel
theorem dX9_second_11 : decode cX9_second 11 = .ok (.iastore, 1) := by decide +kernel
theorem dX9_second_12 : decode cX9_second 12 = .ok (.aload_n 0, 1) := by decide +kernel
theorem dX9_second_13 : decode cX9_second 13 = .ok (.iload_n 1, 1) := by decide +kernel
theorem dX9_second_14 : decode cX9_second 14 = .ok (.invokevirtual 45, 3) := by decide +kernel
theorem dX9_second_17 : decode cX9_second 17 = .ok (.istore_n 2, 1) := by decide +kernel
theorem dX9_second_18 : decode cX9_second 18 = .ok (.iload_n 2, 1) := by decide +kernel
theorem dX9_second_19 : decode cX9_second 19 = .ok (.bipush 6, 2) := by decide +kernel
theorem dX9_second_21 : decode cX9_second 21 = .ok (.if_icmp .ne 5, 3) := by decide +kernel
theorem dX9_second_24 : decode cX9_second 24 = .ok (.iconst 0, 1) := by decide +kernel
theorem dX9_second_25 : decode cX9_second 25 = .ok (.ireturn, 1) := by decide +kernel
theorem dX9_second_26 : decode cX9_second 26 = .ok (.iload_n 2, 1) := by decide +kernel
theorem dX9_second_27 : decode cX9_second 27 = .ok (.iconst 4, 1) := by decide +kernel
theorem dX9_second_28 : decode cX9_second 28 = .ok (.if_icmp .le 7, 3) := by decide +kernel
theorem dX9_second_31 : decode cX9_second 31 = .ok (.iconst 1, 1) := by decide +kernel
theorem dX9_second_32 : decode cX9_second 32 = .ok (.goto 6, 3) := by decide +kernel
theorem dX9_second_35 : decode cX9_second 35 = .ok (.iconst 5, 1) := by decide +kernel
theorem dX9_second_36 : decode cX9_second 36 = .ok (.iload_n 2, 1) := by decide +kernel
theorem dX9_second_37 : decode cX9_second 37 = .ok (.isub, 1) := by decide +kernel
theorem dX9_second_38 : decode cX9_second 38 = .ok (.istore_n 3, 1) := by decide +kernel
theorem dX9_second_39 : decode cX9_second 39 = .ok (.iconst 0, 1) := by decide +kernel
theorem dX9_second_40 : decode cX9_second 40 = .ok (.istore 4, 2) := by decide +kernel
theorem dX9_second_42 : decode cX9_second 42 = .ok (.iconst 0, 1) := by decide +kernel
theorem dX9_second_43 : decode cX9_second 43 = .ok (.istore 5, 2) := by decide +kernel
theorem dX9_second_45 : decode cX9_second 45 = .ok (.iload 5, 2) := by decide +kernel
theorem dX9_second_47 : decode cX9_second 47 = .ok (.aload_n 0, 1) := by decide +kernel
theorem dX9_second_48 : decode cX9_second 48 = .ok (.getfield 7, 3) := by decide +kernel
theorem dX9_second_51 : decode cX9_second 51 = .ok (.iload_n 1, 1) := by decide +kernel
theorem dX9_second_52 : decode cX9_second 52 = .ok (.iconst 5, 1) := by decide +kernel
theorem dX9_second_53 : decode cX9_second 53 = .ok (.iadd, 1) := by decide +kernel
theorem dX9_second_54 : decode cX9_second 54 = .ok (.iaload, 1) := by decide +kernel
theorem dX9_second_55 : decode cX9_second 55 = .ok (.if_icmp .ge 158, 3) := by decide +kernel
theorem dX9_second_58 : decode cX9_second 58 = .ok (.iload_n 1, 1) := by decide +kernel
theorem dX9_second_59 : decode cX9_second 59 = .ok (.iload 5, 2) := by decide +kernel
theorem dX9_second_61 : decode cX9_second 61 = .ok (.invokestatic 54, 3) := by decide +kernel
theorem dX9_second_64 : decode cX9_second 64 = .ok (.istore 6, 2) := by decide +kernel
theorem dX9_second_66 : decode cX9_second 66 = .ok (.aload_n 0, 1) := by decide +kernel
theorem dX9_second_67 : decode cX9_second 67 = .ok (.getfield 7, 3) := by decide +kernel
theorem dX9_second_70 : decode cX9_second 70 = .ok (.iload 6, 2) := by decide +kernel
theorem dX9_second_72 : decode cX9_second 72 = .ok (.iaload, 1) := by decide +kernel
theorem dX9_second_73 : decode cX9_second 73 = .ok (.istore 7, 2) := by decide +kernel
theorem dX9_second_75 : decode cX9_second 75 = .ok (.aload_n 0, 1) := by decide +kernel
theorem dX9_second_76 : decode cX9_second 76 = .ok (.iload_n 1, 1) := by decide +kernel
theorem dX9_second_77 : decode cX9_second 77 = .ok (.iload 7, 2) := by decide +kernel
theorem dX9_second_79 : decode cX9_second 79 = .ok (.iload 7, 2) := by decide +kernel
theorem dX9_second_81 : decode cX9_second 81 = .ok (.iload_n 3, 1) := by decide +kernel
theorem dX9_second_82 : decode cX9_second 82 = .ok (.isub, 1) := by decide +kernel
theorem dX9_second_83 : decode cX9_second 83 = .ok (.invokevirtual 64, 3) := by decide +kernel
theorem dX9_second_86 : decode cX9_second 86 = .ok (.istore 8, 2) := by decide +kernel
theorem dX9_second_88 : decode cX9_second 88 = .ok (.aload_n 0, 1) := by decide +kernel
theorem dX9_second_89 : decode cX9_second 89 = .ok (.getfield 7, 3) := by decide +kernel
theorem dX9_second_92 : decode cX9_second 92 = .ok (.iload 6, 2) := by decide +kernel
theorem dX9_second_94 : decode cX9_second 94 = .ok (.iconst 1, 1) := by decide +kernel
theorem dX9_second_95 : decode cX9_second 95 = .ok (.iadd, 1) := by decide +kernel
theorem dX9_second_96 : decode cX9_second 96 = .ok (.iaload, 1) := by decide +kernel
theorem dX9_second_97 : decode cX9_second 97 = .ok (.iconst 1, 1) := by decide +kernel
theorem dX9_second_98 : decode cX9_second 98 = .ok (.if_icmp .ne 9, 3) := by decide +kernel
theorem dX9_second_101 : decode cX9_second 101 = .ok (.iinc 5 1, 3) := by decide +kernel
theorem dX9_second_104 : decode cX9_second 104 = .ok (.goto 106, 3) := by decide +kernel
theorem dX9_second_107 : decode cX9_second 107 = .ok (.iload 8, 2) := by decide +kernel
theorem dX9_second_109 : decode cX9_second 109 = .ok (.sipush (-1005), 3) := by decide +kernel
theorem dX9_second_112 : decode cX9_second 112 = .ok (.if_icmp .eq 54, 3) := by decide +kernel
theorem dX9_second_115 : decode cX9_second 115 = .ok (.aload_n 0, 1) := by decide +kernel
theorem dX9_second_116 : decode cX9_second 116 = .ok (.iload_n 1, 1) := by decide +kernel
theorem dX9_second_117 : decode cX9_second 117 = .ok (.iload 5, 2) := by decide +kernel
theorem dX9_second_119 : decode cX9_second 119 = .ok (.invokevirtual 68, 3) := by decide +kernel
theorem dX9_second_122 : decode cX9_second 122 = .ok (.aload_n 0, 1) := by decide +kernel
theorem dX9_second_123 : decode cX9_second 123 = .ok (.getfield 7, 3) := by decide +kernel
theorem dX9_second_126 : decode cX9_second 126 = .ok (.iload_n 1, 1) := by decide +kernel
theorem dX9_second_127 : decode cX9_second 127 = .ok (.iconst 5, 1) := by decide +kernel
theorem dX9_second_128 : decode cX9_second 128 = .ok (.iadd, 1) := by decide +kernel
theorem dX9_second_129 : decode cX9_second 129 = .ok (.iaload, 1) := by decide +kernel
theorem dX9_second_130 : decode cX9_second 130 = .ok (.istore 9, 2) := by decide +kernel
theorem dX9_second_132 : decode cX9_second 132 = .ok (.iload 4, 2) := by decide +kernel
theorem dX9_second_134 : decode cX9_second 134 = .ok (.aload_n 0, 1) := by decide +kernel
theorem dX9_second_135 : decode cX9_second 135 = .ok (.iload_n 1, 1) := by decide +kernel
theorem dX9_second_136 : decode cX9_second 136 = .ok (.iload 8, 2) := by decide +kernel
theorem dX9_second_138 : decode cX9_second 138 = .ok (.invokevirtual 71, 3) := by decide +kernel
theorem dX9_second_141 : decode cX9_second 141 = .ok (.invokestatic 74, 3) := by decide +kernel
theorem dX9_second_144 : decode cX9_second 144 = .ok (.iadd, 1) := by decide +kernel
theorem dX9_second_145 : decode cX9_second 145 = .ok (.istore 4, 2) := by decide +kernel
theorem dX9_second_147 : decode cX9_second 147 = .ok (.iload 5, 2) := by decide +kernel
theorem dX9_second_149 : decode cX9_second 149 = .ok (.aload_n 0, 1) := by decide +kernel
theorem dX9_second_150 : decode cX9_second 150 = .ok (.getfield 7, 3) := by decide +kernel
theorem dX9_second_153 : decode cX9_second 153 = .ok (.iload_n 1, 1) := by decide +kernel
theorem dX9_second_154 : decode cX9_second 154 = .ok (.iconst 5, 1) := by decide +kernel
theorem dX9_second_155 : decode cX9_second 155 = .ok (.iadd, 1) := by decide +kernel
theorem dX9_second_156 : decode cX9_second 156 = .ok (.iaload, 1) := by decide +kernel
theorem dX9_second_157 : decode cX9_second 157 = .ok (.iload 9, 2) := by decide +kernel
theorem dX9_second_159 : decode cX9_second 159 = .ok (.isub, 1) := by decide +kernel
theorem dX9_second_160 : decode cX9_second 160 = .ok (.iadd, 1) := by decide +kernel
theorem dX9_second_161 : decode cX9_second 161 = .ok (.istore 5, 2) := by decide +kernel
theorem dX9_second_163 : decode cX9_second 163 = .ok (.goto 47, 3) := by decide +kernel
theorem dX9_second_166 : decode cX9_second 166 = .ok (.iload 7, 2) := by decide +kernel
theorem dX9_second_168 : decode cX9_second 168 = .ok (.iload_n 3, 1) := by decide +kernel
theorem dX9_second_169 : decode cX9_second 169 = .ok (.isub, 1) := by decide +kernel
theorem dX9_second_170 : decode cX9_second 170 = .ok (.ifCond .gt 26, 3) := by decide +kernel
theorem dX9_second_173 : decode cX9_second 173 = .ok (.aload_n 0, 1) := by decide +kernel
theorem dX9_second_174 : decode cX9_second 174 = .ok (.iload_n 1, 1) := by decide +kernel
theorem dX9_second_175 : decode cX9_second 175 = .ok (.iload 5, 2) := by decide +kernel
theorem dX9_second_177 : decode cX9_second 177 = .ok (.invokevirtual 68, 3) := by decide +kernel
theorem dX9_second_180 : decode cX9_second 180 = .ok (.aload_n 0, 1) := by decide +kernel
theorem dX9_second_181 : decode cX9_second 181 = .ok (.getfield 7, 3) := by decide +kernel
theorem dX9_second_184 : decode cX9_second 184 = .ok (.iload_n 1, 1) := by decide +kernel
theorem dX9_second_185 : decode cX9_second 185 = .ok (.bipush 9, 2) := by decide +kernel
theorem dX9_second_187 : decode cX9_second 187 = .ok (.iadd, 1) := by decide +kernel
theorem dX9_second_188 : decode cX9_second 188 = .ok (.dup2, 1) := by decide +kernel
theorem dX9_second_189 : decode cX9_second 189 = .ok (.iaload, 1) := by decide +kernel
theorem dX9_second_190 : decode cX9_second 190 = .ok (.iconst 1, 1) := by decide +kernel
theorem dX9_second_191 : decode cX9_second 191 = .ok (.iadd, 1) := by decide +kernel
theorem dX9_second_192 : decode cX9_second 192 = .ok (.iastore, 1) := by decide +kernel
theorem dX9_second_193 : decode cX9_second 193 = .ok (.goto 17, 3) := by decide +kernel
theorem dX9_second_196 : decode cX9_second 196 = .ok (.aload_n 0, 1) := by decide +kernel
theorem dX9_second_197 : decode cX9_second 197 = .ok (.getfield 7, 3) := by decide +kernel
theorem dX9_second_200 : decode cX9_second 200 = .ok (.iload 6, 2) := by decide +kernel
theorem dX9_second_202 : decode cX9_second 202 = .ok (.iload 7, 2) := by decide +kernel
theorem dX9_second_204 : decode cX9_second 204 = .ok (.iload_n 3, 1) := by decide +kernel
theorem dX9_second_205 : decode cX9_second 205 = .ok (.isub, 1) := by decide +kernel
theorem dX9_second_206 : decode cX9_second 206 = .ok (.iastore, 1) := by decide +kernel
theorem dX9_second_207 : decode cX9_second 207 = .ok (.iinc 5 1, 3) := by decide +kernel
theorem dX9_second_210 : decode cX9_second 210 = .ok (.goto (-165), 3) := by decide +kernel
theorem dX9_second_213 : decode cX9_second 213 = .ok (.iconst 0, 1) := by decide +kernel
theorem dX9_second_214 : decode cX9_second 214 = .ok (.istore 6, 2) := by decide +kernel
theorem dX9_second_216 : decode cX9_second 216 = .ok (.iload 6, 2) := by decide +kernel
theorem dX9_second_218 : decode cX9_second 218 = .ok (.aload_n 0, 1) := by decide +kernel
theorem dX9_second_219 : decode cX9_second 219 = .ok (.getfield 7, 3) := by decide +kernel
theorem dX9_second_222 : decode cX9_second 222 = .ok (.iload_n 1, 1) := by decide +kernel
theorem dX9_second_223 : decode cX9_second 223 = .ok (.iconst 5, 1) := by decide +kernel
theorem dX9_second_224 : decode cX9_second 224 = .ok (.iadd, 1) := by decide +kernel
theorem dX9_second_225 : decode cX9_second 225 = .ok (.iaload, 1) := by decide +kernel
theorem dX9_second_226 : decode cX9_second 226 = .ok (.if_icmp .ge 23, 3) := by decide +kernel
theorem dX9_second_229 : decode cX9_second 229 = .ok (.aload_n 0, 1) := by decide +kernel
theorem dX9_second_230 : decode cX9_second 230 = .ok (.getfield 7, 3) := by decide +kernel
theorem dX9_second_233 : decode cX9_second 233 = .ok (.iload_n 1, 1) := by decide +kernel
theorem dX9_second_234 : decode cX9_second 234 = .ok (.iload 6, 2) := by decide +kernel
theorem dX9_second_236 : decode cX9_second 236 = .ok (.invokestatic 54, 3) := by decide +kernel
theorem dX9_second_239 : decode cX9_second 239 = .ok (.iconst 1, 1) := by decide +kernel
theorem dX9_second_240 : decode cX9_second 240 = .ok (.iadd, 1) := by decide +kernel
theorem dX9_second_241 : decode cX9_second 241 = .ok (.iconst 0, 1) := by decide +kernel
theorem dX9_second_242 : decode cX9_second 242 = .ok (.iastore, 1) := by decide +kernel
theorem dX9_second_243 : decode cX9_second 243 = .ok (.iinc 6 1, 3) := by decide +kernel
theorem dX9_second_246 : decode cX9_second 246 = .ok (.goto (-30), 3) := by decide +kernel
theorem dX9_second_249 : decode cX9_second 249 = .ok (.iload 4, 2) := by decide +kernel
theorem dX9_second_251 : decode cX9_second 251 = .ok (.ireturn, 1) := by decide +kernel
theorem dX9_seconds_0 : decode cX9_seconds 0 = .ok (.iconst 0, 1) := by decide +kernel
theorem dX9_seconds_1 : decode cX9_seconds 1 = .ok (.istore_n 3, 1) := by decide +kernel
theorem dX9_seconds_2 : decode cX9_seconds 2 = .ok (.iconst 0, 1) := by decide +kernel
theorem dX9_seconds_3 : decode cX9_seconds 3 = .ok (.istore 4, 2) := by decide +kernel
theorem dX9_seconds_5 : decode cX9_seconds 5 = .ok (.iload 4, 2) := by decide +kernel
theorem dX9_seconds_7 : decode cX9_seconds 7 = .ok (.iload_n 2, 1) := by decide +kernel
theorem dX9_seconds_8 : decode cX9_seconds 8 = .ok (.if_icmp .ge 17, 3) := by decide +kernel
theorem dX9_seconds_11 : decode cX9_seconds 11 = .ok (.iload_n 3, 1) := by decide +kernel
theorem dX9_seconds_12 : decode cX9_seconds 12 = .ok (.aload_n 0, 1) := by decide +kernel
theorem dX9_seconds_13 : decode cX9_seconds 13 = .ok (.iload_n 1, 1) := by decide +kernel
theorem dX9_seconds_14 : decode cX9_seconds 14 = .ok (.invokevirtual 78, 3) := by decide +kernel
theorem dX9_seconds_17 : decode cX9_seconds 17 = .ok (.iadd, 1) := by decide +kernel
theorem dX9_seconds_18 : decode cX9_seconds 18 = .ok (.istore_n 3, 1) := by decide +kernel
theorem dX9_seconds_19 : decode cX9_seconds 19 = .ok (.iinc 4 1, 3) := by decide +kernel
theorem dX9_seconds_22 : decode cX9_seconds 22 = .ok (.goto (-17), 3) := by decide +kernel
theorem dX9_seconds_25 : decode cX9_seconds 25 = .ok (.iload_n 3, 1) := by decide +kernel
theorem dX9_seconds_26 : decode cX9_seconds 26 = .ok (.ireturn, 1) := by decide +kernel
theorem dX9_pays_0 : decode cX9_pays 0 = .ok (.iload_n 1, 1) := by decide +kernel
theorem dX9_pays_1 : decode cX9_pays 1 = .ok (.ifCond .eq 16, 3) := by decide +kernel
theorem dX9_pays_4 : decode cX9_pays 4 = .ok (.iload_n 1, 1) := by decide +kernel
theorem dX9_pays_5 : decode cX9_pays 5 = .ok (.sipush (-999), 3) := by decide +kernel
theorem dX9_pays_8 : decode cX9_pays 8 = .ok (.sipush 999, 3) := by decide +kernel
theorem dX9_pays_11 : decode cX9_pays 11 = .ok (.invokestatic 81, 3) := by decide +kernel
theorem dX9_pays_14 : decode cX9_pays 14 = .ok (.ifCond .ne 7, 3) := by decide +kernel
theorem dX9_pays_17 : decode cX9_pays 17 = .ok (.sipush (-1002), 3) := by decide +kernel
theorem dX9_pays_20 : decode cX9_pays 20 = .ok (.ireturn, 1) := by decide +kernel
theorem dX9_pays_21 : decode cX9_pays 21 = .ok (.aload_n 0, 1) := by decide +kernel
theorem dX9_pays_22 : decode cX9_pays 22 = .ok (.getfield 7, 3) := by decide +kernel
theorem dX9_pays_25 : decode cX9_pays 25 = .ok (.iconst 1, 1) := by decide +kernel
theorem dX9_pays_26 : decode cX9_pays 26 = .ok (.iaload, 1) := by decide +kernel
theorem dX9_pays_27 : decode cX9_pays 27 = .ok (.iload_n 1, 1) := by decide +kernel
theorem dX9_pays_28 : decode cX9_pays 28 = .ok (.iadd, 1) := by decide +kernel
theorem dX9_pays_29 : decode cX9_pays 29 = .ok (.ifCond .ge 7, 3) := by decide +kernel
theorem dX9_pays_32 : decode cX9_pays 32 = .ok (.sipush (-1004), 3) := by decide +kernel
theorem dX9_pays_35 : decode cX9_pays 35 = .ok (.ireturn, 1) := by decide +kernel
theorem dX9_pays_36 : decode cX9_pays 36 = .ok (.aload_n 0, 1) := by decide +kernel
theorem dX9_pays_37 : decode cX9_pays 37 = .ok (.getfield 7, 3) := by decide +kernel
theorem dX9_pays_40 : decode cX9_pays 40 = .ok (.iconst 1, 1) := by decide +kernel
theorem dX9_pays_41 : decode cX9_pays 41 = .ok (.iaload, 1) := by decide +kernel
theorem dX9_pays_42 : decode cX9_pays 42 = .ok (.iload_n 1, 1) := by decide +kernel
theorem dX9_pays_43 : decode cX9_pays 43 = .ok (.iadd, 1) := by decide +kernel
theorem dX9_pays_44 : decode cX9_pays 44 = .ok (.sipush 999, 3) := by decide +kernel
theorem dX9_pays_47 : decode cX9_pays 47 = .ok (.if_icmp .le 7, 3) := by decide +kernel
theorem dX9_pays_50 : decode cX9_pays 50 = .ok (.sipush (-1003), 3) := by decide +kernel
theorem dX9_pays_53 : decode cX9_pays 53 = .ok (.ireturn, 1) := by decide +kernel
theorem dX9_pays_54 : decode cX9_pays 54 = .ok (.aload_n 0, 1) := by decide +kernel
theorem dX9_pays_55 : decode cX9_pays 55 = .ok (.getfield 7, 3) := by decide +kernel
theorem dX9_pays_58 : decode cX9_pays 58 = .ok (.iconst 1, 1) := by decide +kernel
theorem dX9_pays_59 : decode cX9_pays 59 = .ok (.dup2, 1) := by decide +kernel
theorem dX9_pays_60 : decode cX9_pays 60 = .ok (.iaload, 1) := by decide +kernel
theorem dX9_pays_61 : decode cX9_pays 61 = .ok (.iload_n 1, 1) := by decide +kernel
theorem dX9_pays_62 : decode cX9_pays 62 = .ok (.iadd, 1) := by decide +kernel
theorem dX9_pays_63 : decode cX9_pays 63 = .ok (.iastore, 1) := by decide +kernel
theorem dX9_pays_64 : decode cX9_pays 64 = .ok (.iconst 0, 1) := by decide +kernel
theorem dX9_pays_65 : decode cX9_pays 65 = .ok (.istore_n 2, 1) := by decide +kernel
theorem dX9_pays_66 : decode cX9_pays 66 = .ok (.aload_n 0, 1) := by decide +kernel
theorem dX9_pays_67 : decode cX9_pays 67 = .ok (.getfield 7, 3) := by decide +kernel
theorem dX9_pays_70 : decode cX9_pays 70 = .ok (.iconst 5, 1) := by decide +kernel
theorem dX9_pays_71 : decode cX9_pays 71 = .ok (.iaload, 1) := by decide +kernel
theorem dX9_pays_72 : decode cX9_pays 72 = .ok (.ifCond .le 45, 3) := by decide +kernel
theorem dX9_pays_75 : decode cX9_pays 75 = .ok (.aload_n 0, 1) := by decide +kernel
theorem dX9_pays_76 : decode cX9_pays 76 = .ok (.getfield 7, 3) := by decide +kernel
theorem dX9_pays_79 : decode cX9_pays 79 = .ok (.iconst 0, 1) := by decide +kernel
theorem dX9_pays_80 : decode cX9_pays 80 = .ok (.aload_n 0, 1) := by decide +kernel
theorem dX9_pays_81 : decode cX9_pays 81 = .ok (.getfield 7, 3) := by decide +kernel
theorem dX9_pays_84 : decode cX9_pays 84 = .ok (.iconst 5, 1) := by decide +kernel
theorem dX9_pays_85 : decode cX9_pays 85 = .ok (.iaload, 1) := by decide +kernel
theorem dX9_pays_86 : decode cX9_pays 86 = .ok (.iconst 1, 1) := by decide +kernel
theorem dX9_pays_87 : decode cX9_pays 87 = .ok (.isub, 1) := by decide +kernel
theorem dX9_pays_88 : decode cX9_pays 88 = .ok (.invokestatic 54, 3) := by decide +kernel
theorem dX9_pays_91 : decode cX9_pays 91 = .ok (.iaload, 1) := by decide +kernel
theorem dX9_pays_92 : decode cX9_pays 92 = .ok (.aload_n 0, 1) := by decide +kernel
theorem dX9_pays_93 : decode cX9_pays 93 = .ok (.getfield 7, 3) := by decide +kernel
theorem dX9_pays_96 : decode cX9_pays 96 = .ok (.iconst 1, 1) := by decide +kernel
theorem dX9_pays_97 : decode cX9_pays 97 = .ok (.iaload, 1) := by decide +kernel
theorem dX9_pays_98 : decode cX9_pays 98 = .ok (.if_icmp .le 19, 3) := by decide +kernel
theorem dX9_pays_101 : decode cX9_pays 101 = .ok (.aload_n 0, 1) := by decide +kernel
theorem dX9_pays_102 : decode cX9_pays 102 = .ok (.getfield 7, 3) := by decide +kernel
theorem dX9_pays_105 : decode cX9_pays 105 = .ok (.iconst 5, 1) := by decide +kernel
theorem dX9_pays_106 : decode cX9_pays 106 = .ok (.dup2, 1) := by decide +kernel
theorem dX9_pays_107 : decode cX9_pays 107 = .ok (.iaload, 1) := by decide +kernel
theorem dX9_pays_108 : decode cX9_pays 108 = .ok (.iconst 1, 1) := by decide +kernel
theorem dX9_pays_109 : decode cX9_pays 109 = .ok (.isub, 1) := by decide +kernel
theorem dX9_pays_110 : decode cX9_pays 110 = .ok (.iastore, 1) := by decide +kernel
theorem dX9_pays_111 : decode cX9_pays 111 = .ok (.iinc 2 1, 3) := by decide +kernel
theorem dX9_pays_114 : decode cX9_pays 114 = .ok (.goto (-48), 3) := by decide +kernel
theorem dX9_pays_117 : decode cX9_pays 117 = .ok (.aload_n 0, 1) := by decide +kernel
theorem dX9_pays_118 : decode cX9_pays 118 = .ok (.getfield 7, 3) := by decide +kernel
theorem dX9_pays_121 : decode cX9_pays 121 = .ok (.bipush 10, 2) := by decide +kernel
theorem dX9_pays_123 : decode cX9_pays 123 = .ok (.dup2, 1) := by decide +kernel
theorem dX9_pays_124 : decode cX9_pays 124 = .ok (.iaload, 1) := by decide +kernel
theorem dX9_pays_125 : decode cX9_pays 125 = .ok (.iload_n 2, 1) := by decide +kernel
theorem dX9_pays_126 : decode cX9_pays 126 = .ok (.iadd, 1) := by decide +kernel
theorem dX9_pays_127 : decode cX9_pays 127 = .ok (.iastore, 1) := by decide +kernel
theorem dX9_pays_128 : decode cX9_pays 128 = .ok (.iload_n 1, 1) := by decide +kernel
theorem dX9_pays_129 : decode cX9_pays 129 = .ok (.invokestatic 85, 3) := by decide +kernel
theorem dX9_pays_132 : decode cX9_pays 132 = .ok (.aload_n 0, 1) := by decide +kernel
theorem dX9_pays_133 : decode cX9_pays 133 = .ok (.getfield 7, 3) := by decide +kernel
theorem dX9_pays_136 : decode cX9_pays 136 = .ok (.bipush 12, 2) := by decide +kernel
theorem dX9_pays_138 : decode cX9_pays 138 = .ok (.iaload, 1) := by decide +kernel
theorem dX9_pays_139 : decode cX9_pays 139 = .ok (.if_icmp .le 7, 3) := by decide +kernel
theorem dX9_pays_142 : decode cX9_pays 142 = .ok (.aload_n 0, 1) := by decide +kernel
theorem dX9_pays_143 : decode cX9_pays 143 = .ok (.invokevirtual 88, 3) := by decide +kernel
theorem dX9_pays_146 : decode cX9_pays 146 = .ok (.iload_n 2, 1) := by decide +kernel
theorem dX9_pays_147 : decode cX9_pays 147 = .ok (.ireturn, 1) := by decide +kernel
theorem dX9_jerks_0 : decode cX9_jerks 0 = .ok (.sipush (-1005), 3) := by decide +kernel
theorem dX9_jerks_3 : decode cX9_jerks 3 = .ok (.istore_n 1, 1) := by decide +kernel
theorem dX9_jerks_4 : decode cX9_jerks 4 = .ok (.aload_n 0, 1) := by decide +kernel
theorem dX9_jerks_5 : decode cX9_jerks 5 = .ok (.getfield 7, 3) := by decide +kernel
theorem dX9_jerks_8 : decode cX9_jerks 8 = .ok (.iconst 4, 1) := by decide +kernel
theorem dX9_jerks_9 : decode cX9_jerks 9 = .ok (.iaload, 1) := by decide +kernel
theorem dX9_jerks_10 : decode cX9_jerks 10 = .ok (.iconst 1, 1) := by decide +kernel
theorem dX9_jerks_11 : decode cX9_jerks 11 = .ok (.isub, 1) := by decide +kernel
theorem dX9_jerks_12 : decode cX9_jerks 12 = .ok (.istore_n 2, 1) := by decide +kernel
theorem dX9_jerks_13 : decode cX9_jerks 13 = .ok (.iload_n 2, 1) := by decide +kernel
theorem dX9_jerks_14 : decode cX9_jerks 14 = .ok (.ifCond .lt 39, 3) := by decide +kernel
theorem dX9_jerks_17 : decode cX9_jerks 17 = .ok (.aload_n 0, 1) := by decide +kernel
theorem dX9_jerks_18 : decode cX9_jerks 18 = .ok (.iconst 0, 1) := by decide +kernel
theorem dX9_jerks_19 : decode cX9_jerks 19 = .ok (.iload_n 2, 1) := by decide +kernel
theorem dX9_jerks_20 : decode cX9_jerks 20 = .ok (.invokevirtual 38, 3) := by decide +kernel
theorem dX9_jerks_23 : decode cX9_jerks 23 = .ok (.ifCond .eq 22, 3) := by decide +kernel
theorem dX9_jerks_26 : decode cX9_jerks 26 = .ok (.aload_n 0, 1) := by decide +kernel
theorem dX9_jerks_27 : decode cX9_jerks 27 = .ok (.getfield 7, 3) := by decide +kernel
theorem dX9_jerks_30 : decode cX9_jerks 30 = .ok (.iconst 0, 1) := by decide +kernel
theorem dX9_jerks_31 : decode cX9_jerks 31 = .ok (.iload_n 2, 1) := by decide +kernel
theorem dX9_jerks_32 : decode cX9_jerks 32 = .ok (.invokestatic 34, 3) := by decide +kernel
theorem dX9_jerks_35 : decode cX9_jerks 35 = .ok (.iconst 1, 1) := by decide +kernel
theorem dX9_jerks_36 : decode cX9_jerks 36 = .ok (.iadd, 1) := by decide +kernel
theorem dX9_jerks_37 : decode cX9_jerks 37 = .ok (.iaload, 1) := by decide +kernel
theorem dX9_jerks_38 : decode cX9_jerks 38 = .ok (.ifCond .ne 7, 3) := by decide +kernel
theorem dX9_jerks_41 : decode cX9_jerks 41 = .ok (.iload_n 2, 1) := by decide +kernel
theorem dX9_jerks_42 : decode cX9_jerks 42 = .ok (.goto 4, 3) := by decide +kernel
theorem dX9_jerks_45 : decode cX9_jerks 45 = .ok (.iload_n 1, 1) := by decide +kernel
theorem dX9_jerks_46 : decode cX9_jerks 46 = .ok (.istore_n 1, 1) := by decide +kernel
theorem dX9_jerks_47 : decode cX9_jerks 47 = .ok (.iinc 2 (-1), 3) := by decide +kernel
theorem dX9_jerks_50 : decode cX9_jerks 50 = .ok (.goto (-37), 3) := by decide +kernel
theorem dX9_jerks_53 : decode cX9_jerks 53 = .ok (.iload_n 1, 1) := by decide +kernel
theorem dX9_jerks_54 : decode cX9_jerks 54 = .ok (.sipush (-1005), 3) := by decide +kernel
theorem dX9_jerks_57 : decode cX9_jerks 57 = .ok (.if_icmp .eq 22, 3) := by decide +kernel
theorem dX9_jerks_60 : decode cX9_jerks 60 = .ok (.aload_n 0, 1) := by decide +kernel
theorem dX9_jerks_61 : decode cX9_jerks 61 = .ok (.iconst 0, 1) := by decide +kernel
theorem dX9_jerks_62 : decode cX9_jerks 62 = .ok (.iload_n 1, 1) := by decide +kernel
theorem dX9_jerks_63 : decode cX9_jerks 63 = .ok (.invokevirtual 57, 3) := by decide +kernel
theorem dX9_jerks_66 : decode cX9_jerks 66 = .ok (.aload_n 0, 1) := by decide +kernel
theorem dX9_jerks_67 : decode cX9_jerks 67 = .ok (.getfield 7, 3) := by decide +kernel
theorem dX9_jerks_70 : decode cX9_jerks 70 = .ok (.iconst 0, 1) := by decide +kernel
theorem dX9_jerks_71 : decode cX9_jerks 71 = .ok (.iload_n 1, 1) := by decide +kernel
theorem dX9_jerks_72 : decode cX9_jerks 72 = .ok (.invokestatic 34, 3) := by decide +kernel
theorem dX9_jerks_75 : decode cX9_jerks 75 = .ok (.iconst 4, 1) := by decide +kernel
theorem dX9_jerks_76 : decode cX9_jerks 76 = .ok (.iadd, 1) := by decide +kernel
theorem dX9_jerks_77 : decode cX9_jerks 77 = .ok (.iconst 1, 1) := by decide +kernel
theorem dX9_jerks_78 : decode cX9_jerks 78 = .ok (.iastore, 1) := by decide +kernel
theorem dX9_jerks_79 : decode cX9_jerks 79 = .ok (.return_, 1) := by decide +kernel
theorem dX9_slopes_0 : decode cX9_slopes 0 = .ok (.iload_n 1, 1) := by decide +kernel
theorem dX9_slopes_1 : decode cX9_slopes 1 = .ok (.iconst 0, 1) := by decide +kernel
theorem dX9_slopes_2 : decode cX9_slopes 2 = .ok (.bipush 6, 2) := by decide +kernel
theorem dX9_slopes_4 : decode cX9_slopes 4 = .ok (.invokestatic 81, 3) := by decide +kernel
theorem dX9_slopes_7 : decode cX9_slopes 7 = .ok (.ifCond .ne 7, 3) := by decide +kernel
theorem dX9_slopes_10 : decode cX9_slopes 10 = .ok (.sipush (-1002), 3) := by decide +kernel
theorem dX9_slopes_13 : decode cX9_slopes 13 = .ok (.ireturn, 1) := by decide +kernel
theorem dX9_slopes_14 : decode cX9_slopes 14 = .ok (.aload_n 0, 1) := by decide +kernel
theorem dX9_slopes_15 : decode cX9_slopes 15 = .ok (.getfield 7, 3) := by decide +kernel
theorem dX9_slopes_18 : decode cX9_slopes 18 = .ok (.iconst 2, 1) := by decide +kernel
theorem dX9_slopes_19 : decode cX9_slopes 19 = .ok (.iaload, 1) := by decide +kernel
theorem dX9_slopes_20 : decode cX9_slopes 20 = .ok (.istore_n 2, 1) := by decide +kernel
theorem dX9_slopes_21 : decode cX9_slopes 21 = .ok (.aload_n 0, 1) := by decide +kernel
theorem dX9_slopes_22 : decode cX9_slopes 22 = .ok (.getfield 7, 3) := by decide +kernel
theorem dX9_slopes_25 : decode cX9_slopes 25 = .ok (.iconst 2, 1) := by decide +kernel
theorem dX9_slopes_26 : decode cX9_slopes 26 = .ok (.iload_n 1, 1) := by decide +kernel
theorem dX9_slopes_27 : decode cX9_slopes 27 = .ok (.iastore, 1) := by decide +kernel
theorem dX9_slopes_28 : decode cX9_slopes 28 = .ok (.iload_n 2, 1) := by decide +kernel
theorem dX9_slopes_29 : decode cX9_slopes 29 = .ok (.iload_n 1, 1) := by decide +kernel
theorem dX9_slopes_30 : decode cX9_slopes 30 = .ok (.if_icmp .ne 9, 3) := by decide +kernel
theorem dX9_slopes_33 : decode cX9_slopes 33 = .ok (.sipush (-1005), 3) := by decide +kernel
theorem dX9_slopes_36 : decode cX9_slopes 36 = .ok (.goto 4, 3) := by decide +kernel
theorem dX9_slopes_39 : decode cX9_slopes 39 = .ok (.iload_n 2, 1) := by decide +kernel
theorem dX9_slopes_40 : decode cX9_slopes 40 = .ok (.ireturn, 1) := by decide +kernel
theorem dX9_weighs_0 : decode cX9_weighs 0 = .ok (.iload_n 1, 1) := by decide +kernel
theorem dX9_weighs_1 : decode cX9_weighs 1 = .ok (.ifCond .ne 26, 3) := by decide +kernel
theorem dX9_weighs_4 : decode cX9_weighs 4 = .ok (.aload_n 0, 1) := by decide +kernel
theorem dX9_weighs_5 : decode cX9_weighs 5 = .ok (.getfield 7, 3) := by decide +kernel
theorem dX9_weighs_8 : decode cX9_weighs 8 = .ok (.iconst 3, 1) := by decide +kernel
theorem dX9_weighs_9 : decode cX9_weighs 9 = .ok (.iaload, 1) := by decide +kernel
theorem dX9_weighs_10 : decode cX9_weighs 10 = .ok (.iconst 1, 1) := by decide +kernel
theorem dX9_weighs_11 : decode cX9_weighs 11 = .ok (.if_icmp .ne 16, 3) := by decide +kernel
theorem dX9_weighs_14 : decode cX9_weighs 14 = .ok (.aload_n 0, 1) := by decide +kernel
theorem dX9_weighs_15 : decode cX9_weighs 15 = .ok (.getfield 7, 3) := by decide +kernel
theorem dX9_weighs_18 : decode cX9_weighs 18 = .ok (.iconst 1, 1) := by decide +kernel
theorem dX9_weighs_19 : decode cX9_weighs 19 = .ok (.iaload, 1) := by decide +kernel
theorem dX9_weighs_20 : decode cX9_weighs 20 = .ok (.ifCond .le 7, 3) := by decide +kernel
theorem dX9_weighs_23 : decode cX9_weighs 23 = .ok (.sipush (-1004), 3) := by decide +kernel
theorem dX9_weighs_26 : decode cX9_weighs 26 = .ok (.ireturn, 1) := by decide +kernel
theorem dX9_weighs_27 : decode cX9_weighs 27 = .ok (.aload_n 0, 1) := by decide +kernel
theorem dX9_weighs_28 : decode cX9_weighs 28 = .ok (.getfield 7, 3) := by decide +kernel
theorem dX9_weighs_31 : decode cX9_weighs 31 = .ok (.iconst 3, 1) := by decide +kernel
theorem dX9_weighs_32 : decode cX9_weighs 32 = .ok (.iaload, 1) := by decide +kernel
theorem dX9_weighs_33 : decode cX9_weighs 33 = .ok (.istore_n 2, 1) := by decide +kernel
theorem dX9_weighs_34 : decode cX9_weighs 34 = .ok (.aload_n 0, 1) := by decide +kernel
theorem dX9_weighs_35 : decode cX9_weighs 35 = .ok (.getfield 7, 3) := by decide +kernel
theorem dX9_weighs_38 : decode cX9_weighs 38 = .ok (.iconst 3, 1) := by decide +kernel
theorem dX9_weighs_39 : decode cX9_weighs 39 = .ok (.iload_n 1, 1) := by decide +kernel
theorem dX9_weighs_40 : decode cX9_weighs 40 = .ok (.iastore, 1) := by decide +kernel
theorem dX9_weighs_41 : decode cX9_weighs 41 = .ok (.iload_n 2, 1) := by decide +kernel
theorem dX9_weighs_42 : decode cX9_weighs 42 = .ok (.iload_n 1, 1) := by decide +kernel
theorem dX9_weighs_43 : decode cX9_weighs 43 = .ok (.if_icmp .ne 9, 3) := by decide +kernel
theorem dX9_weighs_46 : decode cX9_weighs 46 = .ok (.sipush (-1005), 3) := by decide +kernel
theorem dX9_weighs_49 : decode cX9_weighs 49 = .ok (.goto 8, 3) := by decide +kernel
theorem dX9_weighs_52 : decode cX9_weighs 52 = .ok (.aload_n 0, 1) := by decide +kernel
theorem dX9_weighs_53 : decode cX9_weighs 53 = .ok (.iconst 0, 1) := by decide +kernel
theorem dX9_weighs_54 : decode cX9_weighs 54 = .ok (.invokevirtual 45, 3) := by decide +kernel
theorem dX9_weighs_57 : decode cX9_weighs 57 = .ok (.ireturn, 1) := by decide +kernel
theorem dX9_clamps_0 : decode cX9_clamps 0 = .ok (.aload_n 0, 1) := by decide +kernel
theorem dX9_clamps_1 : decode cX9_clamps 1 = .ok (.getfield 7, 3) := by decide +kernel
theorem dX9_clamps_4 : decode cX9_clamps 4 = .ok (.iconst 4, 1) := by decide +kernel
theorem dX9_clamps_5 : decode cX9_clamps 5 = .ok (.iaload, 1) := by decide +kernel
theorem dX9_clamps_6 : decode cX9_clamps 6 = .ok (.bipush 10, 2) := by decide +kernel
theorem dX9_clamps_8 : decode cX9_clamps 8 = .ok (.if_icmp .ne 7, 3) := by decide +kernel
theorem dX9_clamps_11 : decode cX9_clamps 11 = .ok (.sipush (-1003), 3) := by decide +kernel
theorem dX9_clamps_14 : decode cX9_clamps 14 = .ok (.ireturn, 1) := by decide +kernel
theorem dX9_clamps_15 : decode cX9_clamps 15 = .ok (.iconst 0, 1) := by decide +kernel
theorem dX9_clamps_16 : decode cX9_clamps 16 = .ok (.istore_n 2, 1) := by decide +kernel
theorem dX9_clamps_17 : decode cX9_clamps 17 = .ok (.iconst 0, 1) := by decide +kernel
theorem dX9_clamps_18 : decode cX9_clamps 18 = .ok (.istore_n 3, 1) := by decide +kernel
theorem dX9_clamps_19 : decode cX9_clamps 19 = .ok (.iload_n 3, 1) := by decide +kernel
theorem dX9_clamps_20 : decode cX9_clamps 20 = .ok (.aload_n 0, 1) := by decide +kernel
theorem dX9_clamps_21 : decode cX9_clamps 21 = .ok (.getfield 7, 3) := by decide +kernel
theorem dX9_clamps_24 : decode cX9_clamps 24 = .ok (.iconst 4, 1) := by decide +kernel
theorem dX9_clamps_25 : decode cX9_clamps 25 = .ok (.iaload, 1) := by decide +kernel
theorem dX9_clamps_26 : decode cX9_clamps 26 = .ok (.if_icmp .ge 67, 3) := by decide +kernel
theorem dX9_clamps_29 : decode cX9_clamps 29 = .ok (.aload_n 0, 1) := by decide +kernel
theorem dX9_clamps_30 : decode cX9_clamps 30 = .ok (.getfield 7, 3) := by decide +kernel
theorem dX9_clamps_33 : decode cX9_clamps 33 = .ok (.iconst 0, 1) := by decide +kernel
theorem dX9_clamps_34 : decode cX9_clamps 34 = .ok (.iload_n 3, 1) := by decide +kernel
theorem dX9_clamps_35 : decode cX9_clamps 35 = .ok (.invokestatic 34, 3) := by decide +kernel
theorem dX9_clamps_38 : decode cX9_clamps 38 = .ok (.iaload, 1) := by decide +kernel
theorem dX9_clamps_39 : decode cX9_clamps 39 = .ok (.aload_n 0, 1) := by decide +kernel
theorem dX9_clamps_40 : decode cX9_clamps 40 = .ok (.getfield 7, 3) := by decide +kernel
theorem dX9_clamps_43 : decode cX9_clamps 43 = .ok (.iconst 1, 1) := by decide +kernel
theorem dX9_clamps_44 : decode cX9_clamps 44 = .ok (.iaload, 1) := by decide +kernel
theorem dX9_clamps_45 : decode cX9_clamps 45 = .ok (.isub, 1) := by decide +kernel
theorem dX9_clamps_46 : decode cX9_clamps 46 = .ok (.invokestatic 85, 3) := by decide +kernel
theorem dX9_clamps_49 : decode cX9_clamps 49 = .ok (.iconst 5, 1) := by decide +kernel
theorem dX9_clamps_50 : decode cX9_clamps 50 = .ok (.if_icmp .ge 7, 3) := by decide +kernel
theorem dX9_clamps_53 : decode cX9_clamps 53 = .ok (.sipush (-1004), 3) := by decide +kernel
theorem dX9_clamps_56 : decode cX9_clamps 56 = .ok (.ireturn, 1) := by decide +kernel
theorem dX9_clamps_57 : decode cX9_clamps 57 = .ok (.iload_n 2, 1) := by decide +kernel
theorem dX9_clamps_58 : decode cX9_clamps 58 = .ok (.aload_n 0, 1) := by decide +kernel
theorem dX9_clamps_59 : decode cX9_clamps 59 = .ok (.getfield 7, 3) := by decide +kernel
theorem dX9_clamps_62 : decode cX9_clamps 62 = .ok (.iconst 0, 1) := by decide +kernel
theorem dX9_clamps_63 : decode cX9_clamps 63 = .ok (.iload_n 3, 1) := by decide +kernel
theorem dX9_clamps_64 : decode cX9_clamps 64 = .ok (.invokestatic 34, 3) := by decide +kernel
theorem dX9_clamps_67 : decode cX9_clamps 67 = .ok (.iaload, 1) := by decide +kernel
theorem dX9_clamps_68 : decode cX9_clamps 68 = .ok (.aload_n 0, 1) := by decide +kernel
theorem dX9_clamps_69 : decode cX9_clamps 69 = .ok (.getfield 7, 3) := by decide +kernel
theorem dX9_clamps_72 : decode cX9_clamps 72 = .ok (.iconst 1, 1) := by decide +kernel
theorem dX9_clamps_73 : decode cX9_clamps 73 = .ok (.iaload, 1) := by decide +kernel
theorem dX9_clamps_74 : decode cX9_clamps 74 = .ok (.if_icmp .ge 7, 3) := by decide +kernel
theorem dX9_clamps_77 : decode cX9_clamps 77 = .ok (.iconst 1, 1) := by decide +kernel
theorem dX9_clamps_78 : decode cX9_clamps 78 = .ok (.goto 4, 3) := by decide +kernel
theorem dX9_clamps_81 : decode cX9_clamps 81 = .ok (.iconst 0, 1) := by decide +kernel
theorem dX9_clamps_82 : decode cX9_clamps 82 = .ok (.invokestatic 74, 3) := by decide +kernel
theorem dX9_clamps_85 : decode cX9_clamps 85 = .ok (.iadd, 1) := by decide +kernel
theorem dX9_clamps_86 : decode cX9_clamps 86 = .ok (.istore_n 2, 1) := by decide +kernel
theorem dX9_clamps_87 : decode cX9_clamps 87 = .ok (.iinc 3 1, 3) := by decide +kernel
theorem dX9_clamps_90 : decode cX9_clamps 90 = .ok (.goto (-71), 3) := by decide +kernel
theorem dX9_clamps_93 : decode cX9_clamps 93 = .ok (.iconst 0, 1) := by decide +kernel
theorem dX9_clamps_94 : decode cX9_clamps 94 = .ok (.aload_n 0, 1) := by decide +kernel
theorem dX9_clamps_95 : decode cX9_clamps 95 = .ok (.getfield 7, 3) := by decide +kernel
theorem dX9_clamps_98 : decode cX9_clamps 98 = .ok (.iconst 4, 1) := by decide +kernel
theorem dX9_clamps_99 : decode cX9_clamps 99 = .ok (.iaload, 1) := by decide +kernel
theorem dX9_clamps_100 : decode cX9_clamps 100 = .ok (.invokestatic 34, 3) := by decide +kernel
theorem dX9_clamps_103 : decode cX9_clamps 103 = .ok (.iconst 1, 1) := by decide +kernel
theorem dX9_clamps_104 : decode cX9_clamps 104 = .ok (.isub, 1) := by decide +kernel
theorem dX9_clamps_105 : decode cX9_clamps 105 = .ok (.istore_n 3, 1) := by decide +kernel
theorem dX9_clamps_106 : decode cX9_clamps 106 = .ok (.iload_n 3, 1) := by decide +kernel
theorem dX9_clamps_107 : decode cX9_clamps 107 = .ok (.iconst 0, 1) := by decide +kernel
theorem dX9_clamps_108 : decode cX9_clamps 108 = .ok (.iload_n 2, 1) := by decide +kernel
theorem dX9_clamps_109 : decode cX9_clamps 109 = .ok (.invokestatic 34, 3) := by decide +kernel
theorem dX9_clamps_112 : decode cX9_clamps 112 = .ok (.if_icmp .lt 24, 3) := by decide +kernel
theorem dX9_clamps_115 : decode cX9_clamps 115 = .ok (.aload_n 0, 1) := by decide +kernel
theorem dX9_clamps_116 : decode cX9_clamps 116 = .ok (.getfield 7, 3) := by decide +kernel
theorem dX9_clamps_119 : decode cX9_clamps 119 = .ok (.iload_n 3, 1) := by decide +kernel
theorem dX9_clamps_120 : decode cX9_clamps 120 = .ok (.bipush 12, 2) := by decide +kernel
theorem dX9_clamps_122 : decode cX9_clamps 122 = .ok (.iadd, 1) := by decide +kernel
theorem dX9_clamps_123 : decode cX9_clamps 123 = .ok (.aload_n 0, 1) := by decide +kernel
theorem dX9_clamps_124 : decode cX9_clamps 124 = .ok (.getfield 7, 3) := by decide +kernel
theorem dX9_clamps_127 : decode cX9_clamps 127 = .ok (.iload_n 3, 1) := by decide +kernel
theorem dX9_clamps_128 : decode cX9_clamps 128 = .ok (.iaload, 1) := by decide +kernel
theorem dX9_clamps_129 : decode cX9_clamps 129 = .ok (.iastore, 1) := by decide +kernel
theorem dX9_clamps_130 : decode cX9_clamps 130 = .ok (.iinc 3 (-1), 3) := by decide +kernel
theorem dX9_clamps_133 : decode cX9_clamps 133 = .ok (.goto (-27), 3) := by decide +kernel
theorem dX9_clamps_136 : decode cX9_clamps 136 = .ok (.iconst 0, 1) := by decide +kernel
theorem dX9_clamps_137 : decode cX9_clamps 137 = .ok (.istore_n 3, 1) := by decide +kernel
theorem dX9_clamps_138 : decode cX9_clamps 138 = .ok (.iload_n 3, 1) := by decide +kernel
theorem dX9_clamps_139 : decode cX9_clamps 139 = .ok (.bipush 12, 2) := by decide +kernel
theorem dX9_clamps_141 : decode cX9_clamps 141 = .ok (.if_icmp .ge 44, 3) := by decide +kernel
theorem dX9_clamps_144 : decode cX9_clamps 144 = .ok (.aload_n 0, 1) := by decide +kernel
theorem dX9_clamps_145 : decode cX9_clamps 145 = .ok (.getfield 7, 3) := by decide +kernel
theorem dX9_clamps_148 : decode cX9_clamps 148 = .ok (.iconst 0, 1) := by decide +kernel
theorem dX9_clamps_149 : decode cX9_clamps 149 = .ok (.iload_n 2, 1) := by decide +kernel
theorem dX9_clamps_150 : decode cX9_clamps 150 = .ok (.invokestatic 34, 3) := by decide +kernel
theorem dX9_clamps_153 : decode cX9_clamps 153 = .ok (.iload_n 3, 1) := by decide +kernel
theorem dX9_clamps_154 : decode cX9_clamps 154 = .ok (.iadd, 1) := by decide +kernel
theorem dX9_clamps_155 : decode cX9_clamps 155 = .ok (.iload_n 3, 1) := by decide +kernel
theorem dX9_clamps_156 : decode cX9_clamps 156 = .ok (.ifCond .ne 12, 3) := by decide +kernel
theorem dX9_clamps_159 : decode cX9_clamps 159 = .ok (.aload_n 0, 1) := by decide +kernel
theorem dX9_clamps_160 : decode cX9_clamps 160 = .ok (.getfield 7, 3) := by decide +kernel
theorem dX9_clamps_163 : decode cX9_clamps 163 = .ok (.iconst 1, 1) := by decide +kernel
theorem dX9_clamps_164 : decode cX9_clamps 164 = .ok (.iaload, 1) := by decide +kernel
theorem dX9_clamps_165 : decode cX9_clamps 165 = .ok (.goto 13, 3) := by decide +kernel
theorem dX9_clamps_168 : decode cX9_clamps 168 = .ok (.iload_n 3, 1) := by decide +kernel
theorem dX9_clamps_169 : decode cX9_clamps 169 = .ok (.iconst 2, 1) := by decide +kernel
theorem dX9_clamps_170 : decode cX9_clamps 170 = .ok (.if_icmp .ne 7, 3) := by decide +kernel
theorem dX9_clamps_173 : decode cX9_clamps 173 = .ok (.iload_n 1, 1) := by decide +kernel
theorem dX9_clamps_174 : decode cX9_clamps 174 = .ok (.goto 4, 3) := by decide +kernel
theorem dX9_clamps_177 : decode cX9_clamps 177 = .ok (.iconst 0, 1) := by decide +kernel
theorem dX9_clamps_178 : decode cX9_clamps 178 = .ok (.iastore, 1) := by decide +kernel
theorem dX9_clamps_179 : decode cX9_clamps 179 = .ok (.iinc 3 1, 3) := by decide +kernel
theorem dX9_clamps_182 : decode cX9_clamps 182 = .ok (.goto (-44), 3) := by decide +kernel
theorem dX9_clamps_185 : decode cX9_clamps 185 = .ok (.aload_n 0, 1) := by decide +kernel
theorem dX9_clamps_186 : decode cX9_clamps 186 = .ok (.getfield 7, 3) := by decide +kernel
theorem dX9_clamps_189 : decode cX9_clamps 189 = .ok (.iconst 4, 1) := by decide +kernel
theorem dX9_clamps_190 : decode cX9_clamps 190 = .ok (.dup2, 1) := by decide +kernel
theorem dX9_clamps_191 : decode cX9_clamps 191 = .ok (.iaload, 1) := by decide +kernel
theorem dX9_clamps_192 : decode cX9_clamps 192 = .ok (.iconst 1, 1) := by decide +kernel
theorem dX9_clamps_193 : decode cX9_clamps 193 = .ok (.iadd, 1) := by decide +kernel
theorem dX9_clamps_194 : decode cX9_clamps 194 = .ok (.iastore, 1) := by decide +kernel
theorem dX9_clamps_195 : decode cX9_clamps 195 = .ok (.iload_n 2, 1) := by decide +kernel
theorem dX9_clamps_196 : decode cX9_clamps 196 = .ok (.ireturn, 1) := by decide +kernel
theorem dX9_sends_0 : decode cX9_sends 0 = .ok (.aload_n 0, 1) := by decide +kernel
theorem dX9_sends_1 : decode cX9_sends 1 = .ok (.getfield 7, 3) := by decide +kernel
theorem dX9_sends_4 : decode cX9_sends 4 = .ok (.iconst 1, 1) := by decide +kernel
theorem dX9_sends_5 : decode cX9_sends 5 = .ok (.iaload, 1) := by decide +kernel
theorem dX9_sends_6 : decode cX9_sends 6 = .ok (.ifCond .ne 7, 3) := by decide +kernel
theorem dX9_sends_9 : decode cX9_sends 9 = .ok (.sipush (-1004), 3) := by decide +kernel
theorem dX9_sends_12 : decode cX9_sends 12 = .ok (.ireturn, 1) := by decide +kernel
theorem dX9_sends_13 : decode cX9_sends 13 = .ok (.aload_n 0, 1) := by decide +kernel
theorem dX9_sends_14 : decode cX9_sends 14 = .ok (.getfield 7, 3) := by decide +kernel
theorem dX9_sends_17 : decode cX9_sends 17 = .ok (.iconst 5, 1) := by decide +kernel
theorem dX9_sends_18 : decode cX9_sends 18 = .ok (.iaload, 1) := by decide +kernel
theorem dX9_sends_19 : decode cX9_sends 19 = .ok (.bipush 12, 2) := by decide +kernel
theorem dX9_sends_21 : decode cX9_sends 21 = .ok (.if_icmp .ne 7, 3) := by decide +kernel
theorem dX9_sends_24 : decode cX9_sends 24 = .ok (.sipush (-1003), 3) := by decide +kernel
theorem dX9_sends_27 : decode cX9_sends 27 = .ok (.ireturn, 1) := by decide +kernel
theorem dX9_sends_28 : decode cX9_sends 28 = .ok (.aload_n 0, 1) := by decide +kernel
theorem dX9_sends_29 : decode cX9_sends 29 = .ok (.iconst 0, 1) := by decide +kernel
theorem dX9_sends_30 : decode cX9_sends 30 = .ok (.aload_n 0, 1) := by decide +kernel
theorem dX9_sends_31 : decode cX9_sends 31 = .ok (.getfield 7, 3) := by decide +kernel
theorem dX9_sends_34 : decode cX9_sends 34 = .ok (.iconst 1, 1) := by decide +kernel
theorem dX9_sends_35 : decode cX9_sends 35 = .ok (.iaload, 1) := by decide +kernel
theorem dX9_sends_36 : decode cX9_sends 36 = .ok (.iconst 0, 1) := by decide +kernel
theorem dX9_sends_37 : decode cX9_sends 37 = .ok (.invokevirtual 60, 3) := by decide +kernel
theorem dX9_sends_40 : decode cX9_sends 40 = .ok (.aload_n 0, 1) := by decide +kernel
theorem dX9_sends_41 : decode cX9_sends 41 = .ok (.getfield 7, 3) := by decide +kernel
theorem dX9_sends_44 : decode cX9_sends 44 = .ok (.bipush 6, 2) := by decide +kernel
theorem dX9_sends_46 : decode cX9_sends 46 = .ok (.dup2, 1) := by decide +kernel
theorem dX9_sends_47 : decode cX9_sends 47 = .ok (.iaload, 1) := by decide +kernel
theorem dX9_sends_48 : decode cX9_sends 48 = .ok (.iconst 1, 1) := by decide +kernel
theorem dX9_sends_49 : decode cX9_sends 49 = .ok (.iadd, 1) := by decide +kernel
theorem dX9_sends_50 : decode cX9_sends 50 = .ok (.iastore, 1) := by decide +kernel
theorem dX9_sends_51 : decode cX9_sends 51 = .ok (.aload_n 0, 1) := by decide +kernel
theorem dX9_sends_52 : decode cX9_sends 52 = .ok (.getfield 7, 3) := by decide +kernel
theorem dX9_sends_55 : decode cX9_sends 55 = .ok (.iconst 5, 1) := by decide +kernel
theorem dX9_sends_56 : decode cX9_sends 56 = .ok (.iaload, 1) := by decide +kernel
theorem dX9_sends_57 : decode cX9_sends 57 = .ok (.ireturn, 1) := by decide +kernel
theorem dX9_passes_0 : decode cX9_passes 0 = .ok (.iload_n 1, 1) := by decide +kernel
theorem dX9_passes_1 : decode cX9_passes 1 = .ok (.iconst 1, 1) := by decide +kernel
theorem dX9_passes_2 : decode cX9_passes 2 = .ok (.sipush 999, 3) := by decide +kernel
theorem dX9_passes_5 : decode cX9_passes 5 = .ok (.invokestatic 81, 3) := by decide +kernel
theorem dX9_passes_8 : decode cX9_passes 8 = .ok (.ifCond .ne 9, 3) := by decide +kernel
theorem dX9_passes_11 : decode cX9_passes 11 = .ok (.sipush (-1002), 3) := by decide +kernel
theorem dX9_passes_14 : decode cX9_passes 14 = .ok (.goto 28, 3) := by decide +kernel
theorem dX9_passes_17 : decode cX9_passes 17 = .ok (.aload_n 0, 1) := by decide +kernel
theorem dX9_passes_18 : decode cX9_passes 18 = .ok (.getfield 7, 3) := by decide +kernel
theorem dX9_passes_21 : decode cX9_passes 21 = .ok (.iconst 0, 1) := by decide +kernel
theorem dX9_passes_22 : decode cX9_passes 22 = .ok (.iaload, 1) := by decide +kernel
theorem dX9_passes_23 : decode cX9_passes 23 = .ok (.iload_n 1, 1) := by decide +kernel
theorem dX9_passes_24 : decode cX9_passes 24 = .ok (.iadd, 1) := by decide +kernel
theorem dX9_passes_25 : decode cX9_passes 25 = .ok (.ldc 91, 2) := by decide +kernel
theorem dX9_passes_27 : decode cX9_passes 27 = .ok (.if_icmp .le 9, 3) := by decide +kernel
theorem dX9_passes_30 : decode cX9_passes 30 = .ok (.sipush (-1003), 3) := by decide +kernel
theorem dX9_passes_33 : decode cX9_passes 33 = .ok (.goto 9, 3) := by decide +kernel
theorem dX9_passes_36 : decode cX9_passes 36 = .ok (.aload_n 0, 1) := by decide +kernel
theorem dX9_passes_37 : decode cX9_passes 37 = .ok (.iconst 0, 1) := by decide +kernel
theorem dX9_passes_38 : decode cX9_passes 38 = .ok (.iload_n 1, 1) := by decide +kernel
theorem dX9_passes_39 : decode cX9_passes 39 = .ok (.invokevirtual 92, 3) := by decide +kernel
theorem dX9_passes_42 : decode cX9_passes 42 = .ok (.ireturn, 1) := by decide +kernel
theorem dX9_isBottle_0 : decode cX9_isBottle 0 = .ok (.iload_n 1, 1) := by decide +kernel
theorem dX9_isBottle_1 : decode cX9_isBottle 1 = .ok (.iconst 0, 1) := by decide +kernel
theorem dX9_isBottle_2 : decode cX9_isBottle 2 = .ok (.aload_n 0, 1) := by decide +kernel
theorem dX9_isBottle_3 : decode cX9_isBottle 3 = .ok (.getfield 7, 3) := by decide +kernel
theorem dX9_isBottle_6 : decode cX9_isBottle 6 = .ok (.iconst 4, 1) := by decide +kernel
theorem dX9_isBottle_7 : decode cX9_isBottle 7 = .ok (.iaload, 1) := by decide +kernel
theorem dX9_isBottle_8 : decode cX9_isBottle 8 = .ok (.iconst 1, 1) := by decide +kernel
theorem dX9_isBottle_9 : decode cX9_isBottle 9 = .ok (.isub, 1) := by decide +kernel
theorem dX9_isBottle_10 : decode cX9_isBottle 10 = .ok (.invokestatic 81, 3) := by decide +kernel
theorem dX9_isBottle_13 : decode cX9_isBottle 13 = .ok (.ireturn, 1) := by decide +kernel
theorem dX9_takes_0 : decode cX9_takes 0 = .ok (.aload_n 0, 1) := by decide +kernel
theorem dX9_takes_1 : decode cX9_takes 1 = .ok (.iload_n 1, 1) := by decide +kernel
theorem dX9_takes_2 : decode cX9_takes 2 = .ok (.invokevirtual 95, 3) := by decide +kernel
theorem dX9_takes_5 : decode cX9_takes 5 = .ok (.ifCond .ne 7, 3) := by decide +kernel
theorem dX9_takes_8 : decode cX9_takes 8 = .ok (.sipush (-1001), 3) := by decide +kernel
theorem dX9_takes_11 : decode cX9_takes 11 = .ok (.ireturn, 1) := by decide +kernel
theorem dX9_takes_12 : decode cX9_takes 12 = .ok (.aload_n 0, 1) := by decide +kernel
theorem dX9_takes_13 : decode cX9_takes 13 = .ok (.iconst 0, 1) := by decide +kernel
theorem dX9_takes_14 : decode cX9_takes 14 = .ok (.iload_n 1, 1) := by decide +kernel
theorem dX9_takes_15 : decode cX9_takes 15 = .ok (.invokevirtual 38, 3) := by decide +kernel
theorem dX9_takes_18 : decode cX9_takes 18 = .ok (.ifCond .eq 7, 3) := by decide +kernel
theorem dX9_takes_21 : decode cX9_takes 21 = .ok (.sipush (-1004), 3) := by decide +kernel
theorem dX9_takes_24 : decode cX9_takes 24 = .ok (.ireturn, 1) := by decide +kernel
theorem dX9_takes_25 : decode cX9_takes 25 = .ok (.aload_n 0, 1) := by decide +kernel
theorem dX9_takes_26 : decode cX9_takes 26 = .ok (.getfield 7, 3) := by decide +kernel
theorem dX9_takes_29 : decode cX9_takes 29 = .ok (.iconst 4, 1) := by decide +kernel
theorem dX9_takes_30 : decode cX9_takes 30 = .ok (.dup2, 1) := by decide +kernel
theorem dX9_takes_31 : decode cX9_takes 31 = .ok (.iaload, 1) := by decide +kernel
theorem dX9_takes_32 : decode cX9_takes 32 = .ok (.iconst 1, 1) := by decide +kernel
theorem dX9_takes_33 : decode cX9_takes 33 = .ok (.isub, 1) := by decide +kernel
theorem dX9_takes_34 : decode cX9_takes 34 = .ok (.iastore, 1) := by decide +kernel
theorem dX9_takes_35 : decode cX9_takes 35 = .ok (.iconst 0, 1) := by decide +kernel
theorem dX9_takes_36 : decode cX9_takes 36 = .ok (.iload_n 1, 1) := by decide +kernel
theorem dX9_takes_37 : decode cX9_takes 37 = .ok (.invokestatic 34, 3) := by decide +kernel
theorem dX9_takes_40 : decode cX9_takes 40 = .ok (.istore_n 2, 1) := by decide +kernel
theorem dX9_takes_41 : decode cX9_takes 41 = .ok (.iload_n 2, 1) := by decide +kernel
theorem dX9_takes_42 : decode cX9_takes 42 = .ok (.iconst 0, 1) := by decide +kernel
theorem dX9_takes_43 : decode cX9_takes 43 = .ok (.aload_n 0, 1) := by decide +kernel
theorem dX9_takes_44 : decode cX9_takes 44 = .ok (.getfield 7, 3) := by decide +kernel
theorem dX9_takes_47 : decode cX9_takes 47 = .ok (.iconst 4, 1) := by decide +kernel
theorem dX9_takes_48 : decode cX9_takes 48 = .ok (.iaload, 1) := by decide +kernel
theorem dX9_takes_49 : decode cX9_takes 49 = .ok (.invokestatic 34, 3) := by decide +kernel
theorem dX9_takes_52 : decode cX9_takes 52 = .ok (.if_icmp .ge 24, 3) := by decide +kernel
theorem dX9_takes_55 : decode cX9_takes 55 = .ok (.aload_n 0, 1) := by decide +kernel
theorem dX9_takes_56 : decode cX9_takes 56 = .ok (.getfield 7, 3) := by decide +kernel
theorem dX9_takes_59 : decode cX9_takes 59 = .ok (.iload_n 2, 1) := by decide +kernel
theorem dX9_takes_60 : decode cX9_takes 60 = .ok (.aload_n 0, 1) := by decide +kernel
theorem dX9_takes_61 : decode cX9_takes 61 = .ok (.getfield 7, 3) := by decide +kernel
theorem dX9_takes_64 : decode cX9_takes 64 = .ok (.iload_n 2, 1) := by decide +kernel
theorem dX9_takes_65 : decode cX9_takes 65 = .ok (.bipush 12, 2) := by decide +kernel
theorem dX9_takes_67 : decode cX9_takes 67 = .ok (.iadd, 1) := by decide +kernel
theorem dX9_takes_68 : decode cX9_takes 68 = .ok (.iaload, 1) := by decide +kernel
theorem dX9_takes_69 : decode cX9_takes 69 = .ok (.iastore, 1) := by decide +kernel
theorem dX9_takes_70 : decode cX9_takes 70 = .ok (.iinc 2 1, 3) := by decide +kernel
theorem dX9_takes_73 : decode cX9_takes 73 = .ok (.goto (-32), 3) := by decide +kernel
theorem dX9_takes_76 : decode cX9_takes 76 = .ok (.aload_n 0, 1) := by decide +kernel
theorem dX9_takes_77 : decode cX9_takes 77 = .ok (.getfield 7, 3) := by decide +kernel
theorem dX9_takes_80 : decode cX9_takes 80 = .ok (.iconst 4, 1) := by decide +kernel
theorem dX9_takes_81 : decode cX9_takes 81 = .ok (.iaload, 1) := by decide +kernel
theorem dX9_takes_82 : decode cX9_takes 82 = .ok (.ireturn, 1) := by decide +kernel
theorem dX9_waters_0 : decode cX9_waters 0 = .ok (.iload_n 1, 1) := by decide +kernel
theorem dX9_waters_1 : decode cX9_waters 1 = .ok (.iconst 0, 1) := by decide +kernel
theorem dX9_waters_2 : decode cX9_waters 2 = .ok (.bipush 9, 2) := by decide +kernel
theorem dX9_waters_4 : decode cX9_waters 4 = .ok (.invokestatic 81, 3) := by decide +kernel
theorem dX9_waters_7 : decode cX9_waters 7 = .ok (.ifCond .ne 7, 3) := by decide +kernel
theorem dX9_waters_10 : decode cX9_waters 10 = .ok (.sipush (-1001), 3) := by decide +kernel
theorem dX9_waters_13 : decode cX9_waters 13 = .ok (.ireturn, 1) := by decide +kernel
theorem dX9_waters_14 : decode cX9_waters 14 = .ok (.iload_n 2, 1) := by decide +kernel
theorem dX9_waters_15 : decode cX9_waters 15 = .ok (.bipush (-20), 2) := by decide +kernel
theorem dX9_waters_17 : decode cX9_waters 17 = .ok (.sipush 300, 3) := by decide +kernel
theorem dX9_waters_20 : decode cX9_waters 20 = .ok (.invokestatic 81, 3) := by decide +kernel
theorem dX9_waters_23 : decode cX9_waters 23 = .ok (.ifCond .eq 14, 3) := by decide +kernel
theorem dX9_waters_26 : decode cX9_waters 26 = .ok (.iload_n 3, 1) := by decide +kernel
theorem dX9_waters_27 : decode cX9_waters 27 = .ok (.iconst 0, 1) := by decide +kernel
theorem dX9_waters_28 : decode cX9_waters 28 = .ok (.sipush 420, 3) := by decide +kernel
theorem dX9_waters_31 : decode cX9_waters 31 = .ok (.invokestatic 81, 3) := by decide +kernel
theorem dX9_waters_34 : decode cX9_waters 34 = .ok (.ifCond .ne 7, 3) := by decide +kernel
theorem dX9_waters_37 : decode cX9_waters 37 = .ok (.sipush (-1002), 3) := by decide +kernel
theorem dX9_waters_40 : decode cX9_waters 40 = .ok (.ireturn, 1) := by decide +kernel
theorem dX9_waters_41 : decode cX9_waters 41 = .ok (.bipush 13, 2) := by decide +kernel
theorem dX9_waters_43 : decode cX9_waters 43 = .ok (.iconst 2, 1) := by decide +kernel
theorem dX9_waters_44 : decode cX9_waters 44 = .ok (.iload_n 1, 1) := by decide +kernel
theorem dX9_waters_45 : decode cX9_waters 45 = .ok (.imul, 1) := by decide +kernel
theorem dX9_waters_46 : decode cX9_waters 46 = .ok (.iadd, 1) := by decide +kernel
theorem dX9_waters_47 : decode cX9_waters 47 = .ok (.istore 4, 2) := by decide +kernel
theorem dX9_waters_49 : decode cX9_waters 49 = .ok (.aload_n 0, 1) := by decide +kernel
theorem dX9_waters_50 : decode cX9_waters 50 = .ok (.getfield 7, 3) := by decide +kernel
theorem dX9_waters_53 : decode cX9_waters 53 = .ok (.iload 4, 2) := by decide +kernel
theorem dX9_waters_55 : decode cX9_waters 55 = .ok (.iaload, 1) := by decide +kernel
theorem dX9_waters_56 : decode cX9_waters 56 = .ok (.istore 5, 2) := by decide +kernel
theorem dX9_waters_58 : decode cX9_waters 58 = .ok (.aload_n 0, 1) := by decide +kernel
theorem dX9_waters_59 : decode cX9_waters 59 = .ok (.getfield 7, 3) := by decide +kernel
theorem dX9_waters_62 : decode cX9_waters 62 = .ok (.iload 4, 2) := by decide +kernel
theorem dX9_waters_64 : decode cX9_waters 64 = .ok (.iaload, 1) := by decide +kernel
theorem dX9_waters_65 : decode cX9_waters 65 = .ok (.iload_n 2, 1) := by decide +kernel
theorem dX9_waters_66 : decode cX9_waters 66 = .ok (.if_icmp .ne 20, 3) := by decide +kernel
theorem dX9_waters_69 : decode cX9_waters 69 = .ok (.aload_n 0, 1) := by decide +kernel
theorem dX9_waters_70 : decode cX9_waters 70 = .ok (.getfield 7, 3) := by decide +kernel
theorem dX9_waters_73 : decode cX9_waters 73 = .ok (.iload 4, 2) := by decide +kernel
theorem dX9_waters_75 : decode cX9_waters 75 = .ok (.iconst 1, 1) := by decide +kernel
theorem dX9_waters_76 : decode cX9_waters 76 = .ok (.iadd, 1) := by decide +kernel
theorem dX9_waters_77 : decode cX9_waters 77 = .ok (.iaload, 1) := by decide +kernel
theorem dX9_waters_78 : decode cX9_waters 78 = .ok (.iload_n 3, 1) := by decide +kernel
theorem dX9_waters_79 : decode cX9_waters 79 = .ok (.if_icmp .ne 7, 3) := by decide +kernel
theorem dX9_waters_82 : decode cX9_waters 82 = .ok (.iconst 1, 1) := by decide +kernel
theorem dX9_waters_83 : decode cX9_waters 83 = .ok (.goto 4, 3) := by decide +kernel
theorem dX9_waters_86 : decode cX9_waters 86 = .ok (.iconst 0, 1) := by decide +kernel
theorem dX9_waters_87 : decode cX9_waters 87 = .ok (.istore 6, 2) := by decide +kernel
theorem dX9_waters_89 : decode cX9_waters 89 = .ok (.aload_n 0, 1) := by decide +kernel
theorem dX9_waters_90 : decode cX9_waters 90 = .ok (.getfield 7, 3) := by decide +kernel
theorem dX9_waters_93 : decode cX9_waters 93 = .ok (.iload 4, 2) := by decide +kernel
theorem dX9_waters_95 : decode cX9_waters 95 = .ok (.iload_n 2, 1) := by decide +kernel
theorem dX9_waters_96 : decode cX9_waters 96 = .ok (.iastore, 1) := by decide +kernel
theorem dX9_waters_97 : decode cX9_waters 97 = .ok (.aload_n 0, 1) := by decide +kernel
theorem dX9_waters_98 : decode cX9_waters 98 = .ok (.getfield 7, 3) := by decide +kernel
theorem dX9_waters_101 : decode cX9_waters 101 = .ok (.iload 4, 2) := by decide +kernel
theorem dX9_waters_103 : decode cX9_waters 103 = .ok (.iconst 1, 1) := by decide +kernel
theorem dX9_waters_104 : decode cX9_waters 104 = .ok (.iadd, 1) := by decide +kernel
theorem dX9_waters_105 : decode cX9_waters 105 = .ok (.iload_n 3, 1) := by decide +kernel
theorem dX9_waters_106 : decode cX9_waters 106 = .ok (.iastore, 1) := by decide +kernel
theorem dX9_waters_107 : decode cX9_waters 107 = .ok (.iload 6, 2) := by decide +kernel
theorem dX9_waters_109 : decode cX9_waters 109 = .ok (.ifCond .eq 9, 3) := by decide +kernel
theorem dX9_waters_112 : decode cX9_waters 112 = .ok (.sipush (-1005), 3) := by decide +kernel
theorem dX9_waters_115 : decode cX9_waters 115 = .ok (.goto 5, 3) := by decide +kernel
theorem dX9_waters_118 : decode cX9_waters 118 = .ok (.iload 5, 2) := by decide +kernel
theorem dX9_waters_120 : decode cX9_waters 120 = .ok (.ireturn, 1) := by decide +kernel
theorem dX9_sets_0 : decode cX9_sets 0 = .ok (.iload_n 1, 1) := by decide +kernel
theorem dX9_sets_1 : decode cX9_sets 1 = .ok (.iconst 0, 1) := by decide +kernel
theorem dX9_sets_2 : decode cX9_sets 2 = .ok (.iconst 1, 1) := by decide +kernel
theorem dX9_sets_3 : decode cX9_sets 3 = .ok (.invokestatic 81, 3) := by decide +kernel
theorem dX9_sets_6 : decode cX9_sets 6 = .ok (.ifCond .ne 7, 3) := by decide +kernel
theorem dX9_sets_9 : decode cX9_sets 9 = .ok (.sipush (-1001), 3) := by decide +kernel
theorem dX9_sets_12 : decode cX9_sets 12 = .ok (.ireturn, 1) := by decide +kernel
theorem dX9_sets_13 : decode cX9_sets 13 = .ok (.iload_n 2, 1) := by decide +kernel
theorem dX9_sets_14 : decode cX9_sets 14 = .ok (.iload_n 1, 1) := by decide +kernel
theorem dX9_sets_15 : decode cX9_sets 15 = .ok (.sipush 999, 3) := by decide +kernel
theorem dX9_sets_18 : decode cX9_sets 18 = .ok (.invokestatic 81, 3) := by decide +kernel
theorem dX9_sets_21 : decode cX9_sets 21 = .ok (.ifCond .ne 7, 3) := by decide +kernel
theorem dX9_sets_24 : decode cX9_sets 24 = .ok (.sipush (-1002), 3) := by decide +kernel
theorem dX9_sets_27 : decode cX9_sets 27 = .ok (.ireturn, 1) := by decide +kernel
theorem dX9_sets_28 : decode cX9_sets 28 = .ok (.aload_n 0, 1) := by decide +kernel
theorem dX9_sets_29 : decode cX9_sets 29 = .ok (.getfield 7, 3) := by decide +kernel
theorem dX9_sets_32 : decode cX9_sets 32 = .ok (.bipush 11, 2) := by decide +kernel
theorem dX9_sets_34 : decode cX9_sets 34 = .ok (.iload_n 1, 1) := by decide +kernel
theorem dX9_sets_35 : decode cX9_sets 35 = .ok (.iadd, 1) := by decide +kernel
theorem dX9_sets_36 : decode cX9_sets 36 = .ok (.iaload, 1) := by decide +kernel
theorem dX9_sets_37 : decode cX9_sets 37 = .ok (.istore_n 3, 1) := by decide +kernel
theorem dX9_sets_38 : decode cX9_sets 38 = .ok (.aload_n 0, 1) := by decide +kernel
theorem dX9_sets_39 : decode cX9_sets 39 = .ok (.getfield 7, 3) := by decide +kernel
theorem dX9_sets_42 : decode cX9_sets 42 = .ok (.bipush 11, 2) := by decide +kernel
theorem dX9_sets_44 : decode cX9_sets 44 = .ok (.iload_n 1, 1) := by decide +kernel
theorem dX9_sets_45 : decode cX9_sets 45 = .ok (.iadd, 1) := by decide +kernel
theorem dX9_sets_46 : decode cX9_sets 46 = .ok (.iload_n 2, 1) := by decide +kernel
theorem dX9_sets_47 : decode cX9_sets 47 = .ok (.iastore, 1) := by decide +kernel
theorem dX9_sets_48 : decode cX9_sets 48 = .ok (.iload_n 3, 1) := by decide +kernel
theorem dX9_sets_49 : decode cX9_sets 49 = .ok (.iload_n 2, 1) := by decide +kernel
theorem dX9_sets_50 : decode cX9_sets 50 = .ok (.if_icmp .ne 9, 3) := by decide +kernel
theorem dX9_sets_53 : decode cX9_sets 53 = .ok (.sipush (-1005), 3) := by decide +kernel
theorem dX9_sets_56 : decode cX9_sets 56 = .ok (.goto 4, 3) := by decide +kernel
theorem dX9_sets_59 : decode cX9_sets 59 = .ok (.iload_n 3, 1) := by decide +kernel
theorem dX9_sets_60 : decode cX9_sets 60 = .ok (.ireturn, 1) := by decide +kernel
theorem dX9_isDone_0 : decode cX9_isDone 0 = .ok (.iload_n 0, 1) := by decide +kernel
theorem dX9_isDone_1 : decode cX9_isDone 1 = .ok (.sipush (-1001), 3) := by decide +kernel
theorem dX9_isDone_4 : decode cX9_isDone 4 = .ok (.if_icmp .le 7, 3) := by decide +kernel
theorem dX9_isDone_7 : decode cX9_isDone 7 = .ok (.iconst 1, 1) := by decide +kernel
theorem dX9_isDone_8 : decode cX9_isDone 8 = .ok (.goto 4, 3) := by decide +kernel
theorem dX9_isDone_11 : decode cX9_isDone 11 = .ok (.iconst 0, 1) := by decide +kernel
theorem dX9_isDone_12 : decode cX9_isDone 12 = .ok (.ireturn, 1) := by decide +kernel
theorem dX9_done_0 : decode cX9_done 0 = .ok (.iload_n 1, 1) := by decide +kernel
theorem dX9_done_1 : decode cX9_done 1 = .ok (.invokestatic 99, 3) := by decide +kernel
theorem dX9_done_4 : decode cX9_done 4 = .ok (.ifCond .eq 9, 3) := by decide +kernel
theorem dX9_done_7 : decode cX9_done 7 = .ok (.aload_n 0, 1) := by decide +kernel
theorem dX9_done_8 : decode cX9_done 8 = .ok (.bipush 6, 2) := by decide +kernel
theorem dX9_done_10 : decode cX9_done 10 = .ok (.invokevirtual 102, 3) := by decide +kernel
theorem dX9_done_13 : decode cX9_done 13 = .ok (.iload_n 1, 1) := by decide +kernel
theorem dX9_done_14 : decode cX9_done 14 = .ok (.ireturn, 1) := by decide +kernel
theorem dX9_pay_0 : decode cX9_pay 0 = .ok (.aload_n 0, 1) := by decide +kernel
theorem dX9_pay_1 : decode cX9_pay 1 = .ok (.iconst 0, 1) := by decide +kernel
theorem dX9_pay_2 : decode cX9_pay 2 = .ok (.bipush 6, 2) := by decide +kernel
theorem dX9_pay_4 : decode cX9_pay 4 = .ok (.invokevirtual 26, 3) := by decide +kernel
theorem dX9_pay_7 : decode cX9_pay 7 = .ok (.aload_n 0, 1) := by decide +kernel
theorem dX9_pay_8 : decode cX9_pay 8 = .ok (.aload_n 0, 1) := by decide +kernel
theorem dX9_pay_9 : decode cX9_pay 9 = .ok (.iload_n 1, 1) := by decide +kernel
theorem dX9_pay_10 : decode cX9_pay 10 = .ok (.invokevirtual 106, 3) := by decide +kernel
theorem dX9_pay_13 : decode cX9_pay 13 = .ok (.invokevirtual 109, 3) := by decide +kernel
theorem dX9_pay_16 : decode cX9_pay 16 = .ok (.ireturn, 1) := by decide +kernel
theorem dX9_setSlope_0 : decode cX9_setSlope 0 = .ok (.aload_n 0, 1) := by decide +kernel
theorem dX9_setSlope_1 : decode cX9_setSlope 1 = .ok (.iconst 0, 1) := by decide +kernel
theorem dX9_setSlope_2 : decode cX9_setSlope 2 = .ok (.bipush 6, 2) := by decide +kernel
theorem dX9_setSlope_4 : decode cX9_setSlope 4 = .ok (.invokevirtual 26, 3) := by decide +kernel
theorem dX9_setSlope_7 : decode cX9_setSlope 7 = .ok (.aload_n 0, 1) := by decide +kernel
theorem dX9_setSlope_8 : decode cX9_setSlope 8 = .ok (.aload_n 0, 1) := by decide +kernel
theorem dX9_setSlope_9 : decode cX9_setSlope 9 = .ok (.iload_n 1, 1) := by decide +kernel
theorem dX9_setSlope_10 : decode cX9_setSlope 10 = .ok (.invokevirtual 112, 3) := by decide +kernel
theorem dX9_setSlope_13 : decode cX9_setSlope 13 = .ok (.invokevirtual 109, 3) := by decide +kernel
theorem dX9_setSlope_16 : decode cX9_setSlope 16 = .ok (.ireturn, 1) := by decide +kernel
theorem dX9_weight_0 : decode cX9_weight 0 = .ok (.aload_n 0, 1) := by decide +kernel
theorem dX9_weight_1 : decode cX9_weight 1 = .ok (.iconst 0, 1) := by decide +kernel
theorem dX9_weight_2 : decode cX9_weight 2 = .ok (.bipush 6, 2) := by decide +kernel
theorem dX9_weight_4 : decode cX9_weight 4 = .ok (.invokevirtual 26, 3) := by decide +kernel
theorem dX9_weight_7 : decode cX9_weight 7 = .ok (.aload_n 0, 1) := by decide +kernel
theorem dX9_weight_8 : decode cX9_weight 8 = .ok (.aload_n 0, 1) := by decide +kernel
theorem dX9_weight_9 : decode cX9_weight 9 = .ok (.iload_n 1, 1) := by decide +kernel
theorem dX9_weight_10 : decode cX9_weight 10 = .ok (.invokestatic 74, 3) := by decide +kernel
theorem dX9_weight_13 : decode cX9_weight 13 = .ok (.invokevirtual 115, 3) := by decide +kernel
theorem dX9_weight_16 : decode cX9_weight 16 = .ok (.invokevirtual 109, 3) := by decide +kernel
theorem dX9_weight_19 : decode cX9_weight 19 = .ok (.ireturn, 1) := by decide +kernel
theorem dX9_clamp_0 : decode cX9_clamp 0 = .ok (.aload_n 0, 1) := by decide +kernel
theorem dX9_clamp_1 : decode cX9_clamp 1 = .ok (.iconst 0, 1) := by decide +kernel
theorem dX9_clamp_2 : decode cX9_clamp 2 = .ok (.bipush 6, 2) := by decide +kernel
theorem dX9_clamp_4 : decode cX9_clamp 4 = .ok (.invokevirtual 26, 3) := by decide +kernel
theorem dX9_clamp_7 : decode cX9_clamp 7 = .ok (.aload_n 0, 1) := by decide +kernel
theorem dX9_clamp_8 : decode cX9_clamp 8 = .ok (.aload_n 0, 1) := by decide +kernel
theorem dX9_clamp_9 : decode cX9_clamp 9 = .ok (.iload_n 1, 1) := by decide +kernel
theorem dX9_clamp_10 : decode cX9_clamp 10 = .ok (.invokestatic 74, 3) := by decide +kernel
theorem dX9_clamp_13 : decode cX9_clamp 13 = .ok (.invokevirtual 118, 3) := by decide +kernel
theorem dX9_clamp_16 : decode cX9_clamp 16 = .ok (.invokevirtual 109, 3) := by decide +kernel
theorem dX9_clamp_19 : decode cX9_clamp 19 = .ok (.ireturn, 1) := by decide +kernel
theorem dX9_takeOff_0 : decode cX9_takeOff 0 = .ok (.aload_n 0, 1) := by decide +kernel
theorem dX9_takeOff_1 : decode cX9_takeOff 1 = .ok (.iconst 0, 1) := by decide +kernel
theorem dX9_takeOff_2 : decode cX9_takeOff 2 = .ok (.bipush 6, 2) := by decide +kernel
theorem dX9_takeOff_4 : decode cX9_takeOff 4 = .ok (.invokevirtual 26, 3) := by decide +kernel
theorem dX9_takeOff_7 : decode cX9_takeOff 7 = .ok (.aload_n 0, 1) := by decide +kernel
theorem dX9_takeOff_8 : decode cX9_takeOff 8 = .ok (.aload_n 0, 1) := by decide +kernel
theorem dX9_takeOff_9 : decode cX9_takeOff 9 = .ok (.iload_n 1, 1) := by decide +kernel
theorem dX9_takeOff_10 : decode cX9_takeOff 10 = .ok (.invokevirtual 121, 3) := by decide +kernel
theorem dX9_takeOff_13 : decode cX9_takeOff 13 = .ok (.invokevirtual 109, 3) := by decide +kernel
theorem dX9_takeOff_16 : decode cX9_takeOff 16 = .ok (.ireturn, 1) := by decide +kernel
theorem dX9_send_0 : decode cX9_send 0 = .ok (.aload_n 0, 1) := by decide +kernel
theorem dX9_send_1 : decode cX9_send 1 = .ok (.iconst 0, 1) := by decide +kernel
theorem dX9_send_2 : decode cX9_send 2 = .ok (.bipush 6, 2) := by decide +kernel
theorem dX9_send_4 : decode cX9_send 4 = .ok (.invokevirtual 26, 3) := by decide +kernel
theorem dX9_send_7 : decode cX9_send 7 = .ok (.aload_n 0, 1) := by decide +kernel
theorem dX9_send_8 : decode cX9_send 8 = .ok (.aload_n 0, 1) := by decide +kernel
theorem dX9_send_9 : decode cX9_send 9 = .ok (.invokevirtual 124, 3) := by decide +kernel
theorem dX9_send_12 : decode cX9_send 12 = .ok (.invokevirtual 109, 3) := by decide +kernel
theorem dX9_send_15 : decode cX9_send 15 = .ok (.ireturn, 1) := by decide +kernel
theorem dX9_pass_0 : decode cX9_pass 0 = .ok (.aload_n 0, 1) := by decide +kernel
theorem dX9_pass_1 : decode cX9_pass 1 = .ok (.iconst 0, 1) := by decide +kernel
theorem dX9_pass_2 : decode cX9_pass 2 = .ok (.bipush 6, 2) := by decide +kernel
theorem dX9_pass_4 : decode cX9_pass 4 = .ok (.invokevirtual 26, 3) := by decide +kernel
theorem dX9_pass_7 : decode cX9_pass 7 = .ok (.aload_n 0, 1) := by decide +kernel
theorem dX9_pass_8 : decode cX9_pass 8 = .ok (.aload_n 0, 1) := by decide +kernel
theorem dX9_pass_9 : decode cX9_pass 9 = .ok (.iload_n 1, 1) := by decide +kernel
theorem dX9_pass_10 : decode cX9_pass 10 = .ok (.invokevirtual 128, 3) := by decide +kernel
theorem dX9_pass_13 : decode cX9_pass 13 = .ok (.invokevirtual 109, 3) := by decide +kernel
theorem dX9_pass_16 : decode cX9_pass 16 = .ok (.ireturn, 1) := by decide +kernel
theorem dX9_setWater_0 : decode cX9_setWater 0 = .ok (.aload_n 0, 1) := by decide +kernel
theorem dX9_setWater_1 : decode cX9_setWater 1 = .ok (.iconst 0, 1) := by decide +kernel
theorem dX9_setWater_2 : decode cX9_setWater 2 = .ok (.bipush 6, 2) := by decide +kernel
theorem dX9_setWater_4 : decode cX9_setWater 4 = .ok (.invokevirtual 26, 3) := by decide +kernel
theorem dX9_setWater_7 : decode cX9_setWater 7 = .ok (.aload_n 0, 1) := by decide +kernel
theorem dX9_setWater_8 : decode cX9_setWater 8 = .ok (.aload_n 0, 1) := by decide +kernel
theorem dX9_setWater_9 : decode cX9_setWater 9 = .ok (.iload_n 1, 1) := by decide +kernel
theorem dX9_setWater_10 : decode cX9_setWater 10 = .ok (.iload_n 2, 1) := by decide +kernel
theorem dX9_setWater_11 : decode cX9_setWater 11 = .ok (.iload_n 3, 1) := by decide +kernel
theorem dX9_setWater_12 : decode cX9_setWater 12 = .ok (.invokevirtual 131, 3) := by decide +kernel
theorem dX9_setWater_15 : decode cX9_setWater 15 = .ok (.invokevirtual 109, 3) := by decide +kernel
theorem dX9_setWater_18 : decode cX9_setWater 18 = .ok (.ireturn, 1) := by decide +kernel
theorem dX9_set_0 : decode cX9_set 0 = .ok (.aload_n 0, 1) := by decide +kernel
theorem dX9_set_1 : decode cX9_set 1 = .ok (.iconst 0, 1) := by decide +kernel
theorem dX9_set_2 : decode cX9_set 2 = .ok (.bipush 6, 2) := by decide +kernel
theorem dX9_set_4 : decode cX9_set 4 = .ok (.invokevirtual 26, 3) := by decide +kernel
theorem dX9_set_7 : decode cX9_set 7 = .ok (.aload_n 0, 1) := by decide +kernel
theorem dX9_set_8 : decode cX9_set 8 = .ok (.aload_n 0, 1) := by decide +kernel
theorem dX9_set_9 : decode cX9_set 9 = .ok (.iload_n 1, 1) := by decide +kernel
theorem dX9_set_10 : decode cX9_set 10 = .ok (.iload_n 2, 1) := by decide +kernel
theorem dX9_set_11 : decode cX9_set 11 = .ok (.invokevirtual 134, 3) := by decide +kernel
theorem dX9_set_14 : decode cX9_set 14 = .ok (.invokevirtual 109, 3) := by decide +kernel
theorem dX9_set_17 : decode cX9_set 17 = .ok (.ireturn, 1) := by decide +kernel
theorem dX9_type_0 : decode cX9_type 0 = .ok (.aload_n 0, 1) := by decide +kernel
theorem dX9_type_1 : decode cX9_type 1 = .ok (.getfield 137, 3) := by decide +kernel
theorem dX9_type_4 : decode cX9_type 4 = .ok (.bipush 60, 2) := by decide +kernel
theorem dX9_type_6 : decode cX9_type 6 = .ok (.if_icmp .ne 7, 3) := by decide +kernel
theorem dX9_type_9 : decode cX9_type 9 = .ok (.sipush (-1003), 3) := by decide +kernel
theorem dX9_type_12 : decode cX9_type 12 = .ok (.ireturn, 1) := by decide +kernel
theorem dX9_type_13 : decode cX9_type 13 = .ok (.aload_n 0, 1) := by decide +kernel
theorem dX9_type_14 : decode cX9_type 14 = .ok (.getfield 13, 3) := by decide +kernel
theorem dX9_type_17 : decode cX9_type 17 = .ok (.aload_n 0, 1) := by decide +kernel
theorem dX9_type_18 : decode cX9_type 18 = .ok (.getfield 137, 3) := by decide +kernel
theorem dX9_type_21 : decode cX9_type 21 = .ok (.iload_n 1, 1) := by decide +kernel
theorem dX9_type_22 : decode cX9_type 22 = .ok (.iastore, 1) := by decide +kernel
theorem dX9_type_23 : decode cX9_type 23 = .ok (.aload_n 0, 1) := by decide +kernel
theorem dX9_type_24 : decode cX9_type 24 = .ok (.dup, 1) := by decide +kernel
theorem dX9_type_25 : decode cX9_type 25 = .ok (.getfield 137, 3) := by decide +kernel
theorem dX9_type_28 : decode cX9_type 28 = .ok (.iconst 1, 1) := by decide +kernel
theorem dX9_type_29 : decode cX9_type 29 = .ok (.iadd, 1) := by decide +kernel
theorem dX9_type_30 : decode cX9_type 30 = .ok (.putfield 137, 3) := by decide +kernel
theorem dX9_type_33 : decode cX9_type 33 = .ok (.aload_n 0, 1) := by decide +kernel
theorem dX9_type_34 : decode cX9_type 34 = .ok (.getfield 137, 3) := by decide +kernel
theorem dX9_type_37 : decode cX9_type 37 = .ok (.ireturn, 1) := by decide +kernel
theorem dX9_clearText_0 : decode cX9_clearText 0 = .ok (.aload_n 0, 1) := by decide +kernel
theorem dX9_clearText_1 : decode cX9_clearText 1 = .ok (.getfield 137, 3) := by decide +kernel
theorem dX9_clearText_4 : decode cX9_clearText 4 = .ok (.istore_n 1, 1) := by decide +kernel
theorem dX9_clearText_5 : decode cX9_clearText 5 = .ok (.aload_n 0, 1) := by decide +kernel
theorem dX9_clearText_6 : decode cX9_clearText 6 = .ok (.iconst 0, 1) := by decide +kernel
theorem dX9_clearText_7 : decode cX9_clearText 7 = .ok (.putfield 137, 3) := by decide +kernel
theorem dX9_clearText_10 : decode cX9_clearText 10 = .ok (.iload_n 1, 1) := by decide +kernel
theorem dX9_clearText_11 : decode cX9_clearText 11 = .ok (.ireturn, 1) := by decide +kernel
theorem dX9_readsNumber_0 : decode cX9_readsNumber 0 = .ok (.sipush (-1005), 3) := by decide +kernel
theorem dX9_readsNumber_3 : decode cX9_readsNumber 3 = .ok (.istore_n 3, 1) := by decide +kernel
theorem dX9_readsNumber_4 : decode cX9_readsNumber 4 = .ok (.aload_n 0, 1) := by decide +kernel
theorem dX9_readsNumber_5 : decode cX9_readsNumber 5 = .ok (.getfield 140, 3) := by decide +kernel
theorem dX9_readsNumber_8 : decode cX9_readsNumber 8 = .ok (.aload_n 0, 1) := by decide +kernel
theorem dX9_readsNumber_9 : decode cX9_readsNumber 9 = .ok (.getfield 137, 3) := by decide +kernel
theorem dX9_readsNumber_12 : decode cX9_readsNumber 12 = .ok (.if_icmp .ge 51, 3) := by decide +kernel
theorem dX9_readsNumber_15 : decode cX9_readsNumber 15 = .ok (.aload_n 0, 1) := by decide +kernel
theorem dX9_readsNumber_16 : decode cX9_readsNumber 16 = .ok (.getfield 13, 3) := by decide +kernel
theorem dX9_readsNumber_19 : decode cX9_readsNumber 19 = .ok (.aload_n 0, 1) := by decide +kernel
theorem dX9_readsNumber_20 : decode cX9_readsNumber 20 = .ok (.getfield 140, 3) := by decide +kernel
theorem dX9_readsNumber_23 : decode cX9_readsNumber 23 = .ok (.iaload, 1) := by decide +kernel
theorem dX9_readsNumber_24 : decode cX9_readsNumber 24 = .ok (.iload_n 1, 1) := by decide +kernel
theorem dX9_readsNumber_25 : decode cX9_readsNumber 25 = .ok (.ifCond .ne 8, 3) := by decide +kernel
theorem dX9_readsNumber_28 : decode cX9_readsNumber 28 = .ok (.bipush 48, 2) := by decide +kernel
theorem dX9_readsNumber_30 : decode cX9_readsNumber 30 = .ok (.goto 5, 3) := by decide +kernel
theorem dX9_readsNumber_33 : decode cX9_readsNumber 33 = .ok (.bipush 49, 2) := by decide +kernel
theorem dX9_readsNumber_35 : decode cX9_readsNumber 35 = .ok (.bipush 57, 2) := by decide +kernel
theorem dX9_readsNumber_37 : decode cX9_readsNumber 37 = .ok (.invokestatic 81, 3) := by decide +kernel
theorem dX9_readsNumber_40 : decode cX9_readsNumber 40 = .ok (.ifCond .eq 23, 3) := by decide +kernel
theorem dX9_readsNumber_43 : decode cX9_readsNumber 43 = .ok (.aload_n 0, 1) := by decide +kernel
theorem dX9_readsNumber_44 : decode cX9_readsNumber 44 = .ok (.getfield 13, 3) := by decide +kernel
theorem dX9_readsNumber_47 : decode cX9_readsNumber 47 = .ok (.aload_n 0, 1) := by decide +kernel
theorem dX9_readsNumber_48 : decode cX9_readsNumber 48 = .ok (.getfield 140, 3) := by decide +kernel
theorem dX9_readsNumber_51 : decode cX9_readsNumber 51 = .ok (.iaload, 1) := by decide +kernel
theorem dX9_readsNumber_52 : decode cX9_readsNumber 52 = .ok (.bipush 48, 2) := by decide +kernel
theorem dX9_readsNumber_54 : decode cX9_readsNumber 54 = .ok (.isub, 1) := by decide +kernel
theorem dX9_readsNumber_55 : decode cX9_readsNumber 55 = .ok (.iload_n 2, 1) := by decide +kernel
theorem dX9_readsNumber_56 : decode cX9_readsNumber 56 = .ok (.if_icmp .gt 7, 3) := by decide +kernel
theorem dX9_readsNumber_59 : decode cX9_readsNumber 59 = .ok (.iconst 1, 1) := by decide +kernel
theorem dX9_readsNumber_60 : decode cX9_readsNumber 60 = .ok (.goto 4, 3) := by decide +kernel
theorem dX9_readsNumber_63 : decode cX9_readsNumber 63 = .ok (.iconst 0, 1) := by decide +kernel
theorem dX9_readsNumber_64 : decode cX9_readsNumber 64 = .ok (.istore 4, 2) := by decide +kernel
theorem dX9_readsNumber_66 : decode cX9_readsNumber 66 = .ok (.iload 4, 2) := by decide +kernel
theorem dX9_readsNumber_68 : decode cX9_readsNumber 68 = .ok (.ifCond .eq 118, 3) := by decide +kernel
theorem dX9_readsNumber_71 : decode cX9_readsNumber 71 = .ok (.iload_n 3, 1) := by decide +kernel
theorem dX9_readsNumber_72 : decode cX9_readsNumber 72 = .ok (.sipush (-1005), 3) := by decide +kernel
theorem dX9_readsNumber_75 : decode cX9_readsNumber 75 = .ok (.if_icmp .ne 18, 3) := by decide +kernel
theorem dX9_readsNumber_78 : decode cX9_readsNumber 78 = .ok (.aload_n 0, 1) := by decide +kernel
theorem dX9_readsNumber_79 : decode cX9_readsNumber 79 = .ok (.getfield 13, 3) := by decide +kernel
theorem dX9_readsNumber_82 : decode cX9_readsNumber 82 = .ok (.aload_n 0, 1) := by decide +kernel
theorem dX9_readsNumber_83 : decode cX9_readsNumber 83 = .ok (.getfield 140, 3) := by decide +kernel
theorem dX9_readsNumber_86 : decode cX9_readsNumber 86 = .ok (.iaload, 1) := by decide +kernel
theorem dX9_readsNumber_87 : decode cX9_readsNumber 87 = .ok (.bipush 48, 2) := by decide +kernel
theorem dX9_readsNumber_89 : decode cX9_readsNumber 89 = .ok (.isub, 1) := by decide +kernel
theorem dX9_readsNumber_90 : decode cX9_readsNumber 90 = .ok (.goto 20, 3) := by decide +kernel
theorem dX9_readsNumber_93 : decode cX9_readsNumber 93 = .ok (.bipush 10, 2) := by decide +kernel
theorem dX9_readsNumber_95 : decode cX9_readsNumber 95 = .ok (.iload_n 3, 1) := by decide +kernel
theorem dX9_readsNumber_96 : decode cX9_readsNumber 96 = .ok (.imul, 1) := by decide +kernel
theorem dX9_readsNumber_97 : decode cX9_readsNumber 97 = .ok (.aload_n 0, 1) := by decide +kernel
theorem dX9_readsNumber_98 : decode cX9_readsNumber 98 = .ok (.getfield 13, 3) := by decide +kernel
theorem dX9_readsNumber_101 : decode cX9_readsNumber 101 = .ok (.aload_n 0, 1) := by decide +kernel
theorem dX9_readsNumber_102 : decode cX9_readsNumber 102 = .ok (.getfield 140, 3) := by decide +kernel
theorem dX9_readsNumber_105 : decode cX9_readsNumber 105 = .ok (.iaload, 1) := by decide +kernel
theorem dX9_readsNumber_106 : decode cX9_readsNumber 106 = .ok (.iadd, 1) := by decide +kernel
theorem dX9_readsNumber_107 : decode cX9_readsNumber 107 = .ok (.bipush 48, 2) := by decide +kernel
theorem dX9_readsNumber_109 : decode cX9_readsNumber 109 = .ok (.isub, 1) := by decide +kernel
theorem dX9_readsNumber_110 : decode cX9_readsNumber 110 = .ok (.istore_n 3, 1) := by decide +kernel
theorem dX9_readsNumber_111 : decode cX9_readsNumber 111 = .ok (.aload_n 0, 1) := by decide +kernel
theorem dX9_readsNumber_112 : decode cX9_readsNumber 112 = .ok (.dup, 1) := by decide +kernel
theorem dX9_readsNumber_113 : decode cX9_readsNumber 113 = .ok (.getfield 140, 3) := by decide +kernel
theorem dX9_readsNumber_116 : decode cX9_readsNumber 116 = .ok (.iconst 1, 1) := by decide +kernel
theorem dX9_readsNumber_117 : decode cX9_readsNumber 117 = .ok (.iadd, 1) := by decide +kernel
theorem dX9_readsNumber_118 : decode cX9_readsNumber 118 = .ok (.putfield 140, 3) := by decide +kernel
theorem dX9_readsNumber_121 : decode cX9_readsNumber 121 = .ok (.iload_n 3, 1) := by decide +kernel
theorem dX9_readsNumber_122 : decode cX9_readsNumber 122 = .ok (.ifCond .le 58, 3) := by decide +kernel
theorem dX9_readsNumber_125 : decode cX9_readsNumber 125 = .ok (.aload_n 0, 1) := by decide +kernel
theorem dX9_readsNumber_126 : decode cX9_readsNumber 126 = .ok (.getfield 140, 3) := by decide +kernel
theorem dX9_readsNumber_129 : decode cX9_readsNumber 129 = .ok (.aload_n 0, 1) := by decide +kernel
theorem dX9_readsNumber_130 : decode cX9_readsNumber 130 = .ok (.getfield 137, 3) := by decide +kernel
theorem dX9_readsNumber_133 : decode cX9_readsNumber 133 = .ok (.if_icmp .ge 47, 3) := by decide +kernel
theorem dX9_readsNumber_136 : decode cX9_readsNumber 136 = .ok (.aload_n 0, 1) := by decide +kernel
theorem dX9_readsNumber_137 : decode cX9_readsNumber 137 = .ok (.getfield 13, 3) := by decide +kernel
theorem dX9_readsNumber_140 : decode cX9_readsNumber 140 = .ok (.aload_n 0, 1) := by decide +kernel
theorem dX9_readsNumber_141 : decode cX9_readsNumber 141 = .ok (.getfield 140, 3) := by decide +kernel
theorem dX9_readsNumber_144 : decode cX9_readsNumber 144 = .ok (.iaload, 1) := by decide +kernel
theorem dX9_readsNumber_145 : decode cX9_readsNumber 145 = .ok (.bipush 48, 2) := by decide +kernel
theorem dX9_readsNumber_147 : decode cX9_readsNumber 147 = .ok (.bipush 57, 2) := by decide +kernel
theorem dX9_readsNumber_149 : decode cX9_readsNumber 149 = .ok (.invokestatic 81, 3) := by decide +kernel
theorem dX9_readsNumber_152 : decode cX9_readsNumber 152 = .ok (.ifCond .eq 28, 3) := by decide +kernel
theorem dX9_readsNumber_155 : decode cX9_readsNumber 155 = .ok (.bipush 10, 2) := by decide +kernel
theorem dX9_readsNumber_157 : decode cX9_readsNumber 157 = .ok (.iload_n 3, 1) := by decide +kernel
theorem dX9_readsNumber_158 : decode cX9_readsNumber 158 = .ok (.imul, 1) := by decide +kernel
theorem dX9_readsNumber_159 : decode cX9_readsNumber 159 = .ok (.aload_n 0, 1) := by decide +kernel
theorem dX9_readsNumber_160 : decode cX9_readsNumber 160 = .ok (.getfield 13, 3) := by decide +kernel
theorem dX9_readsNumber_163 : decode cX9_readsNumber 163 = .ok (.aload_n 0, 1) := by decide +kernel
theorem dX9_readsNumber_164 : decode cX9_readsNumber 164 = .ok (.getfield 140, 3) := by decide +kernel
theorem dX9_readsNumber_167 : decode cX9_readsNumber 167 = .ok (.iaload, 1) := by decide +kernel
theorem dX9_readsNumber_168 : decode cX9_readsNumber 168 = .ok (.iadd, 1) := by decide +kernel
theorem dX9_readsNumber_169 : decode cX9_readsNumber 169 = .ok (.bipush 48, 2) := by decide +kernel
theorem dX9_readsNumber_171 : decode cX9_readsNumber 171 = .ok (.isub, 1) := by decide +kernel
theorem dX9_readsNumber_172 : decode cX9_readsNumber 172 = .ok (.iload_n 2, 1) := by decide +kernel
theorem dX9_readsNumber_173 : decode cX9_readsNumber 173 = .ok (.if_icmp .gt 7, 3) := by decide +kernel
theorem dX9_readsNumber_176 : decode cX9_readsNumber 176 = .ok (.iconst 1, 1) := by decide +kernel
theorem dX9_readsNumber_177 : decode cX9_readsNumber 177 = .ok (.goto 4, 3) := by decide +kernel
theorem dX9_readsNumber_180 : decode cX9_readsNumber 180 = .ok (.iconst 0, 1) := by decide +kernel
theorem dX9_readsNumber_181 : decode cX9_readsNumber 181 = .ok (.istore 4, 2) := by decide +kernel
theorem dX9_readsNumber_183 : decode cX9_readsNumber 183 = .ok (.goto (-117), 3) := by decide +kernel
theorem dX9_readsNumber_186 : decode cX9_readsNumber 186 = .ok (.iload_n 3, 1) := by decide +kernel
theorem dX9_readsNumber_187 : decode cX9_readsNumber 187 = .ok (.ireturn, 1) := by decide +kernel
theorem dX9_part_0 : decode cX9_part 0 = .ok (.aload_n 0, 1) := by decide +kernel
theorem dX9_part_1 : decode cX9_part 1 = .ok (.getfield 140, 3) := by decide +kernel
theorem dX9_part_4 : decode cX9_part 4 = .ok (.aload_n 0, 1) := by decide +kernel
theorem dX9_part_5 : decode cX9_part 5 = .ok (.getfield 137, 3) := by decide +kernel
theorem dX9_part_8 : decode cX9_part 8 = .ok (.if_icmp .ge 15, 3) := by decide +kernel
theorem dX9_part_11 : decode cX9_part 11 = .ok (.aload_n 0, 1) := by decide +kernel
theorem dX9_part_12 : decode cX9_part 12 = .ok (.getfield 13, 3) := by decide +kernel
theorem dX9_part_15 : decode cX9_part 15 = .ok (.aload_n 0, 1) := by decide +kernel
theorem dX9_part_16 : decode cX9_part 16 = .ok (.getfield 140, 3) := by decide +kernel
theorem dX9_part_19 : decode cX9_part 19 = .ok (.iaload, 1) := by decide +kernel
theorem dX9_part_20 : decode cX9_part 20 = .ok (.goto 4, 3) := by decide +kernel
theorem dX9_part_23 : decode cX9_part 23 = .ok (.iconst 0, 1) := by decide +kernel
theorem dX9_part_24 : decode cX9_part 24 = .ok (.istore_n 1, 1) := by decide +kernel
theorem dX9_part_25 : decode cX9_part 25 = .ok (.aload_n 0, 1) := by decide +kernel
theorem dX9_part_26 : decode cX9_part 26 = .ok (.iconst 0, 1) := by decide +kernel
theorem dX9_part_27 : decode cX9_part 27 = .ok (.putfield 143, 3) := by decide +kernel
theorem dX9_part_30 : decode cX9_part 30 = .ok (.iload_n 1, 1) := by decide +kernel
theorem dX9_part_31 : decode cX9_part 31 = .ok (.lookupswitch 127 #[(33, 114), (43, 65), (45, 65), (46, 65), (47, 90), (98, 114), (109, 114)], 65) := by decide +kernel
theorem dX9_part_96 : decode cX9_part 96 = .ok (.aload_n 0, 1) := by decide +kernel
theorem dX9_part_97 : decode cX9_part 97 = .ok (.dup, 1) := by decide +kernel
theorem dX9_part_98 : decode cX9_part 98 = .ok (.getfield 140, 3) := by decide +kernel
theorem dX9_part_101 : decode cX9_part 101 = .ok (.iconst 1, 1) := by decide +kernel
theorem dX9_part_102 : decode cX9_part 102 = .ok (.iadd, 1) := by decide +kernel
theorem dX9_part_103 : decode cX9_part 103 = .ok (.putfield 140, 3) := by decide +kernel
theorem dX9_part_106 : decode cX9_part 106 = .ok (.aload_n 0, 1) := by decide +kernel
theorem dX9_part_107 : decode cX9_part 107 = .ok (.aload_n 0, 1) := by decide +kernel
theorem dX9_part_108 : decode cX9_part 108 = .ok (.iconst 1, 1) := by decide +kernel
theorem dX9_part_109 : decode cX9_part 109 = .ok (.sipush 999, 3) := by decide +kernel
theorem dX9_part_112 : decode cX9_part 112 = .ok (.invokevirtual 146, 3) := by decide +kernel
theorem dX9_part_115 : decode cX9_part 115 = .ok (.putfield 143, 3) := by decide +kernel
theorem dX9_part_118 : decode cX9_part 118 = .ok (.goto 42, 3) := by decide +kernel
theorem dX9_part_121 : decode cX9_part 121 = .ok (.aload_n 0, 1) := by decide +kernel
theorem dX9_part_122 : decode cX9_part 122 = .ok (.dup, 1) := by decide +kernel
theorem dX9_part_123 : decode cX9_part 123 = .ok (.getfield 140, 3) := by decide +kernel
theorem dX9_part_126 : decode cX9_part 126 = .ok (.iconst 1, 1) := by decide +kernel
theorem dX9_part_127 : decode cX9_part 127 = .ok (.iadd, 1) := by decide +kernel
theorem dX9_part_128 : decode cX9_part 128 = .ok (.putfield 140, 3) := by decide +kernel
theorem dX9_part_131 : decode cX9_part 131 = .ok (.aload_n 0, 1) := by decide +kernel
theorem dX9_part_132 : decode cX9_part 132 = .ok (.aload_n 0, 1) := by decide +kernel
theorem dX9_part_133 : decode cX9_part 133 = .ok (.iconst 0, 1) := by decide +kernel
theorem dX9_part_134 : decode cX9_part 134 = .ok (.bipush 6, 2) := by decide +kernel
theorem dX9_part_136 : decode cX9_part 136 = .ok (.invokevirtual 146, 3) := by decide +kernel
theorem dX9_part_139 : decode cX9_part 139 = .ok (.putfield 143, 3) := by decide +kernel
theorem dX9_part_142 : decode cX9_part 142 = .ok (.goto 18, 3) := by decide +kernel
theorem dX9_part_145 : decode cX9_part 145 = .ok (.aload_n 0, 1) := by decide +kernel
theorem dX9_part_146 : decode cX9_part 146 = .ok (.dup, 1) := by decide +kernel
theorem dX9_part_147 : decode cX9_part 147 = .ok (.getfield 140, 3) := by decide +kernel
theorem dX9_part_150 : decode cX9_part 150 = .ok (.iconst 1, 1) := by decide +kernel
theorem dX9_part_151 : decode cX9_part 151 = .ok (.iadd, 1) := by decide +kernel
theorem dX9_part_152 : decode cX9_part 152 = .ok (.putfield 140, 3) := by decide +kernel
theorem dX9_part_155 : decode cX9_part 155 = .ok (.goto 5, 3) := by decide +kernel
theorem dX9_part_158 : decode cX9_part 158 = .ok (.iconst 0, 1) := by decide +kernel
theorem dX9_part_159 : decode cX9_part 159 = .ok (.ireturn, 1) := by decide +kernel
theorem dX9_part_160 : decode cX9_part 160 = .ok (.aload_n 0, 1) := by decide +kernel
theorem dX9_part_161 : decode cX9_part 161 = .ok (.getfield 143, 3) := by decide +kernel
theorem dX9_part_164 : decode cX9_part 164 = .ok (.sipush (-1005), 3) := by decide +kernel
theorem dX9_part_167 : decode cX9_part 167 = .ok (.if_icmp .ne 7, 3) := by decide +kernel
theorem dX9_part_170 : decode cX9_part 170 = .ok (.iconst 0, 1) := by decide +kernel
theorem dX9_part_171 : decode cX9_part 171 = .ok (.goto 4, 3) := by decide +kernel
theorem dX9_part_174 : decode cX9_part 174 = .ok (.iload_n 1, 1) := by decide +kernel
theorem dX9_part_175 : decode cX9_part 175 = .ok (.ireturn, 1) := by decide +kernel
theorem dX9_fault_0 : decode cX9_fault 0 = .ok (.aload_n 0, 1) := by decide +kernel
theorem dX9_fault_1 : decode cX9_fault 1 = .ok (.iconst 0, 1) := by decide +kernel
theorem dX9_fault_2 : decode cX9_fault 2 = .ok (.putfield 140, 3) := by decide +kernel
theorem dX9_fault_5 : decode cX9_fault 5 = .ok (.aload_n 0, 1) := by decide +kernel
theorem dX9_fault_6 : decode cX9_fault 6 = .ok (.invokevirtual 149, 3) := by decide +kernel
theorem dX9_fault_9 : decode cX9_fault 9 = .ok (.ifCond .eq 50, 3) := by decide +kernel
theorem dX9_fault_12 : decode cX9_fault 12 = .ok (.aload_n 0, 1) := by decide +kernel
theorem dX9_fault_13 : decode cX9_fault 13 = .ok (.getfield 140, 3) := by decide +kernel
theorem dX9_fault_16 : decode cX9_fault 16 = .ok (.aload_n 0, 1) := by decide +kernel
theorem dX9_fault_17 : decode cX9_fault 17 = .ok (.getfield 137, 3) := by decide +kernel
theorem dX9_fault_20 : decode cX9_fault 20 = .ok (.if_icmp .ne 7, 3) := by decide +kernel
theorem dX9_fault_23 : decode cX9_fault 23 = .ok (.sipush (-1005), 3) := by decide +kernel
theorem dX9_fault_26 : decode cX9_fault 26 = .ok (.ireturn, 1) := by decide +kernel
theorem dX9_fault_27 : decode cX9_fault 27 = .ok (.aload_n 0, 1) := by decide +kernel
theorem dX9_fault_28 : decode cX9_fault 28 = .ok (.getfield 13, 3) := by decide +kernel
theorem dX9_fault_31 : decode cX9_fault 31 = .ok (.aload_n 0, 1) := by decide +kernel
theorem dX9_fault_32 : decode cX9_fault 32 = .ok (.getfield 140, 3) := by decide +kernel
theorem dX9_fault_35 : decode cX9_fault 35 = .ok (.iaload, 1) := by decide +kernel
theorem dX9_fault_36 : decode cX9_fault 36 = .ok (.bipush 59, 2) := by decide +kernel
theorem dX9_fault_38 : decode cX9_fault 38 = .ok (.if_icmp .eq 8, 3) := by decide +kernel
theorem dX9_fault_41 : decode cX9_fault 41 = .ok (.aload_n 0, 1) := by decide +kernel
theorem dX9_fault_42 : decode cX9_fault 42 = .ok (.getfield 140, 3) := by decide +kernel
theorem dX9_fault_45 : decode cX9_fault 45 = .ok (.ireturn, 1) := by decide +kernel
theorem dX9_fault_46 : decode cX9_fault 46 = .ok (.aload_n 0, 1) := by decide +kernel
theorem dX9_fault_47 : decode cX9_fault 47 = .ok (.dup, 1) := by decide +kernel
theorem dX9_fault_48 : decode cX9_fault 48 = .ok (.getfield 140, 3) := by decide +kernel
theorem dX9_fault_51 : decode cX9_fault 51 = .ok (.iconst 1, 1) := by decide +kernel
theorem dX9_fault_52 : decode cX9_fault 52 = .ok (.iadd, 1) := by decide +kernel
theorem dX9_fault_53 : decode cX9_fault 53 = .ok (.putfield 140, 3) := by decide +kernel
theorem dX9_fault_56 : decode cX9_fault 56 = .ok (.goto (-51), 3) := by decide +kernel
theorem dX9_fault_59 : decode cX9_fault 59 = .ok (.aload_n 0, 1) := by decide +kernel
theorem dX9_fault_60 : decode cX9_fault 60 = .ok (.getfield 140, 3) := by decide +kernel
theorem dX9_fault_63 : decode cX9_fault 63 = .ok (.ireturn, 1) := by decide +kernel
theorem dX9_does_0 : decode cX9_does 0 = .ok (.iload_n 1, 1) := by decide +kernel
theorem dX9_does_1 : decode cX9_does 1 = .ok (.lookupswitch 104 #[(33, 90), (43, 59), (45, 68), (47, 95), (98, 78), (109, 84)], 59) := by decide +kernel
theorem dX9_does_60 : decode cX9_does 60 = .ok (.aload_n 0, 1) := by decide +kernel
theorem dX9_does_61 : decode cX9_does 61 = .ok (.aload_n 0, 1) := by decide +kernel
theorem dX9_does_62 : decode cX9_does 62 = .ok (.getfield 143, 3) := by decide +kernel
theorem dX9_does_65 : decode cX9_does 65 = .ok (.invokevirtual 106, 3) := by decide +kernel
theorem dX9_does_68 : decode cX9_does 68 = .ok (.ireturn, 1) := by decide +kernel
theorem dX9_does_69 : decode cX9_does 69 = .ok (.aload_n 0, 1) := by decide +kernel
theorem dX9_does_70 : decode cX9_does 70 = .ok (.aload_n 0, 1) := by decide +kernel
theorem dX9_does_71 : decode cX9_does 71 = .ok (.getfield 143, 3) := by decide +kernel
theorem dX9_does_74 : decode cX9_does 74 = .ok (.ineg, 1) := by decide +kernel
theorem dX9_does_75 : decode cX9_does 75 = .ok (.invokevirtual 106, 3) := by decide +kernel
theorem dX9_does_78 : decode cX9_does 78 = .ok (.ireturn, 1) := by decide +kernel
theorem dX9_does_79 : decode cX9_does 79 = .ok (.aload_n 0, 1) := by decide +kernel
theorem dX9_does_80 : decode cX9_does 80 = .ok (.iconst 0, 1) := by decide +kernel
theorem dX9_does_81 : decode cX9_does 81 = .ok (.invokevirtual 118, 3) := by decide +kernel
theorem dX9_does_84 : decode cX9_does 84 = .ok (.ireturn, 1) := by decide +kernel
theorem dX9_does_85 : decode cX9_does 85 = .ok (.aload_n 0, 1) := by decide +kernel
theorem dX9_does_86 : decode cX9_does 86 = .ok (.iconst 1, 1) := by decide +kernel
theorem dX9_does_87 : decode cX9_does 87 = .ok (.invokevirtual 118, 3) := by decide +kernel
theorem dX9_does_90 : decode cX9_does 90 = .ok (.ireturn, 1) := by decide +kernel
theorem dX9_does_91 : decode cX9_does 91 = .ok (.aload_n 0, 1) := by decide +kernel
theorem dX9_does_92 : decode cX9_does 92 = .ok (.invokevirtual 124, 3) := by decide +kernel
theorem dX9_does_95 : decode cX9_does 95 = .ok (.ireturn, 1) := by decide +kernel
theorem dX9_does_96 : decode cX9_does 96 = .ok (.aload_n 0, 1) := by decide +kernel
theorem dX9_does_97 : decode cX9_does 97 = .ok (.aload_n 0, 1) := by decide +kernel
theorem dX9_does_98 : decode cX9_does 98 = .ok (.getfield 143, 3) := by decide +kernel
theorem dX9_does_101 : decode cX9_does 101 = .ok (.invokevirtual 112, 3) := by decide +kernel
theorem dX9_does_104 : decode cX9_does 104 = .ok (.ireturn, 1) := by decide +kernel
theorem dX9_does_105 : decode cX9_does 105 = .ok (.aload_n 0, 1) := by decide +kernel
theorem dX9_does_106 : decode cX9_does 106 = .ok (.aload_n 0, 1) := by decide +kernel
theorem dX9_does_107 : decode cX9_does 107 = .ok (.getfield 143, 3) := by decide +kernel
theorem dX9_does_110 : decode cX9_does 110 = .ok (.invokevirtual 128, 3) := by decide +kernel
theorem dX9_does_113 : decode cX9_does 113 = .ok (.ireturn, 1) := by decide +kernel
theorem dX9_perform_0 : decode cX9_perform 0 = .ok (.aload_n 0, 1) := by decide +kernel
theorem dX9_perform_1 : decode cX9_perform 1 = .ok (.invokevirtual 152, 3) := by decide +kernel
theorem dX9_perform_4 : decode cX9_perform 4 = .ok (.istore_n 1, 1) := by decide +kernel
theorem dX9_perform_5 : decode cX9_perform 5 = .ok (.iload_n 1, 1) := by decide +kernel
theorem dX9_perform_6 : decode cX9_perform 6 = .ok (.sipush (-1005), 3) := by decide +kernel
theorem dX9_perform_9 : decode cX9_perform 9 = .ok (.if_icmp .eq 9, 3) := by decide +kernel
theorem dX9_perform_12 : decode cX9_perform 12 = .ok (.sipush (-1100), 3) := by decide +kernel
theorem dX9_perform_15 : decode cX9_perform 15 = .ok (.iload_n 1, 1) := by decide +kernel
theorem dX9_perform_16 : decode cX9_perform 16 = .ok (.isub, 1) := by decide +kernel
theorem dX9_perform_17 : decode cX9_perform 17 = .ok (.ireturn, 1) := by decide +kernel
theorem dX9_perform_18 : decode cX9_perform 18 = .ok (.aload_n 0, 1) := by decide +kernel
theorem dX9_perform_19 : decode cX9_perform 19 = .ok (.iconst 0, 1) := by decide +kernel
theorem dX9_perform_20 : decode cX9_perform 20 = .ok (.bipush 6, 2) := by decide +kernel
theorem dX9_perform_22 : decode cX9_perform 22 = .ok (.invokevirtual 26, 3) := by decide +kernel
theorem dX9_perform_25 : decode cX9_perform 25 = .ok (.aload_n 0, 1) := by decide +kernel
theorem dX9_perform_26 : decode cX9_perform 26 = .ok (.iconst 0, 1) := by decide +kernel
theorem dX9_perform_27 : decode cX9_perform 27 = .ok (.putfield 140, 3) := by decide +kernel
theorem dX9_perform_30 : decode cX9_perform 30 = .ok (.iconst 0, 1) := by decide +kernel
theorem dX9_perform_31 : decode cX9_perform 31 = .ok (.istore_n 2, 1) := by decide +kernel
theorem dX9_perform_32 : decode cX9_perform 32 = .ok (.aload_n 0, 1) := by decide +kernel
theorem dX9_perform_33 : decode cX9_perform 33 = .ok (.getfield 140, 3) := by decide +kernel
theorem dX9_perform_36 : decode cX9_perform 36 = .ok (.aload_n 0, 1) := by decide +kernel
theorem dX9_perform_37 : decode cX9_perform 37 = .ok (.getfield 137, 3) := by decide +kernel
theorem dX9_perform_40 : decode cX9_perform 40 = .ok (.if_icmp .ge 63, 3) := by decide +kernel
theorem dX9_perform_43 : decode cX9_perform 43 = .ok (.aload_n 0, 1) := by decide +kernel
theorem dX9_perform_44 : decode cX9_perform 44 = .ok (.aload_n 0, 1) := by decide +kernel
theorem dX9_perform_45 : decode cX9_perform 45 = .ok (.invokevirtual 149, 3) := by decide +kernel
theorem dX9_perform_48 : decode cX9_perform 48 = .ok (.invokevirtual 155, 3) := by decide +kernel
theorem dX9_perform_51 : decode cX9_perform 51 = .ok (.istore_n 3, 1) := by decide +kernel
theorem dX9_perform_52 : decode cX9_perform 52 = .ok (.iload_n 3, 1) := by decide +kernel
theorem dX9_perform_53 : decode cX9_perform 53 = .ok (.invokestatic 99, 3) := by decide +kernel
theorem dX9_perform_56 : decode cX9_perform 56 = .ok (.ifCond .ne 31, 3) := by decide +kernel
theorem dX9_perform_59 : decode cX9_perform 59 = .ok (.iload_n 3, 1) := by decide +kernel
theorem dX9_perform_60 : decode cX9_perform 60 = .ok (.sipush (-1005), 3) := by decide +kernel
theorem dX9_perform_63 : decode cX9_perform 63 = .ok (.if_icmp .eq 24, 3) := by decide +kernel
theorem dX9_perform_66 : decode cX9_perform 66 = .ok (.aload_n 0, 1) := by decide +kernel
theorem dX9_perform_67 : decode cX9_perform 67 = .ok (.bipush 6, 2) := by decide +kernel
theorem dX9_perform_69 : decode cX9_perform 69 = .ok (.iconst 0, 1) := by decide +kernel
theorem dX9_perform_70 : decode cX9_perform 70 = .ok (.invokevirtual 26, 3) := by decide +kernel
theorem dX9_perform_73 : decode cX9_perform 73 = .ok (.aload_n 0, 1) := by decide +kernel
theorem dX9_perform_74 : decode cX9_perform 74 = .ok (.iload_n 2, 1) := by decide +kernel
theorem dX9_perform_75 : decode cX9_perform 75 = .ok (.putfield 16, 3) := by decide +kernel
theorem dX9_perform_78 : decode cX9_perform 78 = .ok (.aload_n 0, 1) := by decide +kernel
theorem dX9_perform_79 : decode cX9_perform 79 = .ok (.iload_n 3, 1) := by decide +kernel
theorem dX9_perform_80 : decode cX9_perform 80 = .ok (.putfield 20, 3) := by decide +kernel
theorem dX9_perform_83 : decode cX9_perform 83 = .ok (.sipush (-1004), 3) := by decide +kernel
theorem dX9_perform_86 : decode cX9_perform 86 = .ok (.ireturn, 1) := by decide +kernel
theorem dX9_perform_87 : decode cX9_perform 87 = .ok (.iinc 2 1, 3) := by decide +kernel
theorem dX9_perform_90 : decode cX9_perform 90 = .ok (.aload_n 0, 1) := by decide +kernel
theorem dX9_perform_91 : decode cX9_perform 91 = .ok (.dup, 1) := by decide +kernel
theorem dX9_perform_92 : decode cX9_perform 92 = .ok (.getfield 140, 3) := by decide +kernel
theorem dX9_perform_95 : decode cX9_perform 95 = .ok (.iconst 1, 1) := by decide +kernel
theorem dX9_perform_96 : decode cX9_perform 96 = .ok (.iadd, 1) := by decide +kernel
theorem dX9_perform_97 : decode cX9_perform 97 = .ok (.putfield 140, 3) := by decide +kernel
theorem dX9_perform_100 : decode cX9_perform 100 = .ok (.goto (-68), 3) := by decide +kernel
theorem dX9_perform_103 : decode cX9_perform 103 = .ok (.aload_n 0, 1) := by decide +kernel
theorem dX9_perform_104 : decode cX9_perform 104 = .ok (.bipush 6, 2) := by decide +kernel
theorem dX9_perform_106 : decode cX9_perform 106 = .ok (.invokevirtual 102, 3) := by decide +kernel
theorem dX9_perform_109 : decode cX9_perform 109 = .ok (.iload_n 2, 1) := by decide +kernel
theorem dX9_perform_110 : decode cX9_perform 110 = .ok (.ireturn, 1) := by decide +kernel
theorem dX9_stopped_0 : decode cX9_stopped 0 = .ok (.iload_n 1, 1) := by decide +kernel
theorem dX9_stopped_1 : decode cX9_stopped 1 = .ok (.iconst 0, 1) := by decide +kernel
theorem dX9_stopped_2 : decode cX9_stopped 2 = .ok (.iconst 1, 1) := by decide +kernel
theorem dX9_stopped_3 : decode cX9_stopped 3 = .ok (.invokestatic 81, 3) := by decide +kernel
theorem dX9_stopped_6 : decode cX9_stopped 6 = .ok (.ifCond .ne 9, 3) := by decide +kernel
theorem dX9_stopped_9 : decode cX9_stopped 9 = .ok (.sipush (-1002), 3) := by decide +kernel
theorem dX9_stopped_12 : decode cX9_stopped 12 = .ok (.goto 18, 3) := by decide +kernel
theorem dX9_stopped_15 : decode cX9_stopped 15 = .ok (.iload_n 1, 1) := by decide +kernel
theorem dX9_stopped_16 : decode cX9_stopped 16 = .ok (.ifCond .ne 10, 3) := by decide +kernel
theorem dX9_stopped_19 : decode cX9_stopped 19 = .ok (.aload_n 0, 1) := by decide +kernel
theorem dX9_stopped_20 : decode cX9_stopped 20 = .ok (.getfield 16, 3) := by decide +kernel
theorem dX9_stopped_23 : decode cX9_stopped 23 = .ok (.goto 7, 3) := by decide +kernel
theorem dX9_stopped_26 : decode cX9_stopped 26 = .ok (.aload_n 0, 1) := by decide +kernel
theorem dX9_stopped_27 : decode cX9_stopped 27 = .ok (.getfield 20, 3) := by decide +kernel
theorem dX9_stopped_30 : decode cX9_stopped 30 = .ok (.ireturn, 1) := by decide +kernel
theorem dX9_undo_0 : decode cX9_undo 0 = .ok (.aload_n 0, 1) := by decide +kernel
theorem dX9_undo_1 : decode cX9_undo 1 = .ok (.getfield 23, 3) := by decide +kernel
theorem dX9_undo_4 : decode cX9_undo 4 = .ok (.ifCond .ne 7, 3) := by decide +kernel
theorem dX9_undo_7 : decode cX9_undo 7 = .ok (.sipush (-1005), 3) := by decide +kernel
theorem dX9_undo_10 : decode cX9_undo 10 = .ok (.ireturn, 1) := by decide +kernel
theorem dX9_undo_11 : decode cX9_undo 11 = .ok (.aload_n 0, 1) := by decide +kernel
theorem dX9_undo_12 : decode cX9_undo 12 = .ok (.aload_n 0, 1) := by decide +kernel
theorem dX9_undo_13 : decode cX9_undo 13 = .ok (.getfield 23, 3) := by decide +kernel
theorem dX9_undo_16 : decode cX9_undo 16 = .ok (.iconst 0, 1) := by decide +kernel
theorem dX9_undo_17 : decode cX9_undo 17 = .ok (.invokevirtual 26, 3) := by decide +kernel
theorem dX9_undo_20 : decode cX9_undo 20 = .ok (.aload_n 0, 1) := by decide +kernel
theorem dX9_undo_21 : decode cX9_undo 21 = .ok (.dup, 1) := by decide +kernel
theorem dX9_undo_22 : decode cX9_undo 22 = .ok (.getfield 23, 3) := by decide +kernel
theorem dX9_undo_25 : decode cX9_undo 25 = .ok (.iconst 1, 1) := by decide +kernel
theorem dX9_undo_26 : decode cX9_undo 26 = .ok (.isub, 1) := by decide +kernel
theorem dX9_undo_27 : decode cX9_undo 27 = .ok (.putfield 23, 3) := by decide +kernel
theorem dX9_undo_30 : decode cX9_undo 30 = .ok (.aload_n 0, 1) := by decide +kernel
theorem dX9_undo_31 : decode cX9_undo 31 = .ok (.getfield 23, 3) := by decide +kernel
theorem dX9_undo_34 : decode cX9_undo 34 = .ok (.ireturn, 1) := by decide +kernel
theorem dX9_keep_0 : decode cX9_keep 0 = .ok (.aload_n 0, 1) := by decide +kernel
theorem dX9_keep_1 : decode cX9_keep 1 = .ok (.iconst 0, 1) := by decide +kernel
theorem dX9_keep_2 : decode cX9_keep 2 = .ok (.iconst 5, 1) := by decide +kernel
theorem dX9_keep_3 : decode cX9_keep 3 = .ok (.invokevirtual 26, 3) := by decide +kernel
theorem dX9_keep_6 : decode cX9_keep 6 = .ok (.aload_n 0, 1) := by decide +kernel
theorem dX9_keep_7 : decode cX9_keep 7 = .ok (.iconst 1, 1) := by decide +kernel
theorem dX9_keep_8 : decode cX9_keep 8 = .ok (.putfield 158, 3) := by decide +kernel
theorem dX9_keep_11 : decode cX9_keep 11 = .ok (.aload_n 0, 1) := by decide +kernel
theorem dX9_keep_12 : decode cX9_keep 12 = .ok (.getfield 7, 3) := by decide +kernel
theorem dX9_keep_15 : decode cX9_keep 15 = .ok (.iconst 4, 1) := by decide +kernel
theorem dX9_keep_16 : decode cX9_keep 16 = .ok (.iaload, 1) := by decide +kernel
theorem dX9_keep_17 : decode cX9_keep 17 = .ok (.ireturn, 1) := by decide +kernel
theorem dX9_restore_0 : decode cX9_restore 0 = .ok (.aload_n 0, 1) := by decide +kernel
theorem dX9_restore_1 : decode cX9_restore 1 = .ok (.getfield 158, 3) := by decide +kernel
theorem dX9_restore_4 : decode cX9_restore 4 = .ok (.ifCond .ne 7, 3) := by decide +kernel
theorem dX9_restore_7 : decode cX9_restore 7 = .ok (.sipush (-1005), 3) := by decide +kernel
theorem dX9_restore_10 : decode cX9_restore 10 = .ok (.ireturn, 1) := by decide +kernel
theorem dX9_restore_11 : decode cX9_restore 11 = .ok (.aload_n 0, 1) := by decide +kernel
theorem dX9_restore_12 : decode cX9_restore 12 = .ok (.iconst 0, 1) := by decide +kernel
theorem dX9_restore_13 : decode cX9_restore 13 = .ok (.invokevirtual 102, 3) := by decide +kernel
theorem dX9_restore_16 : decode cX9_restore 16 = .ok (.aload_n 0, 1) := by decide +kernel
theorem dX9_restore_17 : decode cX9_restore 17 = .ok (.iconst 5, 1) := by decide +kernel
theorem dX9_restore_18 : decode cX9_restore 18 = .ok (.iconst 0, 1) := by decide +kernel
theorem dX9_restore_19 : decode cX9_restore 19 = .ok (.invokevirtual 26, 3) := by decide +kernel
theorem dX9_restore_22 : decode cX9_restore 22 = .ok (.aload_n 0, 1) := by decide +kernel
theorem dX9_restore_23 : decode cX9_restore 23 = .ok (.getfield 7, 3) := by decide +kernel
theorem dX9_restore_26 : decode cX9_restore 26 = .ok (.iconst 4, 1) := by decide +kernel
theorem dX9_restore_27 : decode cX9_restore 27 = .ok (.iaload, 1) := by decide +kernel
theorem dX9_restore_28 : decode cX9_restore 28 = .ok (.ireturn, 1) := by decide +kernel
theorem dX9_pairDepth_0 : decode cX9_pairDepth 0 = .ok (.iconst 0, 1) := by decide +kernel
theorem dX9_pairDepth_1 : decode cX9_pairDepth 1 = .ok (.iload_n 1, 1) := by decide +kernel
theorem dX9_pairDepth_2 : decode cX9_pairDepth 2 = .ok (.invokestatic 34, 3) := by decide +kernel
theorem dX9_pairDepth_5 : decode cX9_pairDepth 5 = .ok (.istore_n 2, 1) := by decide +kernel
theorem dX9_pairDepth_6 : decode cX9_pairDepth 6 = .ok (.bipush 10, 2) := by decide +kernel
theorem dX9_pairDepth_8 : decode cX9_pairDepth 8 = .ok (.aload_n 0, 1) := by decide +kernel
theorem dX9_pairDepth_9 : decode cX9_pairDepth 9 = .ok (.getfield 7, 3) := by decide +kernel
theorem dX9_pairDepth_12 : decode cX9_pairDepth 12 = .ok (.iload_n 2, 1) := by decide +kernel
theorem dX9_pairDepth_13 : decode cX9_pairDepth 13 = .ok (.bipush 7, 2) := by decide +kernel
theorem dX9_pairDepth_15 : decode cX9_pairDepth 15 = .ok (.iadd, 1) := by decide +kernel
theorem dX9_pairDepth_16 : decode cX9_pairDepth 16 = .ok (.iaload, 1) := by decide +kernel
theorem dX9_pairDepth_17 : decode cX9_pairDepth 17 = .ok (.aload_n 0, 1) := by decide +kernel
theorem dX9_pairDepth_18 : decode cX9_pairDepth 18 = .ok (.getfield 7, 3) := by decide +kernel
theorem dX9_pairDepth_21 : decode cX9_pairDepth 21 = .ok (.iload_n 2, 1) := by decide +kernel
theorem dX9_pairDepth_22 : decode cX9_pairDepth 22 = .ok (.bipush 6, 2) := by decide +kernel
theorem dX9_pairDepth_24 : decode cX9_pairDepth 24 = .ok (.iadd, 1) := by decide +kernel
theorem dX9_pairDepth_25 : decode cX9_pairDepth 25 = .ok (.iaload, 1) := by decide +kernel
theorem dX9_pairDepth_26 : decode cX9_pairDepth 26 = .ok (.isub, 1) := by decide +kernel
theorem dX9_pairDepth_27 : decode cX9_pairDepth 27 = .ok (.imul, 1) := by decide +kernel
theorem dX9_pairDepth_28 : decode cX9_pairDepth 28 = .ok (.ireturn, 1) := by decide +kernel
theorem dX9_difference_0 : decode cX9_difference 0 = .ok (.aload_n 0, 1) := by decide +kernel
theorem dX9_difference_1 : decode cX9_difference 1 = .ok (.iload_n 1, 1) := by decide +kernel
theorem dX9_difference_2 : decode cX9_difference 2 = .ok (.invokevirtual 162, 3) := by decide +kernel
theorem dX9_difference_5 : decode cX9_difference 5 = .ok (.aload_n 0, 1) := by decide +kernel
theorem dX9_difference_6 : decode cX9_difference 6 = .ok (.getfield 7, 3) := by decide +kernel
theorem dX9_difference_9 : decode cX9_difference 9 = .ok (.iconst 0, 1) := by decide +kernel
theorem dX9_difference_10 : decode cX9_difference 10 = .ok (.iload_n 1, 1) := by decide +kernel
theorem dX9_difference_11 : decode cX9_difference 11 = .ok (.invokestatic 34, 3) := by decide +kernel
theorem dX9_difference_14 : decode cX9_difference 14 = .ok (.bipush 9, 2) := by decide +kernel
theorem dX9_difference_16 : decode cX9_difference 16 = .ok (.iadd, 1) := by decide +kernel
theorem dX9_difference_17 : decode cX9_difference 17 = .ok (.iaload, 1) := by decide +kernel
theorem dX9_difference_18 : decode cX9_difference 18 = .ok (.isub, 1) := by decide +kernel
theorem dX9_difference_19 : decode cX9_difference 19 = .ok (.invokestatic 85, 3) := by decide +kernel
theorem dX9_difference_22 : decode cX9_difference 22 = .ok (.ireturn, 1) := by decide +kernel
theorem dX9_isShut_0 : decode cX9_isShut 0 = .ok (.aload_n 0, 1) := by decide +kernel
theorem dX9_isShut_1 : decode cX9_isShut 1 = .ok (.getfield 7, 3) := by decide +kernel
theorem dX9_isShut_4 : decode cX9_isShut 4 = .ok (.iconst 0, 1) := by decide +kernel
theorem dX9_isShut_5 : decode cX9_isShut 5 = .ok (.iload_n 1, 1) := by decide +kernel
theorem dX9_isShut_6 : decode cX9_isShut 6 = .ok (.invokestatic 34, 3) := by decide +kernel
theorem dX9_isShut_9 : decode cX9_isShut 9 = .ok (.iconst 1, 1) := by decide +kernel
theorem dX9_isShut_10 : decode cX9_isShut 10 = .ok (.iadd, 1) := by decide +kernel
theorem dX9_isShut_11 : decode cX9_isShut 11 = .ok (.iaload, 1) := by decide +kernel
theorem dX9_isShut_12 : decode cX9_isShut 12 = .ok (.iconst 1, 1) := by decide +kernel
theorem dX9_isShut_13 : decode cX9_isShut 13 = .ok (.if_icmp .ne 7, 3) := by decide +kernel
theorem dX9_isShut_16 : decode cX9_isShut 16 = .ok (.iconst 1, 1) := by decide +kernel
theorem dX9_isShut_17 : decode cX9_isShut 17 = .ok (.goto 4, 3) := by decide +kernel
theorem dX9_isShut_20 : decode cX9_isShut 20 = .ok (.iconst 0, 1) := by decide +kernel
theorem dX9_isShut_21 : decode cX9_isShut 21 = .ok (.ireturn, 1) := by decide +kernel
theorem dX9_asShut_0 : decode cX9_asShut 0 = .ok (.iconst 0, 1) := by decide +kernel
theorem dX9_asShut_1 : decode cX9_asShut 1 = .ok (.iload_n 1, 1) := by decide +kernel
theorem dX9_asShut_2 : decode cX9_asShut 2 = .ok (.invokestatic 34, 3) := by decide +kernel
theorem dX9_asShut_5 : decode cX9_asShut 5 = .ok (.istore_n 3, 1) := by decide +kernel
theorem dX9_asShut_6 : decode cX9_asShut 6 = .ok (.iload_n 2, 1) := by decide +kernel
theorem dX9_asShut_7 : decode cX9_asShut 7 = .ok (.tableswitch 92 6 11 #[37, 46, 56, 66, 76, 82], 37) := by decide +kernel
theorem dX9_asShut_44 : decode cX9_asShut 44 = .ok (.aload_n 0, 1) := by decide +kernel
theorem dX9_asShut_45 : decode cX9_asShut 45 = .ok (.getfield 7, 3) := by decide +kernel
theorem dX9_asShut_48 : decode cX9_asShut 48 = .ok (.iload_n 3, 1) := by decide +kernel
theorem dX9_asShut_49 : decode cX9_asShut 49 = .ok (.iconst 5, 1) := by decide +kernel
theorem dX9_asShut_50 : decode cX9_asShut 50 = .ok (.iadd, 1) := by decide +kernel
theorem dX9_asShut_51 : decode cX9_asShut 51 = .ok (.iaload, 1) := by decide +kernel
theorem dX9_asShut_52 : decode cX9_asShut 52 = .ok (.ireturn, 1) := by decide +kernel
theorem dX9_asShut_53 : decode cX9_asShut 53 = .ok (.aload_n 0, 1) := by decide +kernel
theorem dX9_asShut_54 : decode cX9_asShut 54 = .ok (.getfield 7, 3) := by decide +kernel
theorem dX9_asShut_57 : decode cX9_asShut 57 = .ok (.iload_n 3, 1) := by decide +kernel
theorem dX9_asShut_58 : decode cX9_asShut 58 = .ok (.bipush 6, 2) := by decide +kernel
theorem dX9_asShut_60 : decode cX9_asShut 60 = .ok (.iadd, 1) := by decide +kernel
theorem dX9_asShut_61 : decode cX9_asShut 61 = .ok (.iaload, 1) := by decide +kernel
theorem dX9_asShut_62 : decode cX9_asShut 62 = .ok (.ireturn, 1) := by decide +kernel
theorem dX9_asShut_63 : decode cX9_asShut 63 = .ok (.aload_n 0, 1) := by decide +kernel
theorem dX9_asShut_64 : decode cX9_asShut 64 = .ok (.getfield 7, 3) := by decide +kernel
theorem dX9_asShut_67 : decode cX9_asShut 67 = .ok (.iload_n 3, 1) := by decide +kernel
theorem dX9_asShut_68 : decode cX9_asShut 68 = .ok (.bipush 7, 2) := by decide +kernel
theorem dX9_asShut_70 : decode cX9_asShut 70 = .ok (.iadd, 1) := by decide +kernel
theorem dX9_asShut_71 : decode cX9_asShut 71 = .ok (.iaload, 1) := by decide +kernel
theorem dX9_asShut_72 : decode cX9_asShut 72 = .ok (.ireturn, 1) := by decide +kernel
theorem dX9_asShut_73 : decode cX9_asShut 73 = .ok (.aload_n 0, 1) := by decide +kernel
theorem dX9_asShut_74 : decode cX9_asShut 74 = .ok (.getfield 7, 3) := by decide +kernel
theorem dX9_asShut_77 : decode cX9_asShut 77 = .ok (.iload_n 3, 1) := by decide +kernel
theorem dX9_asShut_78 : decode cX9_asShut 78 = .ok (.bipush 8, 2) := by decide +kernel
theorem dX9_asShut_80 : decode cX9_asShut 80 = .ok (.iadd, 1) := by decide +kernel
theorem dX9_asShut_81 : decode cX9_asShut 81 = .ok (.iaload, 1) := by decide +kernel
theorem dX9_asShut_82 : decode cX9_asShut 82 = .ok (.ireturn, 1) := by decide +kernel
theorem dX9_asShut_83 : decode cX9_asShut 83 = .ok (.aload_n 0, 1) := by decide +kernel
theorem dX9_asShut_84 : decode cX9_asShut 84 = .ok (.iload_n 1, 1) := by decide +kernel
theorem dX9_asShut_85 : decode cX9_asShut 85 = .ok (.invokevirtual 162, 3) := by decide +kernel
theorem dX9_asShut_88 : decode cX9_asShut 88 = .ok (.ireturn, 1) := by decide +kernel
theorem dX9_asShut_89 : decode cX9_asShut 89 = .ok (.aload_n 0, 1) := by decide +kernel
theorem dX9_asShut_90 : decode cX9_asShut 90 = .ok (.getfield 7, 3) := by decide +kernel
theorem dX9_asShut_93 : decode cX9_asShut 93 = .ok (.iload_n 3, 1) := by decide +kernel
theorem dX9_asShut_94 : decode cX9_asShut 94 = .ok (.bipush 9, 2) := by decide +kernel
theorem dX9_asShut_96 : decode cX9_asShut 96 = .ok (.iadd, 1) := by decide +kernel
theorem dX9_asShut_97 : decode cX9_asShut 97 = .ok (.iaload, 1) := by decide +kernel
theorem dX9_asShut_98 : decode cX9_asShut 98 = .ok (.ireturn, 1) := by decide +kernel
theorem dX9_asShut_99 : decode cX9_asShut 99 = .ok (.aload_n 0, 1) := by decide +kernel
theorem dX9_asShut_100 : decode cX9_asShut 100 = .ok (.iload_n 1, 1) := by decide +kernel
theorem dX9_asShut_101 : decode cX9_asShut 101 = .ok (.invokevirtual 165, 3) := by decide +kernel
theorem dX9_asShut_104 : decode cX9_asShut 104 = .ok (.aload_n 0, 1) := by decide +kernel
theorem dX9_asShut_105 : decode cX9_asShut 105 = .ok (.getfield 7, 3) := by decide +kernel
theorem dX9_asShut_108 : decode cX9_asShut 108 = .ok (.bipush 11, 2) := by decide +kernel
theorem dX9_asShut_110 : decode cX9_asShut 110 = .ok (.iaload, 1) := by decide +kernel
theorem dX9_asShut_111 : decode cX9_asShut 111 = .ok (.if_icmp .le 7, 3) := by decide +kernel
theorem dX9_asShut_114 : decode cX9_asShut 114 = .ok (.iconst 1, 1) := by decide +kernel
theorem dX9_asShut_115 : decode cX9_asShut 115 = .ok (.goto 4, 3) := by decide +kernel
theorem dX9_asShut_118 : decode cX9_asShut 118 = .ok (.iconst 0, 1) := by decide +kernel
theorem dX9_asShut_119 : decode cX9_asShut 119 = .ok (.invokestatic 74, 3) := by decide +kernel
theorem dX9_asShut_122 : decode cX9_asShut 122 = .ok (.ireturn, 1) := by decide +kernel
theorem dX9_bottle_0 : decode cX9_bottle 0 = .ok (.aload_n 0, 1) := by decide +kernel
theorem dX9_bottle_1 : decode cX9_bottle 1 = .ok (.iload_n 1, 1) := by decide +kernel
theorem dX9_bottle_2 : decode cX9_bottle 2 = .ok (.invokevirtual 95, 3) := by decide +kernel
theorem dX9_bottle_5 : decode cX9_bottle 5 = .ok (.ifCond .ne 7, 3) := by decide +kernel
theorem dX9_bottle_8 : decode cX9_bottle 8 = .ok (.sipush (-1001), 3) := by decide +kernel
theorem dX9_bottle_11 : decode cX9_bottle 11 = .ok (.ireturn, 1) := by decide +kernel
theorem dX9_bottle_12 : decode cX9_bottle 12 = .ok (.iconst 0, 1) := by decide +kernel
theorem dX9_bottle_13 : decode cX9_bottle 13 = .ok (.iload_n 1, 1) := by decide +kernel
theorem dX9_bottle_14 : decode cX9_bottle 14 = .ok (.invokestatic 34, 3) := by decide +kernel
theorem dX9_bottle_17 : decode cX9_bottle 17 = .ok (.istore_n 3, 1) := by decide +kernel
theorem dX9_bottle_18 : decode cX9_bottle 18 = .ok (.iload_n 2, 1) := by decide +kernel
theorem dX9_bottle_19 : decode cX9_bottle 19 = .ok (.tableswitch 134 0 13 #[69, 76, 83, 98, 107, 116, 134, 134, 134, 134, 134, 134, 134, 125], 69) := by decide +kernel
theorem dX9_bottle_88 : decode cX9_bottle 88 = .ok (.aload_n 0, 1) := by decide +kernel
theorem dX9_bottle_89 : decode cX9_bottle 89 = .ok (.getfield 7, 3) := by decide +kernel
theorem dX9_bottle_92 : decode cX9_bottle 92 = .ok (.iload_n 3, 1) := by decide +kernel
theorem dX9_bottle_93 : decode cX9_bottle 93 = .ok (.iaload, 1) := by decide +kernel
theorem dX9_bottle_94 : decode cX9_bottle 94 = .ok (.ireturn, 1) := by decide +kernel
theorem dX9_bottle_95 : decode cX9_bottle 95 = .ok (.aload_n 0, 1) := by decide +kernel
theorem dX9_bottle_96 : decode cX9_bottle 96 = .ok (.iconst 0, 1) := by decide +kernel
theorem dX9_bottle_97 : decode cX9_bottle 97 = .ok (.iload_n 1, 1) := by decide +kernel
theorem dX9_bottle_98 : decode cX9_bottle 98 = .ok (.invokevirtual 42, 3) := by decide +kernel
theorem dX9_bottle_101 : decode cX9_bottle 101 = .ok (.ireturn, 1) := by decide +kernel
theorem dX9_bottle_102 : decode cX9_bottle 102 = .ok (.aload_n 0, 1) := by decide +kernel
theorem dX9_bottle_103 : decode cX9_bottle 103 = .ok (.iconst 0, 1) := by decide +kernel
theorem dX9_bottle_104 : decode cX9_bottle 104 = .ok (.iload_n 1, 1) := by decide +kernel
theorem dX9_bottle_105 : decode cX9_bottle 105 = .ok (.invokevirtual 42, 3) := by decide +kernel
theorem dX9_bottle_108 : decode cX9_bottle 108 = .ok (.aload_n 0, 1) := by decide +kernel
theorem dX9_bottle_109 : decode cX9_bottle 109 = .ok (.iconst 0, 1) := by decide +kernel
theorem dX9_bottle_110 : decode cX9_bottle 110 = .ok (.invokevirtual 45, 3) := by decide +kernel
theorem dX9_bottle_113 : decode cX9_bottle 113 = .ok (.invokestatic 48, 3) := by decide +kernel
theorem dX9_bottle_116 : decode cX9_bottle 116 = .ok (.ireturn, 1) := by decide +kernel
theorem dX9_bottle_117 : decode cX9_bottle 117 = .ok (.aload_n 0, 1) := by decide +kernel
theorem dX9_bottle_118 : decode cX9_bottle 118 = .ok (.getfield 7, 3) := by decide +kernel
theorem dX9_bottle_121 : decode cX9_bottle 121 = .ok (.iload_n 3, 1) := by decide +kernel
theorem dX9_bottle_122 : decode cX9_bottle 122 = .ok (.iconst 1, 1) := by decide +kernel
theorem dX9_bottle_123 : decode cX9_bottle 123 = .ok (.iadd, 1) := by decide +kernel
theorem dX9_bottle_124 : decode cX9_bottle 124 = .ok (.iaload, 1) := by decide +kernel
theorem dX9_bottle_125 : decode cX9_bottle 125 = .ok (.ireturn, 1) := by decide +kernel
theorem dX9_bottle_126 : decode cX9_bottle 126 = .ok (.aload_n 0, 1) := by decide +kernel
theorem dX9_bottle_127 : decode cX9_bottle 127 = .ok (.getfield 7, 3) := by decide +kernel
theorem dX9_bottle_130 : decode cX9_bottle 130 = .ok (.iload_n 3, 1) := by decide +kernel
theorem dX9_bottle_131 : decode cX9_bottle 131 = .ok (.iconst 2, 1) := by decide +kernel
theorem dX9_bottle_132 : decode cX9_bottle 132 = .ok (.iadd, 1) := by decide +kernel
theorem dX9_bottle_133 : decode cX9_bottle 133 = .ok (.iaload, 1) := by decide +kernel
theorem dX9_bottle_134 : decode cX9_bottle 134 = .ok (.ireturn, 1) := by decide +kernel
theorem dX9_bottle_135 : decode cX9_bottle 135 = .ok (.aload_n 0, 1) := by decide +kernel
theorem dX9_bottle_136 : decode cX9_bottle 136 = .ok (.getfield 7, 3) := by decide +kernel
theorem dX9_bottle_139 : decode cX9_bottle 139 = .ok (.iload_n 3, 1) := by decide +kernel
theorem dX9_bottle_140 : decode cX9_bottle 140 = .ok (.iconst 3, 1) := by decide +kernel
theorem dX9_bottle_141 : decode cX9_bottle 141 = .ok (.iadd, 1) := by decide +kernel
theorem dX9_bottle_142 : decode cX9_bottle 142 = .ok (.iaload, 1) := by decide +kernel
theorem dX9_bottle_143 : decode cX9_bottle 143 = .ok (.ireturn, 1) := by decide +kernel
theorem dX9_bottle_144 : decode cX9_bottle 144 = .ok (.aload_n 0, 1) := by decide +kernel
theorem dX9_bottle_145 : decode cX9_bottle 145 = .ok (.getfield 7, 3) := by decide +kernel
theorem dX9_bottle_148 : decode cX9_bottle 148 = .ok (.iload_n 3, 1) := by decide +kernel
theorem dX9_bottle_149 : decode cX9_bottle 149 = .ok (.iconst 4, 1) := by decide +kernel
theorem dX9_bottle_150 : decode cX9_bottle 150 = .ok (.iadd, 1) := by decide +kernel
theorem dX9_bottle_151 : decode cX9_bottle 151 = .ok (.iaload, 1) := by decide +kernel
theorem dX9_bottle_152 : decode cX9_bottle 152 = .ok (.ireturn, 1) := by decide +kernel
theorem dX9_bottle_153 : decode cX9_bottle 153 = .ok (.iload_n 2, 1) := by decide +kernel
theorem dX9_bottle_154 : decode cX9_bottle 154 = .ok (.bipush 6, 2) := by decide +kernel
theorem dX9_bottle_156 : decode cX9_bottle 156 = .ok (.bipush 12, 2) := by decide +kernel
theorem dX9_bottle_158 : decode cX9_bottle 158 = .ok (.invokestatic 81, 3) := by decide +kernel
theorem dX9_bottle_161 : decode cX9_bottle 161 = .ok (.ifCond .ne 9, 3) := by decide +kernel
theorem dX9_bottle_164 : decode cX9_bottle 164 = .ok (.sipush (-1002), 3) := by decide +kernel
theorem dX9_bottle_167 : decode cX9_bottle 167 = .ok (.goto 23, 3) := by decide +kernel
theorem dX9_bottle_170 : decode cX9_bottle 170 = .ok (.aload_n 0, 1) := by decide +kernel
theorem dX9_bottle_171 : decode cX9_bottle 171 = .ok (.iload_n 1, 1) := by decide +kernel
theorem dX9_bottle_172 : decode cX9_bottle 172 = .ok (.invokevirtual 168, 3) := by decide +kernel
theorem dX9_bottle_175 : decode cX9_bottle 175 = .ok (.ifCond .eq 12, 3) := by decide +kernel
theorem dX9_bottle_178 : decode cX9_bottle 178 = .ok (.aload_n 0, 1) := by decide +kernel
theorem dX9_bottle_179 : decode cX9_bottle 179 = .ok (.iload_n 1, 1) := by decide +kernel
theorem dX9_bottle_180 : decode cX9_bottle 180 = .ok (.iload_n 2, 1) := by decide +kernel
theorem dX9_bottle_181 : decode cX9_bottle 181 = .ok (.invokevirtual 171, 3) := by decide +kernel
theorem dX9_bottle_184 : decode cX9_bottle 184 = .ok (.goto 6, 3) := by decide +kernel
theorem dX9_bottle_187 : decode cX9_bottle 187 = .ok (.sipush (-1005), 3) := by decide +kernel
theorem dX9_bottle_190 : decode cX9_bottle 190 = .ok (.ireturn, 1) := by decide +kernel
theorem dX9_messenger_0 : decode cX9_messenger 0 = .ok (.iload_n 1, 1) := by decide +kernel
theorem dX9_messenger_1 : decode cX9_messenger 1 = .ok (.ifCond .lt 12, 3) := by decide +kernel
theorem dX9_messenger_4 : decode cX9_messenger 4 = .ok (.iload_n 2, 1) := by decide +kernel
theorem dX9_messenger_5 : decode cX9_messenger 5 = .ok (.iconst 0, 1) := by decide +kernel
theorem dX9_messenger_6 : decode cX9_messenger 6 = .ok (.iconst 1, 1) := by decide +kernel
theorem dX9_messenger_7 : decode cX9_messenger 7 = .ok (.invokestatic 81, 3) := by decide +kernel
theorem dX9_messenger_10 : decode cX9_messenger 10 = .ok (.ifCond .ne 7, 3) := by decide +kernel
theorem dX9_messenger_13 : decode cX9_messenger 13 = .ok (.sipush (-1002), 3) := by decide +kernel
theorem dX9_messenger_16 : decode cX9_messenger 16 = .ok (.ireturn, 1) := by decide +kernel
theorem dX9_messenger_17 : decode cX9_messenger 17 = .ok (.iload_n 1, 1) := by decide +kernel
theorem dX9_messenger_18 : decode cX9_messenger 18 = .ok (.aload_n 0, 1) := by decide +kernel
theorem dX9_messenger_19 : decode cX9_messenger 19 = .ok (.getfield 7, 3) := by decide +kernel
theorem dX9_messenger_22 : decode cX9_messenger 22 = .ok (.iconst 5, 1) := by decide +kernel
theorem dX9_messenger_23 : decode cX9_messenger 23 = .ok (.iaload, 1) := by decide +kernel
theorem dX9_messenger_24 : decode cX9_messenger 24 = .ok (.if_icmp .lt 7, 3) := by decide +kernel
theorem dX9_messenger_27 : decode cX9_messenger 27 = .ok (.sipush (-1005), 3) := by decide +kernel
theorem dX9_messenger_30 : decode cX9_messenger 30 = .ok (.ireturn, 1) := by decide +kernel
theorem dX9_messenger_31 : decode cX9_messenger 31 = .ok (.aload_n 0, 1) := by decide +kernel
theorem dX9_messenger_32 : decode cX9_messenger 32 = .ok (.getfield 7, 3) := by decide +kernel
theorem dX9_messenger_35 : decode cX9_messenger 35 = .ok (.iconst 0, 1) := by decide +kernel
theorem dX9_messenger_36 : decode cX9_messenger 36 = .ok (.iload_n 1, 1) := by decide +kernel
theorem dX9_messenger_37 : decode cX9_messenger 37 = .ok (.invokestatic 54, 3) := by decide +kernel
theorem dX9_messenger_40 : decode cX9_messenger 40 = .ok (.iaload, 1) := by decide +kernel
theorem dX9_messenger_41 : decode cX9_messenger 41 = .ok (.istore_n 3, 1) := by decide +kernel
theorem dX9_messenger_42 : decode cX9_messenger 42 = .ok (.iload_n 2, 1) := by decide +kernel
theorem dX9_messenger_43 : decode cX9_messenger 43 = .ok (.ifCond .ne 7, 3) := by decide +kernel
theorem dX9_messenger_46 : decode cX9_messenger 46 = .ok (.iload_n 3, 1) := by decide +kernel
theorem dX9_messenger_47 : decode cX9_messenger 47 = .ok (.goto 19, 3) := by decide +kernel
theorem dX9_messenger_50 : decode cX9_messenger 50 = .ok (.aload_n 0, 1) := by decide +kernel
theorem dX9_messenger_51 : decode cX9_messenger 51 = .ok (.getfield 7, 3) := by decide +kernel
theorem dX9_messenger_54 : decode cX9_messenger 54 = .ok (.iconst 1, 1) := by decide +kernel
theorem dX9_messenger_55 : decode cX9_messenger 55 = .ok (.iaload, 1) := by decide +kernel
theorem dX9_messenger_56 : decode cX9_messenger 56 = .ok (.iload_n 3, 1) := by decide +kernel
theorem dX9_messenger_57 : decode cX9_messenger 57 = .ok (.isub, 1) := by decide +kernel
theorem dX9_messenger_58 : decode cX9_messenger 58 = .ok (.aload_n 0, 1) := by decide +kernel
theorem dX9_messenger_59 : decode cX9_messenger 59 = .ok (.iconst 0, 1) := by decide +kernel
theorem dX9_messenger_60 : decode cX9_messenger 60 = .ok (.invokevirtual 45, 3) := by decide +kernel
theorem dX9_messenger_63 : decode cX9_messenger 63 = .ok (.invokestatic 48, 3) := by decide +kernel
theorem dX9_messenger_66 : decode cX9_messenger 66 = .ok (.ireturn, 1) := by decide +kernel
theorem dX9_bottlesIn_0 : decode cX9_bottlesIn 0 = .ok (.iconst 0, 1) := by decide +kernel
theorem dX9_bottlesIn_1 : decode cX9_bottlesIn 1 = .ok (.istore_n 3, 1) := by decide +kernel
theorem dX9_bottlesIn_2 : decode cX9_bottlesIn 2 = .ok (.iconst 0, 1) := by decide +kernel
theorem dX9_bottlesIn_3 : decode cX9_bottlesIn 3 = .ok (.istore 4, 2) := by decide +kernel
theorem dX9_bottlesIn_5 : decode cX9_bottlesIn 5 = .ok (.iload 4, 2) := by decide +kernel
theorem dX9_bottlesIn_7 : decode cX9_bottlesIn 7 = .ok (.aload_n 0, 1) := by decide +kernel
theorem dX9_bottlesIn_8 : decode cX9_bottlesIn 8 = .ok (.getfield 7, 3) := by decide +kernel
theorem dX9_bottlesIn_11 : decode cX9_bottlesIn 11 = .ok (.iconst 4, 1) := by decide +kernel
theorem dX9_bottlesIn_12 : decode cX9_bottlesIn 12 = .ok (.iaload, 1) := by decide +kernel
theorem dX9_bottlesIn_13 : decode cX9_bottlesIn 13 = .ok (.if_icmp .ge 96, 3) := by decide +kernel
theorem dX9_bottlesIn_16 : decode cX9_bottlesIn 16 = .ok (.aload_n 0, 1) := by decide +kernel
theorem dX9_bottlesIn_17 : decode cX9_bottlesIn 17 = .ok (.iload 4, 2) := by decide +kernel
theorem dX9_bottlesIn_19 : decode cX9_bottlesIn 19 = .ok (.invokevirtual 168, 3) := by decide +kernel
theorem dX9_bottlesIn_22 : decode cX9_bottlesIn 22 = .ok (.ifCond .eq 20, 3) := by decide +kernel
theorem dX9_bottlesIn_25 : decode cX9_bottlesIn 25 = .ok (.aload_n 0, 1) := by decide +kernel
theorem dX9_bottlesIn_26 : decode cX9_bottlesIn 26 = .ok (.getfield 7, 3) := by decide +kernel
theorem dX9_bottlesIn_29 : decode cX9_bottlesIn 29 = .ok (.iconst 0, 1) := by decide +kernel
theorem dX9_bottlesIn_30 : decode cX9_bottlesIn 30 = .ok (.iload 4, 2) := by decide +kernel
theorem dX9_bottlesIn_32 : decode cX9_bottlesIn 32 = .ok (.invokestatic 34, 3) := by decide +kernel
theorem dX9_bottlesIn_35 : decode cX9_bottlesIn 35 = .ok (.bipush 10, 2) := by decide +kernel
theorem dX9_bottlesIn_37 : decode cX9_bottlesIn 37 = .ok (.iadd, 1) := by decide +kernel
theorem dX9_bottlesIn_38 : decode cX9_bottlesIn 38 = .ok (.iaload, 1) := by decide +kernel
theorem dX9_bottlesIn_39 : decode cX9_bottlesIn 39 = .ok (.goto 21, 3) := by decide +kernel
theorem dX9_bottlesIn_42 : decode cX9_bottlesIn 42 = .ok (.aload_n 0, 1) := by decide +kernel
theorem dX9_bottlesIn_43 : decode cX9_bottlesIn 43 = .ok (.iconst 0, 1) := by decide +kernel
theorem dX9_bottlesIn_44 : decode cX9_bottlesIn 44 = .ok (.iload 4, 2) := by decide +kernel
theorem dX9_bottlesIn_46 : decode cX9_bottlesIn 46 = .ok (.invokevirtual 42, 3) := by decide +kernel
theorem dX9_bottlesIn_49 : decode cX9_bottlesIn 49 = .ok (.aload_n 0, 1) := by decide +kernel
theorem dX9_bottlesIn_50 : decode cX9_bottlesIn 50 = .ok (.iconst 0, 1) := by decide +kernel
theorem dX9_bottlesIn_51 : decode cX9_bottlesIn 51 = .ok (.invokevirtual 45, 3) := by decide +kernel
theorem dX9_bottlesIn_54 : decode cX9_bottlesIn 54 = .ok (.invokestatic 48, 3) := by decide +kernel
theorem dX9_bottlesIn_57 : decode cX9_bottlesIn 57 = .ok (.invokestatic 51, 3) := by decide +kernel
theorem dX9_bottlesIn_60 : decode cX9_bottlesIn 60 = .ok (.istore 5, 2) := by decide +kernel
theorem dX9_bottlesIn_62 : decode cX9_bottlesIn 62 = .ok (.iload_n 3, 1) := by decide +kernel
theorem dX9_bottlesIn_63 : decode cX9_bottlesIn 63 = .ok (.aload_n 0, 1) := by decide +kernel
theorem dX9_bottlesIn_64 : decode cX9_bottlesIn 64 = .ok (.iload 4, 2) := by decide +kernel
theorem dX9_bottlesIn_66 : decode cX9_bottlesIn 66 = .ok (.invokevirtual 168, 3) := by decide +kernel
theorem dX9_bottlesIn_69 : decode cX9_bottlesIn 69 = .ok (.iload_n 2, 1) := by decide +kernel
theorem dX9_bottlesIn_70 : decode cX9_bottlesIn 70 = .ok (.if_icmp .ne 27, 3) := by decide +kernel
theorem dX9_bottlesIn_73 : decode cX9_bottlesIn 73 = .ok (.iload 5, 2) := by decide +kernel
theorem dX9_bottlesIn_75 : decode cX9_bottlesIn 75 = .ok (.iload_n 1, 1) := by decide +kernel
theorem dX9_bottlesIn_76 : decode cX9_bottlesIn 76 = .ok (.if_icmp .ne 21, 3) := by decide +kernel
theorem dX9_bottlesIn_79 : decode cX9_bottlesIn 79 = .ok (.iload_n 2, 1) := by decide +kernel
theorem dX9_bottlesIn_80 : decode cX9_bottlesIn 80 = .ok (.ifCond .ne 13, 3) := by decide +kernel
theorem dX9_bottlesIn_83 : decode cX9_bottlesIn 83 = .ok (.aload_n 0, 1) := by decide +kernel
theorem dX9_bottlesIn_84 : decode cX9_bottlesIn 84 = .ok (.iconst 0, 1) := by decide +kernel
theorem dX9_bottlesIn_85 : decode cX9_bottlesIn 85 = .ok (.iload 4, 2) := by decide +kernel
theorem dX9_bottlesIn_87 : decode cX9_bottlesIn 87 = .ok (.invokevirtual 38, 3) := by decide +kernel
theorem dX9_bottlesIn_90 : decode cX9_bottlesIn 90 = .ok (.ifCond .eq 7, 3) := by decide +kernel
theorem dX9_bottlesIn_93 : decode cX9_bottlesIn 93 = .ok (.iconst 1, 1) := by decide +kernel
theorem dX9_bottlesIn_94 : decode cX9_bottlesIn 94 = .ok (.goto 4, 3) := by decide +kernel
theorem dX9_bottlesIn_97 : decode cX9_bottlesIn 97 = .ok (.iconst 0, 1) := by decide +kernel
theorem dX9_bottlesIn_98 : decode cX9_bottlesIn 98 = .ok (.invokestatic 74, 3) := by decide +kernel
theorem dX9_bottlesIn_101 : decode cX9_bottlesIn 101 = .ok (.iadd, 1) := by decide +kernel
theorem dX9_bottlesIn_102 : decode cX9_bottlesIn 102 = .ok (.istore_n 3, 1) := by decide +kernel
theorem dX9_bottlesIn_103 : decode cX9_bottlesIn 103 = .ok (.iinc 4 1, 3) := by decide +kernel
theorem dX9_bottlesIn_106 : decode cX9_bottlesIn 106 = .ok (.goto (-101), 3) := by decide +kernel
theorem dX9_bottlesIn_109 : decode cX9_bottlesIn 109 = .ok (.iload_n 3, 1) := by decide +kernel
theorem dX9_bottlesIn_110 : decode cX9_bottlesIn 110 = .ok (.ireturn, 1) := by decide +kernel
theorem dX9_layer_0 : decode cX9_layer 0 = .ok (.iload_n 1, 1) := by decide +kernel
theorem dX9_layer_1 : decode cX9_layer 1 = .ok (.iconst 0, 1) := by decide +kernel
theorem dX9_layer_2 : decode cX9_layer 2 = .ok (.bipush 9, 2) := by decide +kernel
theorem dX9_layer_4 : decode cX9_layer 4 = .ok (.invokestatic 81, 3) := by decide +kernel
theorem dX9_layer_7 : decode cX9_layer 7 = .ok (.ifCond .ne 7, 3) := by decide +kernel
theorem dX9_layer_10 : decode cX9_layer 10 = .ok (.sipush (-1001), 3) := by decide +kernel
theorem dX9_layer_13 : decode cX9_layer 13 = .ok (.ireturn, 1) := by decide +kernel
theorem dX9_layer_14 : decode cX9_layer 14 = .ok (.iload_n 2, 1) := by decide +kernel
theorem dX9_layer_15 : decode cX9_layer 15 = .ok (.iconst 0, 1) := by decide +kernel
theorem dX9_layer_16 : decode cX9_layer 16 = .ok (.iconst 3, 1) := by decide +kernel
theorem dX9_layer_17 : decode cX9_layer 17 = .ok (.invokestatic 81, 3) := by decide +kernel
theorem dX9_layer_20 : decode cX9_layer 20 = .ok (.ifCond .ne 7, 3) := by decide +kernel
theorem dX9_layer_23 : decode cX9_layer 23 = .ok (.sipush (-1002), 3) := by decide +kernel
theorem dX9_layer_26 : decode cX9_layer 26 = .ok (.ireturn, 1) := by decide +kernel
theorem dX9_layer_27 : decode cX9_layer 27 = .ok (.iload_n 2, 1) := by decide +kernel
theorem dX9_layer_28 : decode cX9_layer 28 = .ok (.iconst 2, 1) := by decide +kernel
theorem dX9_layer_29 : decode cX9_layer 29 = .ok (.if_icmp .ge 19, 3) := by decide +kernel
theorem dX9_layer_32 : decode cX9_layer 32 = .ok (.aload_n 0, 1) := by decide +kernel
theorem dX9_layer_33 : decode cX9_layer 33 = .ok (.getfield 7, 3) := by decide +kernel
theorem dX9_layer_36 : decode cX9_layer 36 = .ok (.bipush 13, 2) := by decide +kernel
theorem dX9_layer_38 : decode cX9_layer 38 = .ok (.iconst 2, 1) := by decide +kernel
theorem dX9_layer_39 : decode cX9_layer 39 = .ok (.iload_n 1, 1) := by decide +kernel
theorem dX9_layer_40 : decode cX9_layer 40 = .ok (.imul, 1) := by decide +kernel
theorem dX9_layer_41 : decode cX9_layer 41 = .ok (.iadd, 1) := by decide +kernel
theorem dX9_layer_42 : decode cX9_layer 42 = .ok (.iload_n 2, 1) := by decide +kernel
theorem dX9_layer_43 : decode cX9_layer 43 = .ok (.iadd, 1) := by decide +kernel
theorem dX9_layer_44 : decode cX9_layer 44 = .ok (.iaload, 1) := by decide +kernel
theorem dX9_layer_45 : decode cX9_layer 45 = .ok (.goto 18, 3) := by decide +kernel
theorem dX9_layer_48 : decode cX9_layer 48 = .ok (.aload_n 0, 1) := by decide +kernel
theorem dX9_layer_49 : decode cX9_layer 49 = .ok (.iload_n 1, 1) := by decide +kernel
theorem dX9_layer_50 : decode cX9_layer 50 = .ok (.iload_n 2, 1) := by decide +kernel
theorem dX9_layer_51 : decode cX9_layer 51 = .ok (.iconst 3, 1) := by decide +kernel
theorem dX9_layer_52 : decode cX9_layer 52 = .ok (.if_icmp .ne 7, 3) := by decide +kernel
theorem dX9_layer_55 : decode cX9_layer 55 = .ok (.iconst 1, 1) := by decide +kernel
theorem dX9_layer_56 : decode cX9_layer 56 = .ok (.goto 4, 3) := by decide +kernel
theorem dX9_layer_59 : decode cX9_layer 59 = .ok (.iconst 0, 1) := by decide +kernel
theorem dX9_layer_60 : decode cX9_layer 60 = .ok (.invokevirtual 174, 3) := by decide +kernel
theorem dX9_layer_63 : decode cX9_layer 63 = .ok (.ireturn, 1) := by decide +kernel
theorem dX9_depth_0 : decode cX9_depth 0 = .ok (.iload_n 1, 1) := by decide +kernel
theorem dX9_depth_1 : decode cX9_depth 1 = .ok (.iconst 0, 1) := by decide +kernel
theorem dX9_depth_2 : decode cX9_depth 2 = .ok (.sipush 999, 3) := by decide +kernel
theorem dX9_depth_5 : decode cX9_depth 5 = .ok (.invokestatic 81, 3) := by decide +kernel
theorem dX9_depth_8 : decode cX9_depth 8 = .ok (.ifCond .eq 21, 3) := by decide +kernel
theorem dX9_depth_11 : decode cX9_depth 11 = .ok (.iload_n 2, 1) := by decide +kernel
theorem dX9_depth_12 : decode cX9_depth 12 = .ok (.iconst 0, 1) := by decide +kernel
theorem dX9_depth_13 : decode cX9_depth 13 = .ok (.bipush 6, 2) := by decide +kernel
theorem dX9_depth_15 : decode cX9_depth 15 = .ok (.invokestatic 81, 3) := by decide +kernel
theorem dX9_depth_18 : decode cX9_depth 18 = .ok (.ifCond .eq 11, 3) := by decide +kernel
theorem dX9_depth_21 : decode cX9_depth 21 = .ok (.iload_n 1, 1) := by decide +kernel
theorem dX9_depth_22 : decode cX9_depth 22 = .ok (.iload_n 2, 1) := by decide +kernel
theorem dX9_depth_23 : decode cX9_depth 23 = .ok (.invokestatic 48, 3) := by decide +kernel
theorem dX9_depth_26 : decode cX9_depth 26 = .ok (.goto 6, 3) := by decide +kernel
theorem dX9_depth_29 : decode cX9_depth 29 = .ok (.sipush (-1002), 3) := by decide +kernel
theorem dX9_depth_32 : decode cX9_depth 32 = .ok (.ireturn, 1) := by decide +kernel
theorem dX9_secondsTo_0 : decode cX9_secondsTo 0 = .ok (.aload_n 0, 1) := by decide +kernel
theorem dX9_secondsTo_1 : decode cX9_secondsTo 1 = .ok (.iconst 0, 1) := by decide +kernel
theorem dX9_secondsTo_2 : decode cX9_secondsTo 2 = .ok (.bipush 7, 2) := by decide +kernel
theorem dX9_secondsTo_4 : decode cX9_secondsTo 4 = .ok (.invokevirtual 26, 3) := by decide +kernel
theorem dX9_secondsTo_7 : decode cX9_secondsTo 7 = .ok (.sipush 1239, 3) := by decide +kernel
theorem dX9_secondsTo_10 : decode cX9_secondsTo 10 = .ok (.istore_n 2, 1) := by decide +kernel
theorem dX9_secondsTo_11 : decode cX9_secondsTo 11 = .ok (.iconst 0, 1) := by decide +kernel
theorem dX9_secondsTo_12 : decode cX9_secondsTo 12 = .ok (.istore_n 3, 1) := by decide +kernel
theorem dX9_secondsTo_13 : decode cX9_secondsTo 13 = .ok (.aload_n 0, 1) := by decide +kernel
theorem dX9_secondsTo_14 : decode cX9_secondsTo 14 = .ok (.getfield 7, 3) := by decide +kernel
theorem dX9_secondsTo_17 : decode cX9_secondsTo 17 = .ok (.iload_n 2, 1) := by decide +kernel
theorem dX9_secondsTo_18 : decode cX9_secondsTo 18 = .ok (.iload_n 1, 1) := by decide +kernel
theorem dX9_secondsTo_19 : decode cX9_secondsTo 19 = .ok (.invokestatic 34, 3) := by decide +kernel
theorem dX9_secondsTo_22 : decode cX9_secondsTo 22 = .ok (.iconst 1, 1) := by decide +kernel
theorem dX9_secondsTo_23 : decode cX9_secondsTo 23 = .ok (.iadd, 1) := by decide +kernel
theorem dX9_secondsTo_24 : decode cX9_secondsTo 24 = .ok (.iaload, 1) := by decide +kernel
theorem dX9_secondsTo_25 : decode cX9_secondsTo 25 = .ok (.ifCond .ne 41, 3) := by decide +kernel
theorem dX9_secondsTo_28 : decode cX9_secondsTo 28 = .ok (.aload_n 0, 1) := by decide +kernel
theorem dX9_secondsTo_29 : decode cX9_secondsTo 29 = .ok (.getfield 7, 3) := by decide +kernel
theorem dX9_secondsTo_32 : decode cX9_secondsTo 32 = .ok (.iload_n 2, 1) := by decide +kernel
theorem dX9_secondsTo_33 : decode cX9_secondsTo 33 = .ok (.iconst 5, 1) := by decide +kernel
theorem dX9_secondsTo_34 : decode cX9_secondsTo 34 = .ok (.iadd, 1) := by decide +kernel
theorem dX9_secondsTo_35 : decode cX9_secondsTo 35 = .ok (.iaload, 1) := by decide +kernel
theorem dX9_secondsTo_36 : decode cX9_secondsTo 36 = .ok (.ifCond .eq 13, 3) := by decide +kernel
theorem dX9_secondsTo_39 : decode cX9_secondsTo 39 = .ok (.aload_n 0, 1) := by decide +kernel
theorem dX9_secondsTo_40 : decode cX9_secondsTo 40 = .ok (.iload_n 2, 1) := by decide +kernel
theorem dX9_secondsTo_41 : decode cX9_secondsTo 41 = .ok (.invokevirtual 45, 3) := by decide +kernel
theorem dX9_secondsTo_44 : decode cX9_secondsTo 44 = .ok (.bipush 6, 2) := by decide +kernel
theorem dX9_secondsTo_46 : decode cX9_secondsTo 46 = .ok (.if_icmp .ne 7, 3) := by decide +kernel
theorem dX9_secondsTo_49 : decode cX9_secondsTo 49 = .ok (.sipush (-1005), 3) := by decide +kernel
theorem dX9_secondsTo_52 : decode cX9_secondsTo 52 = .ok (.ireturn, 1) := by decide +kernel
theorem dX9_secondsTo_53 : decode cX9_secondsTo 53 = .ok (.aload_n 0, 1) := by decide +kernel
theorem dX9_secondsTo_54 : decode cX9_secondsTo 54 = .ok (.iload_n 2, 1) := by decide +kernel
theorem dX9_secondsTo_55 : decode cX9_secondsTo 55 = .ok (.invokevirtual 78, 3) := by decide +kernel
theorem dX9_secondsTo_58 : decode cX9_secondsTo 58 = .ok (.istore 4, 2) := by decide +kernel
theorem dX9_secondsTo_60 : decode cX9_secondsTo 60 = .ok (.iinc 3 1, 3) := by decide +kernel
theorem dX9_secondsTo_63 : decode cX9_secondsTo 63 = .ok (.goto (-50), 3) := by decide +kernel
theorem dX9_secondsTo_66 : decode cX9_secondsTo 66 = .ok (.iload_n 3, 1) := by decide +kernel
theorem dX9_secondsTo_67 : decode cX9_secondsTo 67 = .ok (.ireturn, 1) := by decide +kernel
theorem dX9_reason_0 : decode cX9_reason 0 = .ok (.aload_n 0, 1) := by decide +kernel
theorem dX9_reason_1 : decode cX9_reason 1 = .ok (.iload_n 1, 1) := by decide +kernel
theorem dX9_reason_2 : decode cX9_reason 2 = .ok (.invokevirtual 95, 3) := by decide +kernel
theorem dX9_reason_5 : decode cX9_reason 5 = .ok (.ifCond .ne 7, 3) := by decide +kernel
theorem dX9_reason_8 : decode cX9_reason 8 = .ok (.sipush (-1001), 3) := by decide +kernel
theorem dX9_reason_11 : decode cX9_reason 11 = .ok (.ireturn, 1) := by decide +kernel
theorem dX9_reason_12 : decode cX9_reason 12 = .ok (.aload_n 0, 1) := by decide +kernel
theorem dX9_reason_13 : decode cX9_reason 13 = .ok (.iload_n 1, 1) := by decide +kernel
theorem dX9_reason_14 : decode cX9_reason 14 = .ok (.invokevirtual 168, 3) := by decide +kernel
theorem dX9_reason_17 : decode cX9_reason 17 = .ok (.ifCond .eq 5, 3) := by decide +kernel
theorem dX9_reason_20 : decode cX9_reason 20 = .ok (.iconst 1, 1) := by decide +kernel
theorem dX9_reason_21 : decode cX9_reason 21 = .ok (.ireturn, 1) := by decide +kernel
theorem dX9_reason_22 : decode cX9_reason 22 = .ok (.aload_n 0, 1) := by decide +kernel
theorem dX9_reason_23 : decode cX9_reason 23 = .ok (.iconst 0, 1) := by decide +kernel
theorem dX9_reason_24 : decode cX9_reason 24 = .ok (.iload_n 1, 1) := by decide +kernel
theorem dX9_reason_25 : decode cX9_reason 25 = .ok (.invokevirtual 38, 3) := by decide +kernel
theorem dX9_reason_28 : decode cX9_reason 28 = .ok (.ifCond .ne 5, 3) := by decide +kernel
theorem dX9_reason_31 : decode cX9_reason 31 = .ok (.iconst 2, 1) := by decide +kernel
theorem dX9_reason_32 : decode cX9_reason 32 = .ok (.ireturn, 1) := by decide +kernel
theorem dX9_reason_33 : decode cX9_reason 33 = .ok (.aload_n 0, 1) := by decide +kernel
theorem dX9_reason_34 : decode cX9_reason 34 = .ok (.iconst 0, 1) := by decide +kernel
theorem dX9_reason_35 : decode cX9_reason 35 = .ok (.invokevirtual 45, 3) := by decide +kernel
theorem dX9_reason_38 : decode cX9_reason 38 = .ok (.bipush 6, 2) := by decide +kernel
theorem dX9_reason_40 : decode cX9_reason 40 = .ok (.if_icmp .ne 5, 3) := by decide +kernel
theorem dX9_reason_43 : decode cX9_reason 43 = .ok (.iconst 3, 1) := by decide +kernel
theorem dX9_reason_44 : decode cX9_reason 44 = .ok (.ireturn, 1) := by decide +kernel
theorem dX9_reason_45 : decode cX9_reason 45 = .ok (.aload_n 0, 1) := by decide +kernel
theorem dX9_reason_46 : decode cX9_reason 46 = .ok (.getfield 7, 3) := by decide +kernel
theorem dX9_reason_49 : decode cX9_reason 49 = .ok (.iconst 5, 1) := by decide +kernel
theorem dX9_reason_50 : decode cX9_reason 50 = .ok (.iaload, 1) := by decide +kernel
theorem dX9_reason_51 : decode cX9_reason 51 = .ok (.ifCond .le 37, 3) := by decide +kernel
theorem dX9_reason_54 : decode cX9_reason 54 = .ok (.aload_n 0, 1) := by decide +kernel
theorem dX9_reason_55 : decode cX9_reason 55 = .ok (.getfield 7, 3) := by decide +kernel
theorem dX9_reason_58 : decode cX9_reason 58 = .ok (.iconst 0, 1) := by decide +kernel
theorem dX9_reason_59 : decode cX9_reason 59 = .ok (.aload_n 0, 1) := by decide +kernel
theorem dX9_reason_60 : decode cX9_reason 60 = .ok (.getfield 7, 3) := by decide +kernel
theorem dX9_reason_63 : decode cX9_reason 63 = .ok (.iconst 5, 1) := by decide +kernel
theorem dX9_reason_64 : decode cX9_reason 64 = .ok (.iaload, 1) := by decide +kernel
theorem dX9_reason_65 : decode cX9_reason 65 = .ok (.iconst 1, 1) := by decide +kernel
theorem dX9_reason_66 : decode cX9_reason 66 = .ok (.isub, 1) := by decide +kernel
theorem dX9_reason_67 : decode cX9_reason 67 = .ok (.invokestatic 54, 3) := by decide +kernel
theorem dX9_reason_70 : decode cX9_reason 70 = .ok (.iaload, 1) := by decide +kernel
theorem dX9_reason_71 : decode cX9_reason 71 = .ok (.aload_n 0, 1) := by decide +kernel
theorem dX9_reason_72 : decode cX9_reason 72 = .ok (.getfield 7, 3) := by decide +kernel
theorem dX9_reason_75 : decode cX9_reason 75 = .ok (.iconst 0, 1) := by decide +kernel
theorem dX9_reason_76 : decode cX9_reason 76 = .ok (.iload_n 1, 1) := by decide +kernel
theorem dX9_reason_77 : decode cX9_reason 77 = .ok (.invokestatic 34, 3) := by decide +kernel
theorem dX9_reason_80 : decode cX9_reason 80 = .ok (.iaload, 1) := by decide +kernel
theorem dX9_reason_81 : decode cX9_reason 81 = .ok (.if_icmp .le 7, 3) := by decide +kernel
theorem dX9_reason_84 : decode cX9_reason 84 = .ok (.iconst 1, 1) := by decide +kernel
theorem dX9_reason_85 : decode cX9_reason 85 = .ok (.goto 4, 3) := by decide +kernel
theorem dX9_reason_88 : decode cX9_reason 88 = .ok (.iconst 0, 1) := by decide +kernel
theorem dX9_reason_89 : decode cX9_reason 89 = .ok (.istore_n 2, 1) := by decide +kernel
theorem dX9_reason_90 : decode cX9_reason 90 = .ok (.iload_n 2, 1) := by decide +kernel
theorem dX9_reason_91 : decode cX9_reason 91 = .ok (.ifCond .ne 7, 3) := by decide +kernel
theorem dX9_reason_94 : decode cX9_reason 94 = .ok (.iconst 4, 1) := by decide +kernel
theorem dX9_reason_95 : decode cX9_reason 95 = .ok (.goto 19, 3) := by decide +kernel
theorem dX9_reason_98 : decode cX9_reason 98 = .ok (.aload_n 0, 1) := by decide +kernel
theorem dX9_reason_99 : decode cX9_reason 99 = .ok (.iload_n 1, 1) := by decide +kernel
theorem dX9_reason_100 : decode cX9_reason 100 = .ok (.invokevirtual 178, 3) := by decide +kernel
theorem dX9_reason_103 : decode cX9_reason 103 = .ok (.sipush (-1005), 3) := by decide +kernel
theorem dX9_reason_106 : decode cX9_reason 106 = .ok (.if_icmp .ne 7, 3) := by decide +kernel
theorem dX9_reason_109 : decode cX9_reason 109 = .ok (.iconst 5, 1) := by decide +kernel
theorem dX9_reason_110 : decode cX9_reason 110 = .ok (.goto 4, 3) := by decide +kernel
theorem dX9_reason_113 : decode cX9_reason 113 = .ok (.iconst 0, 1) := by decide +kernel
theorem dX9_reason_114 : decode cX9_reason 114 = .ok (.ireturn, 1) := by decide +kernel
theorem dX9_shutIn_0 : decode cX9_shutIn 0 = .ok (.aload_n 0, 1) := by decide +kernel
theorem dX9_shutIn_1 : decode cX9_shutIn 1 = .ok (.iload_n 1, 1) := by decide +kernel
theorem dX9_shutIn_2 : decode cX9_shutIn 2 = .ok (.invokevirtual 95, 3) := by decide +kernel
theorem dX9_shutIn_5 : decode cX9_shutIn 5 = .ok (.ifCond .ne 9, 3) := by decide +kernel
theorem dX9_shutIn_8 : decode cX9_shutIn 8 = .ok (.sipush (-1001), 3) := by decide +kernel
theorem dX9_shutIn_11 : decode cX9_shutIn 11 = .ok (.goto 22, 3) := by decide +kernel
theorem dX9_shutIn_14 : decode cX9_shutIn 14 = .ok (.aload_n 0, 1) := by decide +kernel
theorem dX9_shutIn_15 : decode cX9_shutIn 15 = .ok (.iload_n 1, 1) := by decide +kernel
theorem dX9_shutIn_16 : decode cX9_shutIn 16 = .ok (.invokevirtual 168, 3) := by decide +kernel
theorem dX9_shutIn_19 : decode cX9_shutIn 19 = .ok (.ifCond .eq 9, 3) := by decide +kernel
theorem dX9_shutIn_22 : decode cX9_shutIn 22 = .ok (.sipush (-1005), 3) := by decide +kernel
theorem dX9_shutIn_25 : decode cX9_shutIn 25 = .ok (.goto 8, 3) := by decide +kernel
theorem dX9_shutIn_28 : decode cX9_shutIn 28 = .ok (.aload_n 0, 1) := by decide +kernel
theorem dX9_shutIn_29 : decode cX9_shutIn 29 = .ok (.iload_n 1, 1) := by decide +kernel
theorem dX9_shutIn_30 : decode cX9_shutIn 30 = .ok (.invokevirtual 178, 3) := by decide +kernel
theorem dX9_shutIn_33 : decode cX9_shutIn 33 = .ok (.ireturn, 1) := by decide +kernel
theorem dX9_quietIn_0 : decode cX9_quietIn 0 = .ok (.aload_n 0, 1) := by decide +kernel
theorem dX9_quietIn_1 : decode cX9_quietIn 1 = .ok (.getfield 7, 3) := by decide +kernel
theorem dX9_quietIn_4 : decode cX9_quietIn 4 = .ok (.iconst 5, 1) := by decide +kernel
theorem dX9_quietIn_5 : decode cX9_quietIn 5 = .ok (.iaload, 1) := by decide +kernel
theorem dX9_quietIn_6 : decode cX9_quietIn 6 = .ok (.ifCond .le 17, 3) := by decide +kernel
theorem dX9_quietIn_9 : decode cX9_quietIn 9 = .ok (.aload_n 0, 1) := by decide +kernel
theorem dX9_quietIn_10 : decode cX9_quietIn 10 = .ok (.iconst 0, 1) := by decide +kernel
theorem dX9_quietIn_11 : decode cX9_quietIn 11 = .ok (.invokevirtual 45, 3) := by decide +kernel
theorem dX9_quietIn_14 : decode cX9_quietIn 14 = .ok (.bipush 6, 2) := by decide +kernel
theorem dX9_quietIn_16 : decode cX9_quietIn 16 = .ok (.if_icmp .ne 7, 3) := by decide +kernel
theorem dX9_quietIn_19 : decode cX9_quietIn 19 = .ok (.sipush (-1005), 3) := by decide +kernel
theorem dX9_quietIn_22 : decode cX9_quietIn 22 = .ok (.ireturn, 1) := by decide +kernel
theorem dX9_quietIn_23 : decode cX9_quietIn 23 = .ok (.aload_n 0, 1) := by decide +kernel
theorem dX9_quietIn_24 : decode cX9_quietIn 24 = .ok (.iconst 0, 1) := by decide +kernel
theorem dX9_quietIn_25 : decode cX9_quietIn 25 = .ok (.bipush 7, 2) := by decide +kernel
theorem dX9_quietIn_27 : decode cX9_quietIn 27 = .ok (.invokevirtual 26, 3) := by decide +kernel
theorem dX9_quietIn_30 : decode cX9_quietIn 30 = .ok (.sipush 1239, 3) := by decide +kernel
theorem dX9_quietIn_33 : decode cX9_quietIn 33 = .ok (.istore_n 1, 1) := by decide +kernel
theorem dX9_quietIn_34 : decode cX9_quietIn 34 = .ok (.iconst 0, 1) := by decide +kernel
theorem dX9_quietIn_35 : decode cX9_quietIn 35 = .ok (.istore_n 2, 1) := by decide +kernel
theorem dX9_quietIn_36 : decode cX9_quietIn 36 = .ok (.aload_n 0, 1) := by decide +kernel
theorem dX9_quietIn_37 : decode cX9_quietIn 37 = .ok (.getfield 7, 3) := by decide +kernel
theorem dX9_quietIn_40 : decode cX9_quietIn 40 = .ok (.iload_n 1, 1) := by decide +kernel
theorem dX9_quietIn_41 : decode cX9_quietIn 41 = .ok (.iconst 5, 1) := by decide +kernel
theorem dX9_quietIn_42 : decode cX9_quietIn 42 = .ok (.iadd, 1) := by decide +kernel
theorem dX9_quietIn_43 : decode cX9_quietIn 43 = .ok (.iaload, 1) := by decide +kernel
theorem dX9_quietIn_44 : decode cX9_quietIn 44 = .ok (.ifCond .le 15, 3) := by decide +kernel
theorem dX9_quietIn_47 : decode cX9_quietIn 47 = .ok (.aload_n 0, 1) := by decide +kernel
theorem dX9_quietIn_48 : decode cX9_quietIn 48 = .ok (.iload_n 1, 1) := by decide +kernel
theorem dX9_quietIn_49 : decode cX9_quietIn 49 = .ok (.invokevirtual 78, 3) := by decide +kernel
theorem dX9_quietIn_52 : decode cX9_quietIn 52 = .ok (.istore_n 3, 1) := by decide +kernel
theorem dX9_quietIn_53 : decode cX9_quietIn 53 = .ok (.iinc 2 1, 3) := by decide +kernel
theorem dX9_quietIn_56 : decode cX9_quietIn 56 = .ok (.goto (-20), 3) := by decide +kernel
theorem dX9_quietIn_59 : decode cX9_quietIn 59 = .ok (.iload_n 2, 1) := by decide +kernel
theorem dX9_quietIn_60 : decode cX9_quietIn 60 = .ok (.ireturn, 1) := by decide +kernel
theorem dX9_worst_0 : decode cX9_worst 0 = .ok (.sipush (-1005), 3) := by decide +kernel
theorem dX9_worst_3 : decode cX9_worst 3 = .ok (.istore_n 1, 1) := by decide +kernel
theorem dX9_worst_4 : decode cX9_worst 4 = .ok (.iconst (-1), 1) := by decide +kernel
theorem dX9_worst_5 : decode cX9_worst 5 = .ok (.istore_n 2, 1) := by decide +kernel
theorem dX9_worst_6 : decode cX9_worst 6 = .ok (.iconst 0, 1) := by decide +kernel
theorem dX9_worst_7 : decode cX9_worst 7 = .ok (.istore_n 3, 1) := by decide +kernel
theorem dX9_worst_8 : decode cX9_worst 8 = .ok (.iload_n 3, 1) := by decide +kernel
theorem dX9_worst_9 : decode cX9_worst 9 = .ok (.aload_n 0, 1) := by decide +kernel
theorem dX9_worst_10 : decode cX9_worst 10 = .ok (.getfield 7, 3) := by decide +kernel
theorem dX9_worst_13 : decode cX9_worst 13 = .ok (.iconst 4, 1) := by decide +kernel
theorem dX9_worst_14 : decode cX9_worst 14 = .ok (.iaload, 1) := by decide +kernel
theorem dX9_worst_15 : decode cX9_worst 15 = .ok (.if_icmp .ge 59, 3) := by decide +kernel
theorem dX9_worst_18 : decode cX9_worst 18 = .ok (.aload_n 0, 1) := by decide +kernel
theorem dX9_worst_19 : decode cX9_worst 19 = .ok (.iload_n 3, 1) := by decide +kernel
theorem dX9_worst_20 : decode cX9_worst 20 = .ok (.invokevirtual 168, 3) := by decide +kernel
theorem dX9_worst_23 : decode cX9_worst 23 = .ok (.ifCond .eq 16, 3) := by decide +kernel
theorem dX9_worst_26 : decode cX9_worst 26 = .ok (.aload_n 0, 1) := by decide +kernel
theorem dX9_worst_27 : decode cX9_worst 27 = .ok (.iload_n 3, 1) := by decide +kernel
theorem dX9_worst_28 : decode cX9_worst 28 = .ok (.invokevirtual 165, 3) := by decide +kernel
theorem dX9_worst_31 : decode cX9_worst 31 = .ok (.iload_n 2, 1) := by decide +kernel
theorem dX9_worst_32 : decode cX9_worst 32 = .ok (.if_icmp .le 7, 3) := by decide +kernel
theorem dX9_worst_35 : decode cX9_worst 35 = .ok (.iconst 1, 1) := by decide +kernel
theorem dX9_worst_36 : decode cX9_worst 36 = .ok (.goto 4, 3) := by decide +kernel
theorem dX9_worst_39 : decode cX9_worst 39 = .ok (.iconst 0, 1) := by decide +kernel
theorem dX9_worst_40 : decode cX9_worst 40 = .ok (.istore 4, 2) := by decide +kernel
theorem dX9_worst_42 : decode cX9_worst 42 = .ok (.iload 4, 2) := by decide +kernel
theorem dX9_worst_44 : decode cX9_worst 44 = .ok (.ifCond .eq 7, 3) := by decide +kernel
theorem dX9_worst_47 : decode cX9_worst 47 = .ok (.iload_n 3, 1) := by decide +kernel
theorem dX9_worst_48 : decode cX9_worst 48 = .ok (.goto 4, 3) := by decide +kernel
theorem dX9_worst_51 : decode cX9_worst 51 = .ok (.iload_n 1, 1) := by decide +kernel
theorem dX9_worst_52 : decode cX9_worst 52 = .ok (.istore_n 1, 1) := by decide +kernel
theorem dX9_worst_53 : decode cX9_worst 53 = .ok (.iload 4, 2) := by decide +kernel
theorem dX9_worst_55 : decode cX9_worst 55 = .ok (.ifCond .eq 11, 3) := by decide +kernel
theorem dX9_worst_58 : decode cX9_worst 58 = .ok (.aload_n 0, 1) := by decide +kernel
theorem dX9_worst_59 : decode cX9_worst 59 = .ok (.iload_n 3, 1) := by decide +kernel
theorem dX9_worst_60 : decode cX9_worst 60 = .ok (.invokevirtual 165, 3) := by decide +kernel
theorem dX9_worst_63 : decode cX9_worst 63 = .ok (.goto 4, 3) := by decide +kernel
theorem dX9_worst_66 : decode cX9_worst 66 = .ok (.iload_n 2, 1) := by decide +kernel
theorem dX9_worst_67 : decode cX9_worst 67 = .ok (.istore_n 2, 1) := by decide +kernel
theorem dX9_worst_68 : decode cX9_worst 68 = .ok (.iinc 3 1, 3) := by decide +kernel
theorem dX9_worst_71 : decode cX9_worst 71 = .ok (.goto (-63), 3) := by decide +kernel
theorem dX9_worst_74 : decode cX9_worst 74 = .ok (.iload_n 1, 1) := by decide +kernel
theorem dX9_worst_75 : decode cX9_worst 75 = .ok (.ireturn, 1) := by decide +kernel
theorem dX9_many_0 : decode cX9_many 0 = .ok (.iconst 0, 1) := by decide +kernel
theorem dX9_many_1 : decode cX9_many 1 = .ok (.istore_n 2, 1) := by decide +kernel
theorem dX9_many_2 : decode cX9_many 2 = .ok (.iconst 0, 1) := by decide +kernel
theorem dX9_many_3 : decode cX9_many 3 = .ok (.istore_n 3, 1) := by decide +kernel
theorem dX9_many_4 : decode cX9_many 4 = .ok (.iload_n 3, 1) := by decide +kernel
theorem dX9_many_5 : decode cX9_many 5 = .ok (.aload_n 0, 1) := by decide +kernel
theorem dX9_many_6 : decode cX9_many 6 = .ok (.getfield 7, 3) := by decide +kernel
theorem dX9_many_9 : decode cX9_many 9 = .ok (.iconst 4, 1) := by decide +kernel
theorem dX9_many_10 : decode cX9_many 10 = .ok (.iaload, 1) := by decide +kernel
theorem dX9_many_11 : decode cX9_many 11 = .ok (.if_icmp .ge 61, 3) := by decide +kernel
theorem dX9_many_14 : decode cX9_many 14 = .ok (.iload_n 2, 1) := by decide +kernel
theorem dX9_many_15 : decode cX9_many 15 = .ok (.iload_n 1, 1) := by decide +kernel
theorem dX9_many_16 : decode cX9_many 16 = .ok (.ifCond .ne 12, 3) := by decide +kernel
theorem dX9_many_19 : decode cX9_many 19 = .ok (.aload_n 0, 1) := by decide +kernel
theorem dX9_many_20 : decode cX9_many 20 = .ok (.iconst 0, 1) := by decide +kernel
theorem dX9_many_21 : decode cX9_many 21 = .ok (.iload_n 3, 1) := by decide +kernel
theorem dX9_many_22 : decode cX9_many 22 = .ok (.invokevirtual 38, 3) := by decide +kernel
theorem dX9_many_25 : decode cX9_many 25 = .ok (.goto 36, 3) := by decide +kernel
theorem dX9_many_28 : decode cX9_many 28 = .ok (.aload_n 0, 1) := by decide +kernel
theorem dX9_many_29 : decode cX9_many 29 = .ok (.iload_n 3, 1) := by decide +kernel
theorem dX9_many_30 : decode cX9_many 30 = .ok (.invokevirtual 168, 3) := by decide +kernel
theorem dX9_many_33 : decode cX9_many 33 = .ok (.ifCond .eq 27, 3) := by decide +kernel
theorem dX9_many_36 : decode cX9_many 36 = .ok (.iload_n 1, 1) := by decide +kernel
theorem dX9_many_37 : decode cX9_many 37 = .ok (.iconst 1, 1) := by decide +kernel
theorem dX9_many_38 : decode cX9_many 38 = .ok (.if_icmp .eq 18, 3) := by decide +kernel
theorem dX9_many_41 : decode cX9_many 41 = .ok (.aload_n 0, 1) := by decide +kernel
theorem dX9_many_42 : decode cX9_many 42 = .ok (.iload_n 3, 1) := by decide +kernel
theorem dX9_many_43 : decode cX9_many 43 = .ok (.invokevirtual 165, 3) := by decide +kernel
theorem dX9_many_46 : decode cX9_many 46 = .ok (.aload_n 0, 1) := by decide +kernel
theorem dX9_many_47 : decode cX9_many 47 = .ok (.getfield 7, 3) := by decide +kernel
theorem dX9_many_50 : decode cX9_many 50 = .ok (.bipush 11, 2) := by decide +kernel
theorem dX9_many_52 : decode cX9_many 52 = .ok (.iaload, 1) := by decide +kernel
theorem dX9_many_53 : decode cX9_many 53 = .ok (.if_icmp .le 7, 3) := by decide +kernel
theorem dX9_many_56 : decode cX9_many 56 = .ok (.iconst 1, 1) := by decide +kernel
theorem dX9_many_57 : decode cX9_many 57 = .ok (.goto 4, 3) := by decide +kernel
theorem dX9_many_60 : decode cX9_many 60 = .ok (.iconst 0, 1) := by decide +kernel
theorem dX9_many_61 : decode cX9_many 61 = .ok (.invokestatic 74, 3) := by decide +kernel
theorem dX9_many_64 : decode cX9_many 64 = .ok (.iadd, 1) := by decide +kernel
theorem dX9_many_65 : decode cX9_many 65 = .ok (.istore_n 2, 1) := by decide +kernel
theorem dX9_many_66 : decode cX9_many 66 = .ok (.iinc 3 1, 3) := by decide +kernel
theorem dX9_many_69 : decode cX9_many 69 = .ok (.goto (-65), 3) := by decide +kernel
theorem dX9_many_72 : decode cX9_many 72 = .ok (.iload_n 2, 1) := by decide +kernel
theorem dX9_many_73 : decode cX9_many 73 = .ok (.ireturn, 1) := by decide +kernel
theorem dX9_count_0 : decode cX9_count 0 = .ok (.iload_n 1, 1) := by decide +kernel
theorem dX9_count_1 : decode cX9_count 1 = .ok (.tableswitch 137 0 18 #[91, 91, 91, 98, 104, 111, 118, 118, 118, 137, 137, 137, 137, 137, 137, 137, 137, 127, 132], 91) := by decide +kernel
theorem dX9_count_92 : decode cX9_count 92 = .ok (.aload_n 0, 1) := by decide +kernel
theorem dX9_count_93 : decode cX9_count 93 = .ok (.getfield 7, 3) := by decide +kernel
theorem dX9_count_96 : decode cX9_count 96 = .ok (.iload_n 1, 1) := by decide +kernel
theorem dX9_count_97 : decode cX9_count 97 = .ok (.iaload, 1) := by decide +kernel
theorem dX9_count_98 : decode cX9_count 98 = .ok (.ireturn, 1) := by decide +kernel
theorem dX9_count_99 : decode cX9_count 99 = .ok (.aload_n 0, 1) := by decide +kernel
theorem dX9_count_100 : decode cX9_count 100 = .ok (.iconst 0, 1) := by decide +kernel
theorem dX9_count_101 : decode cX9_count 101 = .ok (.invokevirtual 45, 3) := by decide +kernel
theorem dX9_count_104 : decode cX9_count 104 = .ok (.ireturn, 1) := by decide +kernel
theorem dX9_count_105 : decode cX9_count 105 = .ok (.aload_n 0, 1) := by decide +kernel
theorem dX9_count_106 : decode cX9_count 106 = .ok (.getfield 7, 3) := by decide +kernel
theorem dX9_count_109 : decode cX9_count 109 = .ok (.iconst 3, 1) := by decide +kernel
theorem dX9_count_110 : decode cX9_count 110 = .ok (.iaload, 1) := by decide +kernel
theorem dX9_count_111 : decode cX9_count 111 = .ok (.ireturn, 1) := by decide +kernel
theorem dX9_count_112 : decode cX9_count 112 = .ok (.aload_n 0, 1) := by decide +kernel
theorem dX9_count_113 : decode cX9_count 113 = .ok (.getfield 7, 3) := by decide +kernel
theorem dX9_count_116 : decode cX9_count 116 = .ok (.iconst 4, 1) := by decide +kernel
theorem dX9_count_117 : decode cX9_count 117 = .ok (.iaload, 1) := by decide +kernel
theorem dX9_count_118 : decode cX9_count 118 = .ok (.ireturn, 1) := by decide +kernel
theorem dX9_count_119 : decode cX9_count 119 = .ok (.aload_n 0, 1) := by decide +kernel
theorem dX9_count_120 : decode cX9_count 120 = .ok (.iload_n 1, 1) := by decide +kernel
theorem dX9_count_121 : decode cX9_count 121 = .ok (.bipush 6, 2) := by decide +kernel
theorem dX9_count_123 : decode cX9_count 123 = .ok (.isub, 1) := by decide +kernel
theorem dX9_count_124 : decode cX9_count 124 = .ok (.invokevirtual 181, 3) := by decide +kernel
theorem dX9_count_127 : decode cX9_count 127 = .ok (.ireturn, 1) := by decide +kernel
theorem dX9_count_128 : decode cX9_count 128 = .ok (.aload_n 0, 1) := by decide +kernel
theorem dX9_count_129 : decode cX9_count 129 = .ok (.getfield 23, 3) := by decide +kernel
theorem dX9_count_132 : decode cX9_count 132 = .ok (.ireturn, 1) := by decide +kernel
theorem dX9_count_133 : decode cX9_count 133 = .ok (.aload_n 0, 1) := by decide +kernel
theorem dX9_count_134 : decode cX9_count 134 = .ok (.getfield 137, 3) := by decide +kernel
theorem dX9_count_137 : decode cX9_count 137 = .ok (.ireturn, 1) := by decide +kernel
theorem dX9_count_138 : decode cX9_count 138 = .ok (.iload_n 1, 1) := by decide +kernel
theorem dX9_count_139 : decode cX9_count 139 = .ok (.bipush 9, 2) := by decide +kernel
theorem dX9_count_141 : decode cX9_count 141 = .ok (.bipush 16, 2) := by decide +kernel
theorem dX9_count_143 : decode cX9_count 143 = .ok (.invokestatic 81, 3) := by decide +kernel
theorem dX9_count_146 : decode cX9_count 146 = .ok (.ifCond .eq 17, 3) := by decide +kernel
theorem dX9_count_149 : decode cX9_count 149 = .ok (.aload_n 0, 1) := by decide +kernel
theorem dX9_count_150 : decode cX9_count 150 = .ok (.getfield 7, 3) := by decide +kernel
theorem dX9_count_153 : decode cX9_count 153 = .ok (.iconst 5, 1) := by decide +kernel
theorem dX9_count_154 : decode cX9_count 154 = .ok (.iload_n 1, 1) := by decide +kernel
theorem dX9_count_155 : decode cX9_count 155 = .ok (.iadd, 1) := by decide +kernel
theorem dX9_count_156 : decode cX9_count 156 = .ok (.bipush 9, 2) := by decide +kernel
theorem dX9_count_158 : decode cX9_count 158 = .ok (.isub, 1) := by decide +kernel
theorem dX9_count_159 : decode cX9_count 159 = .ok (.iaload, 1) := by decide +kernel
theorem dX9_count_160 : decode cX9_count 160 = .ok (.goto 6, 3) := by decide +kernel
theorem dX9_count_163 : decode cX9_count 163 = .ok (.sipush (-1002), 3) := by decide +kernel
theorem dX9_count_166 : decode cX9_count 166 = .ok (.ireturn, 1) := by decide +kernel
theorem dL_law_0 : decode cL_law 0 = .ok (.new 7, 3) := by decide +kernel
theorem dL_law_3 : decode cL_law 3 = .ok (.dup, 1) := by decide +kernel
theorem dL_law_4 : decode cL_law 4 = .ok (.invokespecial 9, 3) := by decide +kernel
theorem dL_law_7 : decode cL_law 7 = .ok (.astore_n 1, 1) := by decide +kernel
theorem dL_law_8 : decode cL_law 8 = .ok (.new 10, 3) := by decide +kernel
theorem dL_law_11 : decode cL_law 11 = .ok (.dup, 1) := by decide +kernel
theorem dL_law_12 : decode cL_law 12 = .ok (.invokespecial 12, 3) := by decide +kernel
theorem dL_law_15 : decode cL_law 15 = .ok (.astore_n 2, 1) := by decide +kernel
theorem dL_law_16 : decode cL_law 16 = .ok (.iconst 0, 1) := by decide +kernel
theorem dL_law_17 : decode cL_law 17 = .ok (.istore_n 3, 1) := by decide +kernel
theorem dL_law_18 : decode cL_law 18 = .ok (.iload_n 3, 1) := by decide +kernel
theorem dL_law_19 : decode cL_law 19 = .ok (.aload_n 0, 1) := by decide +kernel
theorem dL_law_20 : decode cL_law 20 = .ok (.arraylength, 1) := by decide +kernel
theorem dL_law_21 : decode cL_law 21 = .ok (.iconst 4, 1) := by decide +kernel
theorem dL_law_22 : decode cL_law 22 = .ok (.isub, 1) := by decide +kernel
theorem dL_law_23 : decode cL_law 23 = .ok (.if_icmp .gt 730, 3) := by decide +kernel
theorem dL_law_26 : decode cL_law 26 = .ok (.aload_n 0, 1) := by decide +kernel
theorem dL_law_27 : decode cL_law 27 = .ok (.iload_n 3, 1) := by decide +kernel
theorem dL_law_28 : decode cL_law 28 = .ok (.iaload, 1) := by decide +kernel
theorem dL_law_29 : decode cL_law 29 = .ok (.bipush 31, 2) := by decide +kernel
theorem dL_law_31 : decode cL_law 31 = .ok (.iand, 1) := by decide +kernel
theorem dL_law_32 : decode cL_law 32 = .ok (.tableswitch 715 0 24 #[116, 139, 162, 201, 240, 263, 276, 299, 342, 375, 400, 413, 426, 449, 462, 475, 488, 521, 554, 587, 620, 643, 666, 679, 692], 116) := by decide +kernel
theorem dL_law_148 : decode cL_law 148 = .ok (.aload_n 1, 1) := by decide +kernel
theorem dL_law_149 : decode cL_law 149 = .ok (.aload_n 0, 1) := by decide +kernel
theorem dL_law_150 : decode cL_law 150 = .ok (.iload_n 3, 1) := by decide +kernel
theorem dL_law_151 : decode cL_law 151 = .ok (.iconst 1, 1) := by decide +kernel
theorem dL_law_152 : decode cL_law 152 = .ok (.iadd, 1) := by decide +kernel
theorem dL_law_153 : decode cL_law 153 = .ok (.iaload, 1) := by decide +kernel
theorem dL_law_154 : decode cL_law 154 = .ok (.invokevirtual 13, 3) := by decide +kernel
theorem dL_law_157 : decode cL_law 157 = .ok (.aload_n 2, 1) := by decide +kernel
theorem dL_law_158 : decode cL_law 158 = .ok (.aload_n 0, 1) := by decide +kernel
theorem dL_law_159 : decode cL_law 159 = .ok (.iload_n 3, 1) := by decide +kernel
theorem dL_law_160 : decode cL_law 160 = .ok (.iconst 1, 1) := by decide +kernel
theorem dL_law_161 : decode cL_law 161 = .ok (.iadd, 1) := by decide +kernel
theorem dL_law_162 : decode cL_law 162 = .ok (.iaload, 1) := by decide +kernel
theorem dL_law_163 : decode cL_law 163 = .ok (.invokevirtual 17, 3) := by decide +kernel
theorem dL_law_166 : decode cL_law 166 = .ok (.if_icmp .eq 581, 3) := by decide +kernel
theorem dL_law_169 : decode cL_law 169 = .ok (.iconst 0, 1) := by decide +kernel
theorem dL_law_170 : decode cL_law 170 = .ok (.ireturn, 1) := by decide +kernel
theorem dL_law_171 : decode cL_law 171 = .ok (.aload_n 1, 1) := by decide +kernel
theorem dL_law_172 : decode cL_law 172 = .ok (.aload_n 0, 1) := by decide +kernel
theorem dL_law_173 : decode cL_law 173 = .ok (.iload_n 3, 1) := by decide +kernel
theorem dL_law_174 : decode cL_law 174 = .ok (.iconst 1, 1) := by decide +kernel
theorem dL_law_175 : decode cL_law 175 = .ok (.iadd, 1) := by decide +kernel
theorem dL_law_176 : decode cL_law 176 = .ok (.iaload, 1) := by decide +kernel
theorem dL_law_177 : decode cL_law 177 = .ok (.invokevirtual 18, 3) := by decide +kernel
theorem dL_law_180 : decode cL_law 180 = .ok (.aload_n 2, 1) := by decide +kernel
theorem dL_law_181 : decode cL_law 181 = .ok (.aload_n 0, 1) := by decide +kernel
theorem dL_law_182 : decode cL_law 182 = .ok (.iload_n 3, 1) := by decide +kernel
theorem dL_law_183 : decode cL_law 183 = .ok (.iconst 1, 1) := by decide +kernel
theorem dL_law_184 : decode cL_law 184 = .ok (.iadd, 1) := by decide +kernel
theorem dL_law_185 : decode cL_law 185 = .ok (.iaload, 1) := by decide +kernel
theorem dL_law_186 : decode cL_law 186 = .ok (.invokevirtual 21, 3) := by decide +kernel
theorem dL_law_189 : decode cL_law 189 = .ok (.if_icmp .eq 558, 3) := by decide +kernel
theorem dL_law_192 : decode cL_law 192 = .ok (.iconst 0, 1) := by decide +kernel
theorem dL_law_193 : decode cL_law 193 = .ok (.ireturn, 1) := by decide +kernel
theorem dL_law_194 : decode cL_law 194 = .ok (.aload_n 1, 1) := by decide +kernel
theorem dL_law_195 : decode cL_law 195 = .ok (.aload_n 0, 1) := by decide +kernel
theorem dL_law_196 : decode cL_law 196 = .ok (.iload_n 3, 1) := by decide +kernel
theorem dL_law_197 : decode cL_law 197 = .ok (.iconst 1, 1) := by decide +kernel
theorem dL_law_198 : decode cL_law 198 = .ok (.iadd, 1) := by decide +kernel
theorem dL_law_199 : decode cL_law 199 = .ok (.iaload, 1) := by decide +kernel
theorem dL_law_200 : decode cL_law 200 = .ok (.ifCond .eq 7, 3) := by decide +kernel
theorem dL_law_203 : decode cL_law 203 = .ok (.iconst 1, 1) := by decide +kernel
theorem dL_law_204 : decode cL_law 204 = .ok (.goto 4, 3) := by decide +kernel
theorem dL_law_207 : decode cL_law 207 = .ok (.iconst 0, 1) := by decide +kernel
theorem dL_law_208 : decode cL_law 208 = .ok (.invokevirtual 22, 3) := by decide +kernel
theorem dL_law_211 : decode cL_law 211 = .ok (.aload_n 2, 1) := by decide +kernel
theorem dL_law_212 : decode cL_law 212 = .ok (.aload_n 0, 1) := by decide +kernel
theorem dL_law_213 : decode cL_law 213 = .ok (.iload_n 3, 1) := by decide +kernel
theorem dL_law_214 : decode cL_law 214 = .ok (.iconst 1, 1) := by decide +kernel
theorem dL_law_215 : decode cL_law 215 = .ok (.iadd, 1) := by decide +kernel
theorem dL_law_216 : decode cL_law 216 = .ok (.iaload, 1) := by decide +kernel
theorem dL_law_217 : decode cL_law 217 = .ok (.ifCond .eq 7, 3) := by decide +kernel
theorem dL_law_220 : decode cL_law 220 = .ok (.iconst 1, 1) := by decide +kernel
theorem dL_law_221 : decode cL_law 221 = .ok (.goto 4, 3) := by decide +kernel
theorem dL_law_224 : decode cL_law 224 = .ok (.iconst 0, 1) := by decide +kernel
theorem dL_law_225 : decode cL_law 225 = .ok (.invokevirtual 26, 3) := by decide +kernel
theorem dL_law_228 : decode cL_law 228 = .ok (.if_icmp .eq 519, 3) := by decide +kernel
theorem dL_law_231 : decode cL_law 231 = .ok (.iconst 0, 1) := by decide +kernel
theorem dL_law_232 : decode cL_law 232 = .ok (.ireturn, 1) := by decide +kernel
theorem dL_law_233 : decode cL_law 233 = .ok (.aload_n 1, 1) := by decide +kernel
theorem dL_law_234 : decode cL_law 234 = .ok (.aload_n 0, 1) := by decide +kernel
theorem dL_law_235 : decode cL_law 235 = .ok (.iload_n 3, 1) := by decide +kernel
theorem dL_law_236 : decode cL_law 236 = .ok (.iconst 1, 1) := by decide +kernel
theorem dL_law_237 : decode cL_law 237 = .ok (.iadd, 1) := by decide +kernel
theorem dL_law_238 : decode cL_law 238 = .ok (.iaload, 1) := by decide +kernel
theorem dL_law_239 : decode cL_law 239 = .ok (.ifCond .eq 7, 3) := by decide +kernel
theorem dL_law_242 : decode cL_law 242 = .ok (.iconst 1, 1) := by decide +kernel
theorem dL_law_243 : decode cL_law 243 = .ok (.goto 4, 3) := by decide +kernel
theorem dL_law_246 : decode cL_law 246 = .ok (.iconst 0, 1) := by decide +kernel
theorem dL_law_247 : decode cL_law 247 = .ok (.invokevirtual 27, 3) := by decide +kernel
theorem dL_law_250 : decode cL_law 250 = .ok (.aload_n 2, 1) := by decide +kernel
theorem dL_law_251 : decode cL_law 251 = .ok (.aload_n 0, 1) := by decide +kernel
theorem dL_law_252 : decode cL_law 252 = .ok (.iload_n 3, 1) := by decide +kernel
theorem dL_law_253 : decode cL_law 253 = .ok (.iconst 1, 1) := by decide +kernel
theorem dL_law_254 : decode cL_law 254 = .ok (.iadd, 1) := by decide +kernel
theorem dL_law_255 : decode cL_law 255 = .ok (.iaload, 1) := by decide +kernel
theorem dL_law_256 : decode cL_law 256 = .ok (.ifCond .eq 7, 3) := by decide +kernel
theorem dL_law_259 : decode cL_law 259 = .ok (.iconst 1, 1) := by decide +kernel
theorem dL_law_260 : decode cL_law 260 = .ok (.goto 4, 3) := by decide +kernel
theorem dL_law_263 : decode cL_law 263 = .ok (.iconst 0, 1) := by decide +kernel
theorem dL_law_264 : decode cL_law 264 = .ok (.invokevirtual 30, 3) := by decide +kernel
theorem dL_law_267 : decode cL_law 267 = .ok (.if_icmp .eq 480, 3) := by decide +kernel
theorem dL_law_270 : decode cL_law 270 = .ok (.iconst 0, 1) := by decide +kernel
theorem dL_law_271 : decode cL_law 271 = .ok (.ireturn, 1) := by decide +kernel
theorem dL_law_272 : decode cL_law 272 = .ok (.aload_n 1, 1) := by decide +kernel
theorem dL_law_273 : decode cL_law 273 = .ok (.aload_n 0, 1) := by decide +kernel
theorem dL_law_274 : decode cL_law 274 = .ok (.iload_n 3, 1) := by decide +kernel
theorem dL_law_275 : decode cL_law 275 = .ok (.iconst 1, 1) := by decide +kernel
theorem dL_law_276 : decode cL_law 276 = .ok (.iadd, 1) := by decide +kernel
theorem dL_law_277 : decode cL_law 277 = .ok (.iaload, 1) := by decide +kernel
theorem dL_law_278 : decode cL_law 278 = .ok (.invokevirtual 31, 3) := by decide +kernel
theorem dL_law_281 : decode cL_law 281 = .ok (.aload_n 2, 1) := by decide +kernel
theorem dL_law_282 : decode cL_law 282 = .ok (.aload_n 0, 1) := by decide +kernel
theorem dL_law_283 : decode cL_law 283 = .ok (.iload_n 3, 1) := by decide +kernel
theorem dL_law_284 : decode cL_law 284 = .ok (.iconst 1, 1) := by decide +kernel
theorem dL_law_285 : decode cL_law 285 = .ok (.iadd, 1) := by decide +kernel
theorem dL_law_286 : decode cL_law 286 = .ok (.iaload, 1) := by decide +kernel
theorem dL_law_287 : decode cL_law 287 = .ok (.invokevirtual 34, 3) := by decide +kernel
theorem dL_law_290 : decode cL_law 290 = .ok (.if_icmp .eq 457, 3) := by decide +kernel
theorem dL_law_293 : decode cL_law 293 = .ok (.iconst 0, 1) := by decide +kernel
theorem dL_law_294 : decode cL_law 294 = .ok (.ireturn, 1) := by decide +kernel
theorem dL_law_295 : decode cL_law 295 = .ok (.aload_n 1, 1) := by decide +kernel
theorem dL_law_296 : decode cL_law 296 = .ok (.invokevirtual 35, 3) := by decide +kernel
theorem dL_law_299 : decode cL_law 299 = .ok (.aload_n 2, 1) := by decide +kernel
theorem dL_law_300 : decode cL_law 300 = .ok (.invokevirtual 39, 3) := by decide +kernel
theorem dL_law_303 : decode cL_law 303 = .ok (.if_icmp .eq 444, 3) := by decide +kernel
theorem dL_law_306 : decode cL_law 306 = .ok (.iconst 0, 1) := by decide +kernel
theorem dL_law_307 : decode cL_law 307 = .ok (.ireturn, 1) := by decide +kernel
theorem dL_law_308 : decode cL_law 308 = .ok (.aload_n 1, 1) := by decide +kernel
theorem dL_law_309 : decode cL_law 309 = .ok (.aload_n 0, 1) := by decide +kernel
theorem dL_law_310 : decode cL_law 310 = .ok (.iload_n 3, 1) := by decide +kernel
theorem dL_law_311 : decode cL_law 311 = .ok (.iconst 1, 1) := by decide +kernel
theorem dL_law_312 : decode cL_law 312 = .ok (.iadd, 1) := by decide +kernel
theorem dL_law_313 : decode cL_law 313 = .ok (.iaload, 1) := by decide +kernel
theorem dL_law_314 : decode cL_law 314 = .ok (.invokevirtual 40, 3) := by decide +kernel
theorem dL_law_317 : decode cL_law 317 = .ok (.aload_n 2, 1) := by decide +kernel
theorem dL_law_318 : decode cL_law 318 = .ok (.aload_n 0, 1) := by decide +kernel
theorem dL_law_319 : decode cL_law 319 = .ok (.iload_n 3, 1) := by decide +kernel
theorem dL_law_320 : decode cL_law 320 = .ok (.iconst 1, 1) := by decide +kernel
theorem dL_law_321 : decode cL_law 321 = .ok (.iadd, 1) := by decide +kernel
theorem dL_law_322 : decode cL_law 322 = .ok (.iaload, 1) := by decide +kernel
theorem dL_law_323 : decode cL_law 323 = .ok (.invokevirtual 43, 3) := by decide +kernel
theorem dL_law_326 : decode cL_law 326 = .ok (.if_icmp .eq 421, 3) := by decide +kernel
theorem dL_law_329 : decode cL_law 329 = .ok (.iconst 0, 1) := by decide +kernel
theorem dL_law_330 : decode cL_law 330 = .ok (.ireturn, 1) := by decide +kernel
theorem dL_law_331 : decode cL_law 331 = .ok (.aload_n 1, 1) := by decide +kernel
theorem dL_law_332 : decode cL_law 332 = .ok (.aload_n 0, 1) := by decide +kernel
theorem dL_law_333 : decode cL_law 333 = .ok (.iload_n 3, 1) := by decide +kernel
theorem dL_law_334 : decode cL_law 334 = .ok (.iconst 1, 1) := by decide +kernel
theorem dL_law_335 : decode cL_law 335 = .ok (.iadd, 1) := by decide +kernel
theorem dL_law_336 : decode cL_law 336 = .ok (.iaload, 1) := by decide +kernel
theorem dL_law_337 : decode cL_law 337 = .ok (.aload_n 0, 1) := by decide +kernel
theorem dL_law_338 : decode cL_law 338 = .ok (.iload_n 3, 1) := by decide +kernel
theorem dL_law_339 : decode cL_law 339 = .ok (.iconst 2, 1) := by decide +kernel
theorem dL_law_340 : decode cL_law 340 = .ok (.iadd, 1) := by decide +kernel
theorem dL_law_341 : decode cL_law 341 = .ok (.iaload, 1) := by decide +kernel
theorem dL_law_342 : decode cL_law 342 = .ok (.aload_n 0, 1) := by decide +kernel
theorem dL_law_343 : decode cL_law 343 = .ok (.iload_n 3, 1) := by decide +kernel
theorem dL_law_344 : decode cL_law 344 = .ok (.iconst 3, 1) := by decide +kernel
theorem dL_law_345 : decode cL_law 345 = .ok (.iadd, 1) := by decide +kernel
theorem dL_law_346 : decode cL_law 346 = .ok (.iaload, 1) := by decide +kernel
theorem dL_law_347 : decode cL_law 347 = .ok (.invokevirtual 44, 3) := by decide +kernel
theorem dL_law_350 : decode cL_law 350 = .ok (.aload_n 2, 1) := by decide +kernel
theorem dL_law_351 : decode cL_law 351 = .ok (.aload_n 0, 1) := by decide +kernel
theorem dL_law_352 : decode cL_law 352 = .ok (.iload_n 3, 1) := by decide +kernel
theorem dL_law_353 : decode cL_law 353 = .ok (.iconst 1, 1) := by decide +kernel
theorem dL_law_354 : decode cL_law 354 = .ok (.iadd, 1) := by decide +kernel
theorem dL_law_355 : decode cL_law 355 = .ok (.iaload, 1) := by decide +kernel
theorem dL_law_356 : decode cL_law 356 = .ok (.aload_n 0, 1) := by decide +kernel
theorem dL_law_357 : decode cL_law 357 = .ok (.iload_n 3, 1) := by decide +kernel
theorem dL_law_358 : decode cL_law 358 = .ok (.iconst 2, 1) := by decide +kernel
theorem dL_law_359 : decode cL_law 359 = .ok (.iadd, 1) := by decide +kernel
theorem dL_law_360 : decode cL_law 360 = .ok (.iaload, 1) := by decide +kernel
theorem dL_law_361 : decode cL_law 361 = .ok (.aload_n 0, 1) := by decide +kernel
theorem dL_law_362 : decode cL_law 362 = .ok (.iload_n 3, 1) := by decide +kernel
theorem dL_law_363 : decode cL_law 363 = .ok (.iconst 3, 1) := by decide +kernel
theorem dL_law_364 : decode cL_law 364 = .ok (.iadd, 1) := by decide +kernel
theorem dL_law_365 : decode cL_law 365 = .ok (.iaload, 1) := by decide +kernel
theorem dL_law_366 : decode cL_law 366 = .ok (.invokevirtual 48, 3) := by decide +kernel
theorem dL_law_369 : decode cL_law 369 = .ok (.if_icmp .eq 378, 3) := by decide +kernel
theorem dL_law_372 : decode cL_law 372 = .ok (.iconst 0, 1) := by decide +kernel
theorem dL_law_373 : decode cL_law 373 = .ok (.ireturn, 1) := by decide +kernel
theorem dL_law_374 : decode cL_law 374 = .ok (.aload_n 1, 1) := by decide +kernel
theorem dL_law_375 : decode cL_law 375 = .ok (.aload_n 0, 1) := by decide +kernel
theorem dL_law_376 : decode cL_law 376 = .ok (.iload_n 3, 1) := by decide +kernel
theorem dL_law_377 : decode cL_law 377 = .ok (.iconst 1, 1) := by decide +kernel
theorem dL_law_378 : decode cL_law 378 = .ok (.iadd, 1) := by decide +kernel
theorem dL_law_379 : decode cL_law 379 = .ok (.iaload, 1) := by decide +kernel
theorem dL_law_380 : decode cL_law 380 = .ok (.aload_n 0, 1) := by decide +kernel
theorem dL_law_381 : decode cL_law 381 = .ok (.iload_n 3, 1) := by decide +kernel
theorem dL_law_382 : decode cL_law 382 = .ok (.iconst 2, 1) := by decide +kernel
theorem dL_law_383 : decode cL_law 383 = .ok (.iadd, 1) := by decide +kernel
theorem dL_law_384 : decode cL_law 384 = .ok (.iaload, 1) := by decide +kernel
theorem dL_law_385 : decode cL_law 385 = .ok (.invokevirtual 49, 3) := by decide +kernel
theorem dL_law_388 : decode cL_law 388 = .ok (.aload_n 2, 1) := by decide +kernel
theorem dL_law_389 : decode cL_law 389 = .ok (.aload_n 0, 1) := by decide +kernel
theorem dL_law_390 : decode cL_law 390 = .ok (.iload_n 3, 1) := by decide +kernel
theorem dL_law_391 : decode cL_law 391 = .ok (.iconst 1, 1) := by decide +kernel
theorem dL_law_392 : decode cL_law 392 = .ok (.iadd, 1) := by decide +kernel
theorem dL_law_393 : decode cL_law 393 = .ok (.iaload, 1) := by decide +kernel
theorem dL_law_394 : decode cL_law 394 = .ok (.aload_n 0, 1) := by decide +kernel
theorem dL_law_395 : decode cL_law 395 = .ok (.iload_n 3, 1) := by decide +kernel
theorem dL_law_396 : decode cL_law 396 = .ok (.iconst 2, 1) := by decide +kernel
theorem dL_law_397 : decode cL_law 397 = .ok (.iadd, 1) := by decide +kernel
theorem dL_law_398 : decode cL_law 398 = .ok (.iaload, 1) := by decide +kernel
theorem dL_law_399 : decode cL_law 399 = .ok (.invokevirtual 53, 3) := by decide +kernel
theorem dL_law_402 : decode cL_law 402 = .ok (.if_icmp .eq 345, 3) := by decide +kernel
theorem dL_law_405 : decode cL_law 405 = .ok (.iconst 0, 1) := by decide +kernel
theorem dL_law_406 : decode cL_law 406 = .ok (.ireturn, 1) := by decide +kernel
theorem dL_law_407 : decode cL_law 407 = .ok (.aload_n 1, 1) := by decide +kernel
theorem dL_law_408 : decode cL_law 408 = .ok (.aload_n 0, 1) := by decide +kernel
theorem dL_law_409 : decode cL_law 409 = .ok (.iload_n 3, 1) := by decide +kernel
theorem dL_law_410 : decode cL_law 410 = .ok (.iconst 1, 1) := by decide +kernel
theorem dL_law_411 : decode cL_law 411 = .ok (.iadd, 1) := by decide +kernel
theorem dL_law_412 : decode cL_law 412 = .ok (.iaload, 1) := by decide +kernel
theorem dL_law_413 : decode cL_law 413 = .ok (.i2c, 1) := by decide +kernel
theorem dL_law_414 : decode cL_law 414 = .ok (.invokevirtual 54, 3) := by decide +kernel
theorem dL_law_417 : decode cL_law 417 = .ok (.aload_n 2, 1) := by decide +kernel
theorem dL_law_418 : decode cL_law 418 = .ok (.aload_n 0, 1) := by decide +kernel
theorem dL_law_419 : decode cL_law 419 = .ok (.iload_n 3, 1) := by decide +kernel
theorem dL_law_420 : decode cL_law 420 = .ok (.iconst 1, 1) := by decide +kernel
theorem dL_law_421 : decode cL_law 421 = .ok (.iadd, 1) := by decide +kernel
theorem dL_law_422 : decode cL_law 422 = .ok (.iaload, 1) := by decide +kernel
theorem dL_law_423 : decode cL_law 423 = .ok (.i2c, 1) := by decide +kernel
theorem dL_law_424 : decode cL_law 424 = .ok (.invokevirtual 58, 3) := by decide +kernel
theorem dL_law_427 : decode cL_law 427 = .ok (.if_icmp .eq 320, 3) := by decide +kernel
theorem dL_law_430 : decode cL_law 430 = .ok (.iconst 0, 1) := by decide +kernel
theorem dL_law_431 : decode cL_law 431 = .ok (.ireturn, 1) := by decide +kernel
theorem dL_law_432 : decode cL_law 432 = .ok (.aload_n 1, 1) := by decide +kernel
theorem dL_law_433 : decode cL_law 433 = .ok (.invokevirtual 59, 3) := by decide +kernel
theorem dL_law_436 : decode cL_law 436 = .ok (.aload_n 2, 1) := by decide +kernel
theorem dL_law_437 : decode cL_law 437 = .ok (.invokevirtual 62, 3) := by decide +kernel
theorem dL_law_440 : decode cL_law 440 = .ok (.if_icmp .eq 307, 3) := by decide +kernel
theorem dL_law_443 : decode cL_law 443 = .ok (.iconst 0, 1) := by decide +kernel
theorem dL_law_444 : decode cL_law 444 = .ok (.ireturn, 1) := by decide +kernel
theorem dL_law_445 : decode cL_law 445 = .ok (.aload_n 1, 1) := by decide +kernel
theorem dL_law_446 : decode cL_law 446 = .ok (.invokevirtual 63, 3) := by decide +kernel
theorem dL_law_449 : decode cL_law 449 = .ok (.aload_n 2, 1) := by decide +kernel
theorem dL_law_450 : decode cL_law 450 = .ok (.invokevirtual 66, 3) := by decide +kernel
theorem dL_law_453 : decode cL_law 453 = .ok (.if_icmp .eq 294, 3) := by decide +kernel
theorem dL_law_456 : decode cL_law 456 = .ok (.iconst 0, 1) := by decide +kernel
theorem dL_law_457 : decode cL_law 457 = .ok (.ireturn, 1) := by decide +kernel
theorem dL_law_458 : decode cL_law 458 = .ok (.aload_n 1, 1) := by decide +kernel
theorem dL_law_459 : decode cL_law 459 = .ok (.aload_n 0, 1) := by decide +kernel
theorem dL_law_460 : decode cL_law 460 = .ok (.iload_n 3, 1) := by decide +kernel
theorem dL_law_461 : decode cL_law 461 = .ok (.iconst 1, 1) := by decide +kernel
theorem dL_law_462 : decode cL_law 462 = .ok (.iadd, 1) := by decide +kernel
theorem dL_law_463 : decode cL_law 463 = .ok (.iaload, 1) := by decide +kernel
theorem dL_law_464 : decode cL_law 464 = .ok (.invokevirtual 67, 3) := by decide +kernel
theorem dL_law_467 : decode cL_law 467 = .ok (.aload_n 2, 1) := by decide +kernel
theorem dL_law_468 : decode cL_law 468 = .ok (.aload_n 0, 1) := by decide +kernel
theorem dL_law_469 : decode cL_law 469 = .ok (.iload_n 3, 1) := by decide +kernel
theorem dL_law_470 : decode cL_law 470 = .ok (.iconst 1, 1) := by decide +kernel
theorem dL_law_471 : decode cL_law 471 = .ok (.iadd, 1) := by decide +kernel
theorem dL_law_472 : decode cL_law 472 = .ok (.iaload, 1) := by decide +kernel
theorem dL_law_473 : decode cL_law 473 = .ok (.invokevirtual 70, 3) := by decide +kernel
theorem dL_law_476 : decode cL_law 476 = .ok (.if_icmp .eq 271, 3) := by decide +kernel
theorem dL_law_479 : decode cL_law 479 = .ok (.iconst 0, 1) := by decide +kernel
theorem dL_law_480 : decode cL_law 480 = .ok (.ireturn, 1) := by decide +kernel
theorem dL_law_481 : decode cL_law 481 = .ok (.aload_n 1, 1) := by decide +kernel
theorem dL_law_482 : decode cL_law 482 = .ok (.invokevirtual 71, 3) := by decide +kernel
theorem dL_law_485 : decode cL_law 485 = .ok (.aload_n 2, 1) := by decide +kernel
theorem dL_law_486 : decode cL_law 486 = .ok (.invokevirtual 74, 3) := by decide +kernel
theorem dL_law_489 : decode cL_law 489 = .ok (.if_icmp .eq 258, 3) := by decide +kernel
theorem dL_law_492 : decode cL_law 492 = .ok (.iconst 0, 1) := by decide +kernel
theorem dL_law_493 : decode cL_law 493 = .ok (.ireturn, 1) := by decide +kernel
theorem dL_law_494 : decode cL_law 494 = .ok (.aload_n 1, 1) := by decide +kernel
theorem dL_law_495 : decode cL_law 495 = .ok (.invokevirtual 75, 3) := by decide +kernel
theorem dL_law_498 : decode cL_law 498 = .ok (.aload_n 2, 1) := by decide +kernel
theorem dL_law_499 : decode cL_law 499 = .ok (.invokevirtual 78, 3) := by decide +kernel
theorem dL_law_502 : decode cL_law 502 = .ok (.if_icmp .eq 245, 3) := by decide +kernel
theorem dL_law_505 : decode cL_law 505 = .ok (.iconst 0, 1) := by decide +kernel
theorem dL_law_506 : decode cL_law 506 = .ok (.ireturn, 1) := by decide +kernel
theorem dL_law_507 : decode cL_law 507 = .ok (.aload_n 1, 1) := by decide +kernel
theorem dL_law_508 : decode cL_law 508 = .ok (.invokevirtual 79, 3) := by decide +kernel
theorem dL_law_511 : decode cL_law 511 = .ok (.aload_n 2, 1) := by decide +kernel
theorem dL_law_512 : decode cL_law 512 = .ok (.invokevirtual 82, 3) := by decide +kernel
theorem dL_law_515 : decode cL_law 515 = .ok (.if_icmp .eq 232, 3) := by decide +kernel
theorem dL_law_518 : decode cL_law 518 = .ok (.iconst 0, 1) := by decide +kernel
theorem dL_law_519 : decode cL_law 519 = .ok (.ireturn, 1) := by decide +kernel
theorem dL_law_520 : decode cL_law 520 = .ok (.aload_n 1, 1) := by decide +kernel
theorem dL_law_521 : decode cL_law 521 = .ok (.aload_n 0, 1) := by decide +kernel
theorem dL_law_522 : decode cL_law 522 = .ok (.iload_n 3, 1) := by decide +kernel
theorem dL_law_523 : decode cL_law 523 = .ok (.iconst 1, 1) := by decide +kernel
theorem dL_law_524 : decode cL_law 524 = .ok (.iadd, 1) := by decide +kernel
theorem dL_law_525 : decode cL_law 525 = .ok (.iaload, 1) := by decide +kernel
theorem dL_law_526 : decode cL_law 526 = .ok (.aload_n 0, 1) := by decide +kernel
theorem dL_law_527 : decode cL_law 527 = .ok (.iload_n 3, 1) := by decide +kernel
theorem dL_law_528 : decode cL_law 528 = .ok (.iconst 2, 1) := by decide +kernel
theorem dL_law_529 : decode cL_law 529 = .ok (.iadd, 1) := by decide +kernel
theorem dL_law_530 : decode cL_law 530 = .ok (.iaload, 1) := by decide +kernel
theorem dL_law_531 : decode cL_law 531 = .ok (.invokevirtual 83, 3) := by decide +kernel
theorem dL_law_534 : decode cL_law 534 = .ok (.aload_n 2, 1) := by decide +kernel
theorem dL_law_535 : decode cL_law 535 = .ok (.aload_n 0, 1) := by decide +kernel
theorem dL_law_536 : decode cL_law 536 = .ok (.iload_n 3, 1) := by decide +kernel
theorem dL_law_537 : decode cL_law 537 = .ok (.iconst 1, 1) := by decide +kernel
theorem dL_law_538 : decode cL_law 538 = .ok (.iadd, 1) := by decide +kernel
theorem dL_law_539 : decode cL_law 539 = .ok (.iaload, 1) := by decide +kernel
theorem dL_law_540 : decode cL_law 540 = .ok (.aload_n 0, 1) := by decide +kernel
theorem dL_law_541 : decode cL_law 541 = .ok (.iload_n 3, 1) := by decide +kernel
theorem dL_law_542 : decode cL_law 542 = .ok (.iconst 2, 1) := by decide +kernel
theorem dL_law_543 : decode cL_law 543 = .ok (.iadd, 1) := by decide +kernel
theorem dL_law_544 : decode cL_law 544 = .ok (.iaload, 1) := by decide +kernel
theorem dL_law_545 : decode cL_law 545 = .ok (.invokevirtual 86, 3) := by decide +kernel
theorem dL_law_548 : decode cL_law 548 = .ok (.if_icmp .eq 199, 3) := by decide +kernel
theorem dL_law_551 : decode cL_law 551 = .ok (.iconst 0, 1) := by decide +kernel
theorem dL_law_552 : decode cL_law 552 = .ok (.ireturn, 1) := by decide +kernel
theorem dL_law_553 : decode cL_law 553 = .ok (.aload_n 1, 1) := by decide +kernel
theorem dL_law_554 : decode cL_law 554 = .ok (.aload_n 0, 1) := by decide +kernel
theorem dL_law_555 : decode cL_law 555 = .ok (.iload_n 3, 1) := by decide +kernel
theorem dL_law_556 : decode cL_law 556 = .ok (.iconst 1, 1) := by decide +kernel
theorem dL_law_557 : decode cL_law 557 = .ok (.iadd, 1) := by decide +kernel
theorem dL_law_558 : decode cL_law 558 = .ok (.iaload, 1) := by decide +kernel
theorem dL_law_559 : decode cL_law 559 = .ok (.aload_n 0, 1) := by decide +kernel
theorem dL_law_560 : decode cL_law 560 = .ok (.iload_n 3, 1) := by decide +kernel
theorem dL_law_561 : decode cL_law 561 = .ok (.iconst 2, 1) := by decide +kernel
theorem dL_law_562 : decode cL_law 562 = .ok (.iadd, 1) := by decide +kernel
theorem dL_law_563 : decode cL_law 563 = .ok (.iaload, 1) := by decide +kernel
theorem dL_law_564 : decode cL_law 564 = .ok (.invokevirtual 87, 3) := by decide +kernel
theorem dL_law_567 : decode cL_law 567 = .ok (.aload_n 2, 1) := by decide +kernel
theorem dL_law_568 : decode cL_law 568 = .ok (.aload_n 0, 1) := by decide +kernel
theorem dL_law_569 : decode cL_law 569 = .ok (.iload_n 3, 1) := by decide +kernel
theorem dL_law_570 : decode cL_law 570 = .ok (.iconst 1, 1) := by decide +kernel
theorem dL_law_571 : decode cL_law 571 = .ok (.iadd, 1) := by decide +kernel
theorem dL_law_572 : decode cL_law 572 = .ok (.iaload, 1) := by decide +kernel
theorem dL_law_573 : decode cL_law 573 = .ok (.aload_n 0, 1) := by decide +kernel
theorem dL_law_574 : decode cL_law 574 = .ok (.iload_n 3, 1) := by decide +kernel
theorem dL_law_575 : decode cL_law 575 = .ok (.iconst 2, 1) := by decide +kernel
theorem dL_law_576 : decode cL_law 576 = .ok (.iadd, 1) := by decide +kernel
theorem dL_law_577 : decode cL_law 577 = .ok (.iaload, 1) := by decide +kernel
theorem dL_law_578 : decode cL_law 578 = .ok (.invokevirtual 90, 3) := by decide +kernel
theorem dL_law_581 : decode cL_law 581 = .ok (.if_icmp .eq 166, 3) := by decide +kernel
theorem dL_law_584 : decode cL_law 584 = .ok (.iconst 0, 1) := by decide +kernel
theorem dL_law_585 : decode cL_law 585 = .ok (.ireturn, 1) := by decide +kernel
theorem dL_law_586 : decode cL_law 586 = .ok (.aload_n 1, 1) := by decide +kernel
theorem dL_law_587 : decode cL_law 587 = .ok (.aload_n 0, 1) := by decide +kernel
theorem dL_law_588 : decode cL_law 588 = .ok (.iload_n 3, 1) := by decide +kernel
theorem dL_law_589 : decode cL_law 589 = .ok (.iconst 1, 1) := by decide +kernel
theorem dL_law_590 : decode cL_law 590 = .ok (.iadd, 1) := by decide +kernel
theorem dL_law_591 : decode cL_law 591 = .ok (.iaload, 1) := by decide +kernel
theorem dL_law_592 : decode cL_law 592 = .ok (.aload_n 0, 1) := by decide +kernel
theorem dL_law_593 : decode cL_law 593 = .ok (.iload_n 3, 1) := by decide +kernel
theorem dL_law_594 : decode cL_law 594 = .ok (.iconst 2, 1) := by decide +kernel
theorem dL_law_595 : decode cL_law 595 = .ok (.iadd, 1) := by decide +kernel
theorem dL_law_596 : decode cL_law 596 = .ok (.iaload, 1) := by decide +kernel
theorem dL_law_597 : decode cL_law 597 = .ok (.invokevirtual 91, 3) := by decide +kernel
theorem dL_law_600 : decode cL_law 600 = .ok (.aload_n 2, 1) := by decide +kernel
theorem dL_law_601 : decode cL_law 601 = .ok (.aload_n 0, 1) := by decide +kernel
theorem dL_law_602 : decode cL_law 602 = .ok (.iload_n 3, 1) := by decide +kernel
theorem dL_law_603 : decode cL_law 603 = .ok (.iconst 1, 1) := by decide +kernel
theorem dL_law_604 : decode cL_law 604 = .ok (.iadd, 1) := by decide +kernel
theorem dL_law_605 : decode cL_law 605 = .ok (.iaload, 1) := by decide +kernel
theorem dL_law_606 : decode cL_law 606 = .ok (.aload_n 0, 1) := by decide +kernel
theorem dL_law_607 : decode cL_law 607 = .ok (.iload_n 3, 1) := by decide +kernel
theorem dL_law_608 : decode cL_law 608 = .ok (.iconst 2, 1) := by decide +kernel
theorem dL_law_609 : decode cL_law 609 = .ok (.iadd, 1) := by decide +kernel
theorem dL_law_610 : decode cL_law 610 = .ok (.iaload, 1) := by decide +kernel
theorem dL_law_611 : decode cL_law 611 = .ok (.invokevirtual 94, 3) := by decide +kernel
theorem dL_law_614 : decode cL_law 614 = .ok (.if_icmp .eq 133, 3) := by decide +kernel
theorem dL_law_617 : decode cL_law 617 = .ok (.iconst 0, 1) := by decide +kernel
theorem dL_law_618 : decode cL_law 618 = .ok (.ireturn, 1) := by decide +kernel
theorem dL_law_619 : decode cL_law 619 = .ok (.aload_n 1, 1) := by decide +kernel
theorem dL_law_620 : decode cL_law 620 = .ok (.aload_n 0, 1) := by decide +kernel
theorem dL_law_621 : decode cL_law 621 = .ok (.iload_n 3, 1) := by decide +kernel
theorem dL_law_622 : decode cL_law 622 = .ok (.iconst 1, 1) := by decide +kernel
theorem dL_law_623 : decode cL_law 623 = .ok (.iadd, 1) := by decide +kernel
theorem dL_law_624 : decode cL_law 624 = .ok (.iaload, 1) := by decide +kernel
theorem dL_law_625 : decode cL_law 625 = .ok (.aload_n 0, 1) := by decide +kernel
theorem dL_law_626 : decode cL_law 626 = .ok (.iload_n 3, 1) := by decide +kernel
theorem dL_law_627 : decode cL_law 627 = .ok (.iconst 2, 1) := by decide +kernel
theorem dL_law_628 : decode cL_law 628 = .ok (.iadd, 1) := by decide +kernel
theorem dL_law_629 : decode cL_law 629 = .ok (.iaload, 1) := by decide +kernel
theorem dL_law_630 : decode cL_law 630 = .ok (.invokevirtual 95, 3) := by decide +kernel
theorem dL_law_633 : decode cL_law 633 = .ok (.aload_n 2, 1) := by decide +kernel
theorem dL_law_634 : decode cL_law 634 = .ok (.aload_n 0, 1) := by decide +kernel
theorem dL_law_635 : decode cL_law 635 = .ok (.iload_n 3, 1) := by decide +kernel
theorem dL_law_636 : decode cL_law 636 = .ok (.iconst 1, 1) := by decide +kernel
theorem dL_law_637 : decode cL_law 637 = .ok (.iadd, 1) := by decide +kernel
theorem dL_law_638 : decode cL_law 638 = .ok (.iaload, 1) := by decide +kernel
theorem dL_law_639 : decode cL_law 639 = .ok (.aload_n 0, 1) := by decide +kernel
theorem dL_law_640 : decode cL_law 640 = .ok (.iload_n 3, 1) := by decide +kernel
theorem dL_law_641 : decode cL_law 641 = .ok (.iconst 2, 1) := by decide +kernel
theorem dL_law_642 : decode cL_law 642 = .ok (.iadd, 1) := by decide +kernel
theorem dL_law_643 : decode cL_law 643 = .ok (.iaload, 1) := by decide +kernel
theorem dL_law_644 : decode cL_law 644 = .ok (.invokevirtual 98, 3) := by decide +kernel
theorem dL_law_647 : decode cL_law 647 = .ok (.if_icmp .eq 100, 3) := by decide +kernel
theorem dL_law_650 : decode cL_law 650 = .ok (.iconst 0, 1) := by decide +kernel
theorem dL_law_651 : decode cL_law 651 = .ok (.ireturn, 1) := by decide +kernel
theorem dL_law_652 : decode cL_law 652 = .ok (.aload_n 1, 1) := by decide +kernel
theorem dL_law_653 : decode cL_law 653 = .ok (.aload_n 0, 1) := by decide +kernel
theorem dL_law_654 : decode cL_law 654 = .ok (.iload_n 3, 1) := by decide +kernel
theorem dL_law_655 : decode cL_law 655 = .ok (.iconst 1, 1) := by decide +kernel
theorem dL_law_656 : decode cL_law 656 = .ok (.iadd, 1) := by decide +kernel
theorem dL_law_657 : decode cL_law 657 = .ok (.iaload, 1) := by decide +kernel
theorem dL_law_658 : decode cL_law 658 = .ok (.invokevirtual 99, 3) := by decide +kernel
theorem dL_law_661 : decode cL_law 661 = .ok (.aload_n 2, 1) := by decide +kernel
theorem dL_law_662 : decode cL_law 662 = .ok (.aload_n 0, 1) := by decide +kernel
theorem dL_law_663 : decode cL_law 663 = .ok (.iload_n 3, 1) := by decide +kernel
theorem dL_law_664 : decode cL_law 664 = .ok (.iconst 1, 1) := by decide +kernel
theorem dL_law_665 : decode cL_law 665 = .ok (.iadd, 1) := by decide +kernel
theorem dL_law_666 : decode cL_law 666 = .ok (.iaload, 1) := by decide +kernel
theorem dL_law_667 : decode cL_law 667 = .ok (.invokevirtual 102, 3) := by decide +kernel
theorem dL_law_670 : decode cL_law 670 = .ok (.if_icmp .eq 77, 3) := by decide +kernel
theorem dL_law_673 : decode cL_law 673 = .ok (.iconst 0, 1) := by decide +kernel
theorem dL_law_674 : decode cL_law 674 = .ok (.ireturn, 1) := by decide +kernel
theorem dL_law_675 : decode cL_law 675 = .ok (.aload_n 1, 1) := by decide +kernel
theorem dL_law_676 : decode cL_law 676 = .ok (.aload_n 0, 1) := by decide +kernel
theorem dL_law_677 : decode cL_law 677 = .ok (.iload_n 3, 1) := by decide +kernel
theorem dL_law_678 : decode cL_law 678 = .ok (.iconst 1, 1) := by decide +kernel
theorem dL_law_679 : decode cL_law 679 = .ok (.iadd, 1) := by decide +kernel
theorem dL_law_680 : decode cL_law 680 = .ok (.iaload, 1) := by decide +kernel
theorem dL_law_681 : decode cL_law 681 = .ok (.invokevirtual 103, 3) := by decide +kernel
theorem dL_law_684 : decode cL_law 684 = .ok (.aload_n 2, 1) := by decide +kernel
theorem dL_law_685 : decode cL_law 685 = .ok (.aload_n 0, 1) := by decide +kernel
theorem dL_law_686 : decode cL_law 686 = .ok (.iload_n 3, 1) := by decide +kernel
theorem dL_law_687 : decode cL_law 687 = .ok (.iconst 1, 1) := by decide +kernel
theorem dL_law_688 : decode cL_law 688 = .ok (.iadd, 1) := by decide +kernel
theorem dL_law_689 : decode cL_law 689 = .ok (.iaload, 1) := by decide +kernel
theorem dL_law_690 : decode cL_law 690 = .ok (.invokevirtual 106, 3) := by decide +kernel
theorem dL_law_693 : decode cL_law 693 = .ok (.if_icmp .eq 54, 3) := by decide +kernel
theorem dL_law_696 : decode cL_law 696 = .ok (.iconst 0, 1) := by decide +kernel
theorem dL_law_697 : decode cL_law 697 = .ok (.ireturn, 1) := by decide +kernel
theorem dL_law_698 : decode cL_law 698 = .ok (.aload_n 1, 1) := by decide +kernel
theorem dL_law_699 : decode cL_law 699 = .ok (.invokevirtual 107, 3) := by decide +kernel
theorem dL_law_702 : decode cL_law 702 = .ok (.aload_n 2, 1) := by decide +kernel
theorem dL_law_703 : decode cL_law 703 = .ok (.invokevirtual 110, 3) := by decide +kernel
theorem dL_law_706 : decode cL_law 706 = .ok (.if_icmp .eq 41, 3) := by decide +kernel
theorem dL_law_709 : decode cL_law 709 = .ok (.iconst 0, 1) := by decide +kernel
theorem dL_law_710 : decode cL_law 710 = .ok (.ireturn, 1) := by decide +kernel
theorem dL_law_711 : decode cL_law 711 = .ok (.aload_n 1, 1) := by decide +kernel
theorem dL_law_712 : decode cL_law 712 = .ok (.invokevirtual 111, 3) := by decide +kernel
theorem dL_law_715 : decode cL_law 715 = .ok (.aload_n 2, 1) := by decide +kernel
theorem dL_law_716 : decode cL_law 716 = .ok (.invokevirtual 114, 3) := by decide +kernel
theorem dL_law_719 : decode cL_law 719 = .ok (.if_icmp .eq 28, 3) := by decide +kernel
theorem dL_law_722 : decode cL_law 722 = .ok (.iconst 0, 1) := by decide +kernel
theorem dL_law_723 : decode cL_law 723 = .ok (.ireturn, 1) := by decide +kernel
theorem dL_law_724 : decode cL_law 724 = .ok (.aload_n 1, 1) := by decide +kernel
theorem dL_law_725 : decode cL_law 725 = .ok (.aload_n 0, 1) := by decide +kernel
theorem dL_law_726 : decode cL_law 726 = .ok (.iload_n 3, 1) := by decide +kernel
theorem dL_law_727 : decode cL_law 727 = .ok (.iconst 1, 1) := by decide +kernel
theorem dL_law_728 : decode cL_law 728 = .ok (.iadd, 1) := by decide +kernel
theorem dL_law_729 : decode cL_law 729 = .ok (.iaload, 1) := by decide +kernel
theorem dL_law_730 : decode cL_law 730 = .ok (.invokevirtual 115, 3) := by decide +kernel
theorem dL_law_733 : decode cL_law 733 = .ok (.aload_n 2, 1) := by decide +kernel
theorem dL_law_734 : decode cL_law 734 = .ok (.aload_n 0, 1) := by decide +kernel
theorem dL_law_735 : decode cL_law 735 = .ok (.iload_n 3, 1) := by decide +kernel
theorem dL_law_736 : decode cL_law 736 = .ok (.iconst 1, 1) := by decide +kernel
theorem dL_law_737 : decode cL_law 737 = .ok (.iadd, 1) := by decide +kernel
theorem dL_law_738 : decode cL_law 738 = .ok (.iaload, 1) := by decide +kernel
theorem dL_law_739 : decode cL_law 739 = .ok (.invokevirtual 118, 3) := by decide +kernel
theorem dL_law_742 : decode cL_law 742 = .ok (.if_icmp .eq 5, 3) := by decide +kernel
theorem dL_law_745 : decode cL_law 745 = .ok (.iconst 0, 1) := by decide +kernel
theorem dL_law_746 : decode cL_law 746 = .ok (.ireturn, 1) := by decide +kernel
theorem dL_law_747 : decode cL_law 747 = .ok (.iinc 3 4, 3) := by decide +kernel
theorem dL_law_750 : decode cL_law 750 = .ok (.goto (-732), 3) := by decide +kernel
theorem dL_law_753 : decode cL_law 753 = .ok (.iconst 1, 1) := by decide +kernel
theorem dL_law_754 : decode cL_law 754 = .ok (.ireturn, 1) := by decide +kernel
