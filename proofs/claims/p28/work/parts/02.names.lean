-- names and decode rows, as claim/NAMES.whole.lean.txt prints them (picked by wip/p28/gen/gen_names.py)
def RX0 : String := "MessengerCasts$Bottle"
def TX0 : u_T := fun k => match k with
  | 0 => ("MessengerCasts$Bottle", "mark", "I", false)
  | 1 => ("MessengerCasts$Bottle", "hasMessenger", "Z", false)
  | 2 => ("MessengerCasts$Bottle", "struck", "I", false)
  | 3 => ("MessengerCasts$Bottle", "isShut", "Z", false)
  | 4 => ("MessengerCasts$Bottle", "isJerked", "Z", false)
  | 5 => ("MessengerCasts$Bottle", "shutSecond", "I", false)
  | 6 => ("MessengerCasts$Bottle", "shutMetre", "I", false)
  | 7 => ("MessengerCasts$Bottle", "shutLayer", "I", false)
  | 8 => ("MessengerCasts$Bottle", "guarded", "I", false)
  | 9 => ("MessengerCasts$Bottle", "bare", "I", false)
  | _ => ("MessengerCasts$Bottle", "salt", "I", false)
def tyX0 : Nat → FieldType := fun k => match k with
  | 0 => .int
  | 1 => .boolean
  | 2 => .int
  | 3 => .boolean
  | 4 => .boolean
  | 5 => .int
  | 6 => .int
  | 7 => .int
  | 8 => .int
  | 9 => .int
  | _ => .int
abbrev wsX00 : List Cond := u_ws RX0 TX0 11
theorem nmX0 : ∀ a, a < 11 → ∀ b, b < 11 → a ≠ b → (TX0 a).2.1 ≠ (TX0 b).2.1 := by decide +kernel
theorem tyX0_ok : ∀ k, k < 11 → parseFieldDescriptor (TX0 k).2.2.1 = some (tyX0 k) := by decide +kernel
abbrev cX0_init : ByteArray := prog_2_method_1_code
def yX0_init : MethodName := ⟨RX0, "<init>", "()V"⟩
abbrev cX0_clampAt : ByteArray := prog_2_method_2_code
def yX0_clampAt : MethodName := ⟨RX0, "clampAt", "(IZ)V"⟩
abbrev cX0_copyFrom : ByteArray := prog_2_method_3_code
def yX0_copyFrom : MethodName := ⟨RX0, "copyFrom", "(LMessengerCasts$Bottle;)V"⟩
abbrev cX0_depthByPair : ByteArray := prog_2_method_4_code
def yX0_depthByPair : MethodName := ⟨RX0, "depthByPair", "()I"⟩
abbrev cX0_difference : ByteArray := prog_2_method_5_code
def yX0_difference : MethodName := ⟨RX0, "difference", "()I"⟩
def RX1 : String := "MessengerCasts$Cable"
def TX1 : u_T := fun k => match k with
  | 0 => ("MessengerCasts$Cable", "paid", "I", false)
  | 1 => ("MessengerCasts$Cable", "slope", "I", false)
  | _ => ("MessengerCasts$Cable", "isWeightLost", "Z", false)
def tyX1 : Nat → FieldType := fun k => match k with
  | 0 => .int
  | 1 => .int
  | _ => .boolean
abbrev wsX10 : List Cond := u_ws RX1 TX1 3
theorem nmX1 : ∀ a, a < 3 → ∀ b, b < 3 → a ≠ b → (TX1 a).2.1 ≠ (TX1 b).2.1 := by decide +kernel
theorem tyX1_ok : ∀ k, k < 3 → parseFieldDescriptor (TX1 k).2.2.1 = some (tyX1 k) := by decide +kernel
abbrev cX1_init : ByteArray := prog_3_method_1_code
def yX1_init : MethodName := ⟨RX1, "<init>", "()V"⟩
abbrev cX1_copyFrom : ByteArray := prog_3_method_2_code
def yX1_copyFrom : MethodName := ⟨RX1, "copyFrom", "(LMessengerCasts$Cable;)V"⟩
abbrev cX1_countedSlope : ByteArray := prog_3_method_3_code
def yX1_countedSlope : MethodName := ⟨RX1, "countedSlope", "()I"⟩
abbrev cX1_isSticking : ByteArray := prog_3_method_4_code
def yX1_isSticking : MethodName := ⟨RX1, "isSticking", "()Z"⟩
abbrev cX1_step : ByteArray := prog_3_method_5_code
def yX1_step : MethodName := ⟨RX1, "step", "()I"⟩
abbrev cX1_isInWater : ByteArray := prog_3_method_6_code
def yX1_isInWater : MethodName := ⟨RX1, "isInWater", "(I)Z"⟩
abbrev cX1_metreOf : ByteArray := prog_3_method_7_code
def yX1_metreOf : MethodName := ⟨RX1, "metreOf", "(I)I"⟩
abbrev cX1_depthOf : ByteArray := prog_3_method_8_code
def yX1_depthOf : MethodName := ⟨RX1, "depthOf", "(I)I"⟩
def RX2 : String := "MessengerCasts$Cast"
def TX2 : u_T := fun k => match k with
  | 0 => ("MessengerCasts$Cast", "kinds", "[C", true)
  | 1 => ("MessengerCasts$Cast", "numbers", "[I", true)
  | 2 => ("MessengerCasts$Cast", "things", "I", false)
  | _ => ("MessengerCasts$Cast", "place", "I", false)
def tyX2 : Nat → FieldType := fun k => match k with
  | 0 => .array .char
  | 1 => .array .int
  | 2 => .int
  | _ => .int
abbrev wsX20 : List Cond := u_ws RX2 TX2 4
theorem nmX2 : ∀ a, a < 4 → ∀ b, b < 4 → a ≠ b → (TX2 a).2.1 ≠ (TX2 b).2.1 := by decide +kernel
theorem tyX2_ok : ∀ k, k < 4 → parseFieldDescriptor (TX2 k).2.2.1 = some (tyX2 k) := by decide +kernel
abbrev cX2_init : ByteArray := prog_4_method_1_code
def yX2_init : MethodName := ⟨RX2, "<init>", "()V"⟩
def RX3 : String := "MessengerCasts$History"
def TX3 : u_T := fun k => match k with
  | 0 => ("MessengerCasts$History", "rows", "[LMessengerCasts$State;", true)
  | _ => ("MessengerCasts$History", "states", "I", false)
def tyX3 : Nat → FieldType := fun k => match k with
  | 0 => .array (.object "MessengerCasts$State")
  | _ => .int
abbrev wsX30 : List Cond := u_ws RX3 TX3 2
theorem nmX3 : ∀ a, a < 2 → ∀ b, b < 2 → a ≠ b → (TX3 a).2.1 ≠ (TX3 b).2.1 := by decide +kernel
theorem tyX3_ok : ∀ k, k < 2 → parseFieldDescriptor (TX3 k).2.2.1 = some (tyX3 k) := by decide +kernel
abbrev cX3_init : ByteArray := prog_5_method_1_code
def yX3_init : MethodName := ⟨RX3, "<init>", "()V"⟩
abbrev cX3_add : ByteArray := prog_5_method_2_code
def yX3_add : MethodName := ⟨RX3, "add", "(LMessengerCasts$State;)V"⟩
abbrev cX3_dropOldest : ByteArray := prog_5_method_3_code
def yX3_dropOldest : MethodName := ⟨RX3, "dropOldest", "()V"⟩
abbrev cX3_takeLatest : ByteArray := prog_5_method_4_code
def yX3_takeLatest : MethodName := ⟨RX3, "takeLatest", "(LMessengerCasts$State;)Z"⟩
def RX4 : String := "MessengerCasts$Messengers"
def TX4 : u_T := fun k => match k with
  | 0 => ("MessengerCasts$Messengers", "marks", "[I", true)
  | 1 => ("MessengerCasts$Messengers", "onWay", "I", false)
  | 2 => ("MessengerCasts$Messengers", "letGo", "I", false)
  | 3 => ("MessengerCasts$Messengers", "letLoose", "I", false)
  | 4 => ("MessengerCasts$Messengers", "stoppedAtBottles", "I", false)
  | 5 => ("MessengerCasts$Messengers", "gone", "I", false)
  | _ => ("MessengerCasts$Messengers", "takenBack", "I", false)
def tyX4 : Nat → FieldType := fun k => match k with
  | 0 => .array .int
  | 1 => .int
  | 2 => .int
  | 3 => .int
  | 4 => .int
  | 5 => .int
  | _ => .int
abbrev wsX40 : List Cond := u_ws RX4 TX4 7
theorem nmX4 : ∀ a, a < 7 → ∀ b, b < 7 → a ≠ b → (TX4 a).2.1 ≠ (TX4 b).2.1 := by decide +kernel
theorem tyX4_ok : ∀ k, k < 7 → parseFieldDescriptor (TX4 k).2.2.1 = some (tyX4 k) := by decide +kernel
abbrev cX4_init : ByteArray := prog_6_method_1_code
def yX4_init : MethodName := ⟨RX4, "<init>", "()V"⟩
abbrev cX4_copyFrom : ByteArray := prog_6_method_2_code
def yX4_copyFrom : MethodName := ⟨RX4, "copyFrom", "(LMessengerCasts$Messengers;)V"⟩
abbrev cX4_markAt : ByteArray := prog_6_method_3_code
def yX4_markAt : MethodName := ⟨RX4, "markAt", "(I)I"⟩
abbrev cX4_put : ByteArray := prog_6_method_4_code
def yX4_put : MethodName := ⟨RX4, "put", "(II)V"⟩
abbrev cX4_isAnyAbove : ByteArray := prog_6_method_5_code
def yX4_isAnyAbove : MethodName := ⟨RX4, "isAnyAbove", "(I)Z"⟩
abbrev cX4_takeBackAbove : ByteArray := prog_6_method_6_code
def yX4_takeBackAbove : MethodName := ⟨RX4, "takeBackAbove", "(I)I"⟩
abbrev cX4_sinkAll : ByteArray := prog_6_method_7_code
def yX4_sinkAll : MethodName := ⟨RX4, "sinkAll", "(I)V"⟩
def RX5 : String := "MessengerCasts$State"
def TX5 : u_T := fun k => match k with
  | 0 => ("MessengerCasts$State", "cable", "LMessengerCasts$Cable;", true)
  | 1 => ("MessengerCasts$State", "water", "LMessengerCasts$Water;", true)
  | 2 => ("MessengerCasts$State", "messengers", "LMessengerCasts$Messengers;", true)
  | 3 => ("MessengerCasts$State", "bottles", "[LMessengerCasts$Bottle;", true)
  | 4 => ("MessengerCasts$State", "bottleCount", "I", false)
  | 5 => ("MessengerCasts$State", "second", "I", false)
  | 6 => ("MessengerCasts$State", "doubtFrom", "I", false)
  | _ => ("MessengerCasts$State", "jerkFrom", "I", false)
def tyX5 : Nat → FieldType := fun k => match k with
  | 0 => .object "MessengerCasts$Cable"
  | 1 => .object "MessengerCasts$Water"
  | 2 => .object "MessengerCasts$Messengers"
  | 3 => .array (.object "MessengerCasts$Bottle")
  | 4 => .int
  | 5 => .int
  | 6 => .int
  | _ => .int
abbrev wsX50 : List Cond := u_ws RX5 TX5 8
theorem nmX5 : ∀ a, a < 8 → ∀ b, b < 8 → a ≠ b → (TX5 a).2.1 ≠ (TX5 b).2.1 := by decide +kernel
theorem tyX5_ok : ∀ k, k < 8 → parseFieldDescriptor (TX5 k).2.2.1 = some (tyX5 k) := by decide +kernel
abbrev cX5_init : ByteArray := prog_7_method_1_code
def yX5_init : MethodName := ⟨RX5, "<init>", "()V"⟩
abbrev cX5_copyFrom : ByteArray := prog_7_method_2_code
def yX5_copyFrom : MethodName := ⟨RX5, "copyFrom", "(LMessengerCasts$State;)V"⟩
abbrev cX5_bottleAt : ByteArray := prog_7_method_3_code
def yX5_bottleAt : MethodName := ⟨RX5, "bottleAt", "(I)LMessengerCasts$Bottle;"⟩
abbrev cX5_payOut : ByteArray := prog_7_method_4_code
def yX5_payOut : MethodName := ⟨RX5, "payOut", "(I)I"⟩
abbrev cX5_changeSlope : ByteArray := prog_7_method_5_code
def yX5_changeSlope : MethodName := ⟨RX5, "changeSlope", "(I)I"⟩
abbrev cX5_changeWeight : ByteArray := prog_7_method_6_code
def yX5_changeWeight : MethodName := ⟨RX5, "changeWeight", "(Z)I"⟩
abbrev cX5_addBottle : ByteArray := prog_7_method_7_code
def yX5_addBottle : MethodName := ⟨RX5, "addBottle", "(Z)I"⟩
abbrev cX5_removeBottle : ByteArray := prog_7_method_8_code
def yX5_removeBottle : MethodName := ⟨RX5, "removeBottle", "(I)I"⟩
abbrev cX5_letGo : ByteArray := prog_7_method_9_code
def yX5_letGo : MethodName := ⟨RX5, "letGo", "()I"⟩
abbrev cX5_letPass : ByteArray := prog_7_method_10_code
def yX5_letPass : MethodName := ⟨RX5, "letPass", "(I)I"⟩
abbrev cX5_changeSetting : ByteArray := prog_7_method_11_code
def yX5_changeSetting : MethodName := ⟨RX5, "changeSetting", "(II)I"⟩
abbrev cX5_insertBottle : ByteArray := prog_7_method_12_code
def yX5_insertBottle : MethodName := ⟨RX5, "insertBottle", "(IZ)V"⟩
abbrev cX5_jerk : ByteArray := prog_7_method_13_code
def yX5_jerk : MethodName := ⟨RX5, "jerk", "()V"⟩
abbrev cX5_shut : ByteArray := prog_7_method_14_code
def yX5_shut : MethodName := ⟨RX5, "shut", "(LMessengerCasts$Bottle;)V"⟩
abbrev cX5_skipQuietSeconds : ByteArray := prog_7_method_15_code
def yX5_skipQuietSeconds : MethodName := ⟨RX5, "skipQuietSeconds", "(I)V"⟩
abbrev cX5_secondsOnWay : ByteArray := prog_7_method_16_code
def yX5_secondsOnWay : MethodName := ⟨RX5, "secondsOnWay", "(I)I"⟩
abbrev cX5_passOneSecond : ByteArray := prog_7_method_17_code
def yX5_passOneSecond : MethodName := ⟨RX5, "passOneSecond", "()V"⟩
abbrev cX5_firstBottleBetween : ByteArray := prog_7_method_18_code
def yX5_firstBottleBetween : MethodName := ⟨RX5, "firstBottleBetween", "(II)LMessengerCasts$Bottle;"⟩
abbrev cX5_strike : ByteArray := prog_7_method_19_code
def yX5_strike : MethodName := ⟨RX5, "strike", "(LMessengerCasts$Bottle;)Z"⟩
abbrev cX5_runUntilShut : ByteArray := prog_7_method_20_code
def yX5_runUntilShut : MethodName := ⟨RX5, "runUntilShut", "(I)I"⟩
abbrev cX5_runUntilQuiet : ByteArray := prog_7_method_21_code
def yX5_runUntilQuiet : MethodName := ⟨RX5, "runUntilQuiet", "()I"⟩
abbrev cX5_isDoubtful : ByteArray := prog_7_method_22_code
def yX5_isDoubtful : MethodName := ⟨RX5, "isDoubtful", "(LMessengerCasts$Bottle;)Z"⟩
abbrev cX5_bottlesInWater : ByteArray := prog_7_method_23_code
def yX5_bottlesInWater : MethodName := ⟨RX5, "bottlesInWater", "()I"⟩
abbrev cX5_shutBottles : ByteArray := prog_7_method_24_code
def yX5_shutBottles : MethodName := ⟨RX5, "shutBottles", "()I"⟩
abbrev cX5_doubtfulBottles : ByteArray := prog_7_method_25_code
def yX5_doubtfulBottles : MethodName := ⟨RX5, "doubtfulBottles", "()I"⟩
abbrev cX5_openInLayer : ByteArray := prog_7_method_26_code
def yX5_openInLayer : MethodName := ⟨RX5, "openInLayer", "(I)I"⟩
abbrev cX5_shutInLayer : ByteArray := prog_7_method_27_code
def yX5_shutInLayer : MethodName := ⟨RX5, "shutInLayer", "(I)I"⟩
def RX6 : String := "MessengerCasts$Text"
def TX6 : u_T := fun k => match k with
  | 0 => ("MessengerCasts$Text", "characters", "[C", true)
  | _ => ("MessengerCasts$Text", "length", "I", false)
def tyX6 : Nat → FieldType := fun k => match k with
  | 0 => .array .char
  | _ => .int
abbrev wsX60 : List Cond := u_ws RX6 TX6 2
theorem nmX6 : ∀ a, a < 2 → ∀ b, b < 2 → a ≠ b → (TX6 a).2.1 ≠ (TX6 b).2.1 := by decide +kernel
theorem tyX6_ok : ∀ k, k < 2 → parseFieldDescriptor (TX6 k).2.2.1 = some (tyX6 k) := by decide +kernel
abbrev cX6_init : ByteArray := prog_8_method_1_code
def yX6_init : MethodName := ⟨RX6, "<init>", "()V"⟩
def RX7 : String := "MessengerCasts$Water"
def TX7 : u_T := fun k => match k with
  | 0 => ("MessengerCasts$Water", "warmths", "[I", true)
  | _ => ("MessengerCasts$Water", "salts", "[I", true)
def tyX7 : Nat → FieldType := fun k => match k with
  | 0 => .array .int
  | _ => .array .int
abbrev wsX70 : List Cond := u_ws RX7 TX7 2
theorem nmX7 : ∀ a, a < 2 → ∀ b, b < 2 → a ≠ b → (TX7 a).2.1 ≠ (TX7 b).2.1 := by decide +kernel
theorem tyX7_ok : ∀ k, k < 2 → parseFieldDescriptor (TX7 k).2.2.1 = some (tyX7 k) := by decide +kernel
abbrev cX7_init : ByteArray := prog_9_method_1_code
def yX7_init : MethodName := ⟨RX7, "<init>", "()V"⟩
abbrev cX7_copyFrom : ByteArray := prog_9_method_2_code
def yX7_copyFrom : MethodName := ⟨RX7, "copyFrom", "(LMessengerCasts$Water;)V"⟩
abbrev cX7_has : ByteArray := prog_9_method_3_code
def yX7_has : MethodName := ⟨RX7, "has", "(I)Z"⟩
abbrev cX7_warmthIn : ByteArray := prog_9_method_4_code
def yX7_warmthIn : MethodName := ⟨RX7, "warmthIn", "(I)I"⟩
abbrev cX7_saltIn : ByteArray := prog_9_method_5_code
def yX7_saltIn : MethodName := ⟨RX7, "saltIn", "(I)I"⟩
abbrev cX7_change : ByteArray := prog_9_method_6_code
def yX7_change : MethodName := ⟨RX7, "change", "(III)I"⟩
def RX8 : String := "MessengerCasts"
def TX8 : u_T := fun k => match k with
  | 0 => ("MessengerCasts", "now", "LMessengerCasts$State;", true)
  | 1 => ("MessengerCasts", "before", "LMessengerCasts$State;", true)
  | 2 => ("MessengerCasts", "ahead", "LMessengerCasts$State;", true)
  | 3 => ("MessengerCasts", "kept", "LMessengerCasts$State;", true)
  | 4 => ("MessengerCasts", "isKept", "Z", false)
  | 5 => ("MessengerCasts", "history", "LMessengerCasts$History;", true)
  | 6 => ("MessengerCasts", "text", "LMessengerCasts$Text;", true)
  | 7 => ("MessengerCasts", "cast", "LMessengerCasts$Cast;", true)
  | 8 => ("MessengerCasts", "wasStopped", "Z", false)
  | 9 => ("MessengerCasts", "stopNumber", "I", false)
  | _ => ("MessengerCasts", "stopError", "I", false)
def tyX8 : Nat → FieldType := fun k => match k with
  | 0 => .object "MessengerCasts$State"
  | 1 => .object "MessengerCasts$State"
  | 2 => .object "MessengerCasts$State"
  | 3 => .object "MessengerCasts$State"
  | 4 => .boolean
  | 5 => .object "MessengerCasts$History"
  | 6 => .object "MessengerCasts$Text"
  | 7 => .object "MessengerCasts$Cast"
  | 8 => .boolean
  | 9 => .int
  | _ => .int
abbrev wsX80 : List Cond := u_ws RX8 TX8 11
theorem nmX8 : ∀ a, a < 11 → ∀ b, b < 11 → a ≠ b → (TX8 a).2.1 ≠ (TX8 b).2.1 := by decide +kernel
theorem tyX8_ok : ∀ k, k < 11 → parseFieldDescriptor (TX8 k).2.2.1 = some (tyX8 k) := by decide +kernel
abbrev cX8_init : ByteArray := prog_1_method_1_code
def yX8_init : MethodName := ⟨RX8, "<init>", "()V"⟩
abbrev cX8_pay : ByteArray := prog_1_method_2_code
def yX8_pay : MethodName := ⟨RX8, "pay", "(I)I"⟩
abbrev cX8_setSlope : ByteArray := prog_1_method_3_code
def yX8_setSlope : MethodName := ⟨RX8, "setSlope", "(I)I"⟩
abbrev cX8_weight : ByteArray := prog_1_method_4_code
def yX8_weight : MethodName := ⟨RX8, "weight", "(Z)I"⟩
abbrev cX8_clamp : ByteArray := prog_1_method_5_code
def yX8_clamp : MethodName := ⟨RX8, "clamp", "(Z)I"⟩
abbrev cX8_takeOff : ByteArray := prog_1_method_6_code
def yX8_takeOff : MethodName := ⟨RX8, "takeOff", "(I)I"⟩
abbrev cX8_send : ByteArray := prog_1_method_7_code
def yX8_send : MethodName := ⟨RX8, "send", "()I"⟩
abbrev cX8_pass : ByteArray := prog_1_method_8_code
def yX8_pass : MethodName := ⟨RX8, "pass", "(I)I"⟩
abbrev cX8_setWater : ByteArray := prog_1_method_9_code
def yX8_setWater : MethodName := ⟨RX8, "setWater", "(III)I"⟩
abbrev cX8_set : ByteArray := prog_1_method_10_code
def yX8_set : MethodName := ⟨RX8, "set", "(II)I"⟩
abbrev cX8_undo : ByteArray := prog_1_method_15_code
def yX8_undo : MethodName := ⟨RX8, "undo", "()I"⟩
abbrev cX8_bottle : ByteArray := prog_1_method_18_code
def yX8_bottle : MethodName := ⟨RX8, "bottle", "(II)I"⟩
abbrev cX8_messenger : ByteArray := prog_1_method_19_code
def yX8_messenger : MethodName := ⟨RX8, "messenger", "(II)I"⟩
abbrev cX8_layer : ByteArray := prog_1_method_20_code
def yX8_layer : MethodName := ⟨RX8, "layer", "(II)I"⟩
abbrev cX8_depth : ByteArray := prog_1_method_21_code
def yX8_depth : MethodName := ⟨RX8, "depth", "(II)I"⟩
abbrev cX8_reason : ByteArray := prog_1_method_22_code
def yX8_reason : MethodName := ⟨RX8, "reason", "(I)I"⟩
abbrev cX8_shutIn : ByteArray := prog_1_method_23_code
def yX8_shutIn : MethodName := ⟨RX8, "shutIn", "(I)I"⟩
abbrev cX8_quietIn : ByteArray := prog_1_method_24_code
def yX8_quietIn : MethodName := ⟨RX8, "quietIn", "()I"⟩
abbrev cX8_worst : ByteArray := prog_1_method_25_code
def yX8_worst : MethodName := ⟨RX8, "worst", "()I"⟩
abbrev cX8_count : ByteArray := prog_1_method_26_code
def yX8_count : MethodName := ⟨RX8, "count", "(I)I"⟩
abbrev cX8_depthAt : ByteArray := prog_1_method_27_code
def yX8_depthAt : MethodName := ⟨RX8, "depthAt", "(II)I"⟩
abbrev cX8_layerAt : ByteArray := prog_1_method_28_code
def yX8_layerAt : MethodName := ⟨RX8, "layerAt", "(I)I"⟩
abbrev cX8_isDone : ByteArray := prog_1_method_29_code
def yX8_isDone : MethodName := ⟨RX8, "isDone", "(I)Z"⟩
abbrev cX8_recorded : ByteArray := prog_1_method_30_code
def yX8_recorded : MethodName := ⟨RX8, "recorded", "(I)I"⟩
abbrev cX8_secondsToShut : ByteArray := prog_1_method_33_code
def yX8_secondsToShut : MethodName := ⟨RX8, "secondsToShut", "(I)I"⟩
abbrev cX8_tellOfAny : ByteArray := prog_1_method_34_code
def yX8_tellOfAny : MethodName := ⟨RX8, "tellOfAny", "(LMessengerCasts$Bottle;I)I"⟩
abbrev cX8_tellOfShut : ByteArray := prog_1_method_35_code
def yX8_tellOfShut : MethodName := ⟨RX8, "tellOfShut", "(LMessengerCasts$Bottle;I)I"⟩
abbrev cX8_countOnCable : ByteArray := prog_1_method_36_code
def yX8_countOnCable : MethodName := ⟨RX8, "countOnCable", "(I)I"⟩
abbrev cX8_countOthers : ByteArray := prog_1_method_37_code
def yX8_countOthers : MethodName := ⟨RX8, "countOthers", "(I)I"⟩
def RX9 : String := "MessengerCastsModel"
def TX9 : u_T := fun k => match k with
  | _ => ("", "", "", false)
def tyX9 : Nat → FieldType := fun k => match k with
  | _ => .int
abbrev wsX90 : List Cond := u_ws RX9 TX9 0
theorem nmX9 : ∀ a, a < 0 → ∀ b, b < 0 → a ≠ b → (TX9 a).2.1 ≠ (TX9 b).2.1 := by decide +kernel
theorem tyX9_ok : ∀ k, k < 0 → parseFieldDescriptor (TX9 k).2.2.1 = some (tyX9 k) := by decide +kernel
def RL : String := "MessengerCastsLaw"
abbrev cL_cell : ByteArray := method_2_code
def yL_cell : MethodName := ⟨RL, "cell", "([II)I"⟩
abbrev cL_low : ByteArray := method_3_code
def yL_low : MethodName := ⟨RL, "low", "(II)I"⟩
abbrev cL_bottles : ByteArray := method_4_code
def yL_bottles : MethodName := ⟨RL, "bottles", "(LMessengerCasts;)Z"⟩
abbrev cL_hangs : ByteArray := method_5_code
def yL_hangs : MethodName := ⟨RL, "hangs", "(LMessengerCasts;)Z"⟩
abbrev cL_print : ByteArray := method_6_code
def yL_print : MethodName := ⟨RL, "print", "(LMessengerCasts;)J"⟩
abbrev cL_shuts : ByteArray := method_7_code
def yL_shuts : MethodName := ⟨RL, "shuts", "(LMessengerCasts;I)Z"⟩
abbrev cL_jerks : ByteArray := method_8_code
def yL_jerks : MethodName := ⟨RL, "jerks", "(LMessengerCasts;I)Z"⟩
abbrev cL_act : ByteArray := method_9_code
def yL_act : MethodName := ⟨RL, "act", "(LMessengerCasts;II)I"⟩
abbrev cL_law : ByteArray := code
def yL_law : MethodName := ⟨RL, "law", "([I)Z"⟩
abbrev vwCl : List vw_C := [(RX0, TX0, 11), (RX1, TX1, 3), (RX2, TX2, 4), (RX3, TX3, 2), (RX4, TX4, 7), (RX5, TX5, 8), (RX6, TX6, 2), (RX7, TX7, 2), (RX8, TX8, 11)]
theorem dX0_init_0 : decode cX0_init 0 = .ok (.aload_n 0, 1) := by decide +kernel
theorem dX0_init_1 : decode cX0_init 1 = .ok (.invokespecial 3, 3) := by decide +kernel
theorem dX0_init_4 : decode cX0_init 4 = .ok (.return_, 1) := by decide +kernel
theorem dX0_clampAt_0 : decode cX0_clampAt 0 = .ok (.aload_n 0, 1) := by decide +kernel
theorem dX0_clampAt_1 : decode cX0_clampAt 1 = .ok (.iload_n 1, 1) := by decide +kernel
theorem dX0_clampAt_2 : decode cX0_clampAt 2 = .ok (.putfield 9, 3) := by decide +kernel
theorem dX0_clampAt_5 : decode cX0_clampAt 5 = .ok (.aload_n 0, 1) := by decide +kernel
theorem dX0_clampAt_6 : decode cX0_clampAt 6 = .ok (.iload_n 2, 1) := by decide +kernel
theorem dX0_clampAt_7 : decode cX0_clampAt 7 = .ok (.putfield 15, 3) := by decide +kernel
theorem dX0_clampAt_10 : decode cX0_clampAt 10 = .ok (.aload_n 0, 1) := by decide +kernel
theorem dX0_clampAt_11 : decode cX0_clampAt 11 = .ok (.iconst 0, 1) := by decide +kernel
theorem dX0_clampAt_12 : decode cX0_clampAt 12 = .ok (.putfield 19, 3) := by decide +kernel
theorem dX0_clampAt_15 : decode cX0_clampAt 15 = .ok (.aload_n 0, 1) := by decide +kernel
theorem dX0_clampAt_16 : decode cX0_clampAt 16 = .ok (.iconst 0, 1) := by decide +kernel
theorem dX0_clampAt_17 : decode cX0_clampAt 17 = .ok (.putfield 22, 3) := by decide +kernel
theorem dX0_clampAt_20 : decode cX0_clampAt 20 = .ok (.aload_n 0, 1) := by decide +kernel
theorem dX0_clampAt_21 : decode cX0_clampAt 21 = .ok (.iconst 0, 1) := by decide +kernel
theorem dX0_clampAt_22 : decode cX0_clampAt 22 = .ok (.putfield 25, 3) := by decide +kernel
theorem dX0_clampAt_25 : decode cX0_clampAt 25 = .ok (.return_, 1) := by decide +kernel
theorem dX0_copyFrom_0 : decode cX0_copyFrom 0 = .ok (.aload_n 0, 1) := by decide +kernel
theorem dX0_copyFrom_1 : decode cX0_copyFrom 1 = .ok (.aload_n 1, 1) := by decide +kernel
theorem dX0_copyFrom_2 : decode cX0_copyFrom 2 = .ok (.getfield 9, 3) := by decide +kernel
theorem dX0_copyFrom_5 : decode cX0_copyFrom 5 = .ok (.putfield 9, 3) := by decide +kernel
theorem dX0_copyFrom_8 : decode cX0_copyFrom 8 = .ok (.aload_n 0, 1) := by decide +kernel
theorem dX0_copyFrom_9 : decode cX0_copyFrom 9 = .ok (.aload_n 1, 1) := by decide +kernel
theorem dX0_copyFrom_10 : decode cX0_copyFrom 10 = .ok (.getfield 15, 3) := by decide +kernel
theorem dX0_copyFrom_13 : decode cX0_copyFrom 13 = .ok (.putfield 15, 3) := by decide +kernel
theorem dX0_copyFrom_16 : decode cX0_copyFrom 16 = .ok (.aload_n 0, 1) := by decide +kernel
theorem dX0_copyFrom_17 : decode cX0_copyFrom 17 = .ok (.aload_n 1, 1) := by decide +kernel
theorem dX0_copyFrom_18 : decode cX0_copyFrom 18 = .ok (.getfield 19, 3) := by decide +kernel
theorem dX0_copyFrom_21 : decode cX0_copyFrom 21 = .ok (.putfield 19, 3) := by decide +kernel
theorem dX0_copyFrom_24 : decode cX0_copyFrom 24 = .ok (.aload_n 0, 1) := by decide +kernel
theorem dX0_copyFrom_25 : decode cX0_copyFrom 25 = .ok (.aload_n 1, 1) := by decide +kernel
theorem dX0_copyFrom_26 : decode cX0_copyFrom 26 = .ok (.getfield 22, 3) := by decide +kernel
theorem dX0_copyFrom_29 : decode cX0_copyFrom 29 = .ok (.putfield 22, 3) := by decide +kernel
theorem dX0_copyFrom_32 : decode cX0_copyFrom 32 = .ok (.aload_n 0, 1) := by decide +kernel
theorem dX0_copyFrom_33 : decode cX0_copyFrom 33 = .ok (.aload_n 1, 1) := by decide +kernel
theorem dX0_copyFrom_34 : decode cX0_copyFrom 34 = .ok (.getfield 25, 3) := by decide +kernel
theorem dX0_copyFrom_37 : decode cX0_copyFrom 37 = .ok (.putfield 25, 3) := by decide +kernel
theorem dX0_copyFrom_40 : decode cX0_copyFrom 40 = .ok (.aload_n 0, 1) := by decide +kernel
theorem dX0_copyFrom_41 : decode cX0_copyFrom 41 = .ok (.aload_n 1, 1) := by decide +kernel
theorem dX0_copyFrom_42 : decode cX0_copyFrom 42 = .ok (.getfield 28, 3) := by decide +kernel
theorem dX0_copyFrom_45 : decode cX0_copyFrom 45 = .ok (.putfield 28, 3) := by decide +kernel
theorem dX0_copyFrom_48 : decode cX0_copyFrom 48 = .ok (.aload_n 0, 1) := by decide +kernel
theorem dX0_copyFrom_49 : decode cX0_copyFrom 49 = .ok (.aload_n 1, 1) := by decide +kernel
theorem dX0_copyFrom_50 : decode cX0_copyFrom 50 = .ok (.getfield 31, 3) := by decide +kernel
theorem dX0_copyFrom_53 : decode cX0_copyFrom 53 = .ok (.putfield 31, 3) := by decide +kernel
theorem dX0_copyFrom_56 : decode cX0_copyFrom 56 = .ok (.aload_n 0, 1) := by decide +kernel
theorem dX0_copyFrom_57 : decode cX0_copyFrom 57 = .ok (.aload_n 1, 1) := by decide +kernel
theorem dX0_copyFrom_58 : decode cX0_copyFrom 58 = .ok (.getfield 34, 3) := by decide +kernel
theorem dX0_copyFrom_61 : decode cX0_copyFrom 61 = .ok (.putfield 34, 3) := by decide +kernel
theorem dX0_copyFrom_64 : decode cX0_copyFrom 64 = .ok (.aload_n 0, 1) := by decide +kernel
theorem dX0_copyFrom_65 : decode cX0_copyFrom 65 = .ok (.aload_n 1, 1) := by decide +kernel
theorem dX0_copyFrom_66 : decode cX0_copyFrom 66 = .ok (.getfield 37, 3) := by decide +kernel
theorem dX0_copyFrom_69 : decode cX0_copyFrom 69 = .ok (.putfield 37, 3) := by decide +kernel
theorem dX0_copyFrom_72 : decode cX0_copyFrom 72 = .ok (.aload_n 0, 1) := by decide +kernel
theorem dX0_copyFrom_73 : decode cX0_copyFrom 73 = .ok (.aload_n 1, 1) := by decide +kernel
theorem dX0_copyFrom_74 : decode cX0_copyFrom 74 = .ok (.getfield 40, 3) := by decide +kernel
theorem dX0_copyFrom_77 : decode cX0_copyFrom 77 = .ok (.putfield 40, 3) := by decide +kernel
theorem dX0_copyFrom_80 : decode cX0_copyFrom 80 = .ok (.aload_n 0, 1) := by decide +kernel
theorem dX0_copyFrom_81 : decode cX0_copyFrom 81 = .ok (.aload_n 1, 1) := by decide +kernel
theorem dX0_copyFrom_82 : decode cX0_copyFrom 82 = .ok (.getfield 43, 3) := by decide +kernel
theorem dX0_copyFrom_85 : decode cX0_copyFrom 85 = .ok (.putfield 43, 3) := by decide +kernel
theorem dX0_copyFrom_88 : decode cX0_copyFrom 88 = .ok (.return_, 1) := by decide +kernel
theorem dX0_depthByPair_0 : decode cX0_depthByPair 0 = .ok (.aload_n 0, 1) := by decide +kernel
theorem dX0_depthByPair_1 : decode cX0_depthByPair 1 = .ok (.getfield 40, 3) := by decide +kernel
theorem dX0_depthByPair_4 : decode cX0_depthByPair 4 = .ok (.aload_n 0, 1) := by decide +kernel
theorem dX0_depthByPair_5 : decode cX0_depthByPair 5 = .ok (.getfield 37, 3) := by decide +kernel
theorem dX0_depthByPair_8 : decode cX0_depthByPair 8 = .ok (.isub, 1) := by decide +kernel
theorem dX0_depthByPair_9 : decode cX0_depthByPair 9 = .ok (.bipush 10, 2) := by decide +kernel
theorem dX0_depthByPair_11 : decode cX0_depthByPair 11 = .ok (.imul, 1) := by decide +kernel
theorem dX0_depthByPair_12 : decode cX0_depthByPair 12 = .ok (.ireturn, 1) := by decide +kernel
theorem dX0_difference_0 : decode cX0_difference 0 = .ok (.aload_n 0, 1) := by decide +kernel
theorem dX0_difference_1 : decode cX0_difference 1 = .ok (.invokevirtual 46, 3) := by decide +kernel
theorem dX0_difference_4 : decode cX0_difference 4 = .ok (.aload_n 0, 1) := by decide +kernel
theorem dX0_difference_5 : decode cX0_difference 5 = .ok (.getfield 31, 3) := by decide +kernel
theorem dX0_difference_8 : decode cX0_difference 8 = .ok (.isub, 1) := by decide +kernel
theorem dX0_difference_9 : decode cX0_difference 9 = .ok (.invokestatic 50, 3) := by decide +kernel
theorem dX0_difference_12 : decode cX0_difference 12 = .ok (.ireturn, 1) := by decide +kernel
theorem dX1_init_0 : decode cX1_init 0 = .ok (.aload_n 0, 1) := by decide +kernel
theorem dX1_init_1 : decode cX1_init 1 = .ok (.invokespecial 3, 3) := by decide +kernel
theorem dX1_init_4 : decode cX1_init 4 = .ok (.return_, 1) := by decide +kernel
theorem dX1_copyFrom_0 : decode cX1_copyFrom 0 = .ok (.aload_n 0, 1) := by decide +kernel
theorem dX1_copyFrom_1 : decode cX1_copyFrom 1 = .ok (.aload_n 1, 1) := by decide +kernel
theorem dX1_copyFrom_2 : decode cX1_copyFrom 2 = .ok (.getfield 9, 3) := by decide +kernel
theorem dX1_copyFrom_5 : decode cX1_copyFrom 5 = .ok (.putfield 9, 3) := by decide +kernel
theorem dX1_copyFrom_8 : decode cX1_copyFrom 8 = .ok (.aload_n 0, 1) := by decide +kernel
theorem dX1_copyFrom_9 : decode cX1_copyFrom 9 = .ok (.aload_n 1, 1) := by decide +kernel
theorem dX1_copyFrom_10 : decode cX1_copyFrom 10 = .ok (.getfield 15, 3) := by decide +kernel
theorem dX1_copyFrom_13 : decode cX1_copyFrom 13 = .ok (.putfield 15, 3) := by decide +kernel
theorem dX1_copyFrom_16 : decode cX1_copyFrom 16 = .ok (.aload_n 0, 1) := by decide +kernel
theorem dX1_copyFrom_17 : decode cX1_copyFrom 17 = .ok (.aload_n 1, 1) := by decide +kernel
theorem dX1_copyFrom_18 : decode cX1_copyFrom 18 = .ok (.getfield 18, 3) := by decide +kernel
theorem dX1_copyFrom_21 : decode cX1_copyFrom 21 = .ok (.putfield 18, 3) := by decide +kernel
theorem dX1_copyFrom_24 : decode cX1_copyFrom 24 = .ok (.return_, 1) := by decide +kernel
theorem dX1_countedSlope_0 : decode cX1_countedSlope 0 = .ok (.aload_n 0, 1) := by decide +kernel
theorem dX1_countedSlope_1 : decode cX1_countedSlope 1 = .ok (.getfield 18, 3) := by decide +kernel
theorem dX1_countedSlope_4 : decode cX1_countedSlope 4 = .ok (.ifCond .eq 17, 3) := by decide +kernel
theorem dX1_countedSlope_7 : decode cX1_countedSlope 7 = .ok (.bipush 6, 2) := by decide +kernel
theorem dX1_countedSlope_9 : decode cX1_countedSlope 9 = .ok (.aload_n 0, 1) := by decide +kernel
theorem dX1_countedSlope_10 : decode cX1_countedSlope 10 = .ok (.getfield 15, 3) := by decide +kernel
theorem dX1_countedSlope_13 : decode cX1_countedSlope 13 = .ok (.iconst 2, 1) := by decide +kernel
theorem dX1_countedSlope_14 : decode cX1_countedSlope 14 = .ok (.iadd, 1) := by decide +kernel
theorem dX1_countedSlope_15 : decode cX1_countedSlope 15 = .ok (.invokestatic 22, 3) := by decide +kernel
theorem dX1_countedSlope_18 : decode cX1_countedSlope 18 = .ok (.goto 7, 3) := by decide +kernel
theorem dX1_countedSlope_21 : decode cX1_countedSlope 21 = .ok (.aload_n 0, 1) := by decide +kernel
theorem dX1_countedSlope_22 : decode cX1_countedSlope 22 = .ok (.getfield 15, 3) := by decide +kernel
theorem dX1_countedSlope_25 : decode cX1_countedSlope 25 = .ok (.ireturn, 1) := by decide +kernel
theorem dX1_isSticking_0 : decode cX1_isSticking 0 = .ok (.aload_n 0, 1) := by decide +kernel
theorem dX1_isSticking_1 : decode cX1_isSticking 1 = .ok (.invokevirtual 28, 3) := by decide +kernel
theorem dX1_isSticking_4 : decode cX1_isSticking 4 = .ok (.bipush 6, 2) := by decide +kernel
theorem dX1_isSticking_6 : decode cX1_isSticking 6 = .ok (.if_icmp .lt 7, 3) := by decide +kernel
theorem dX1_isSticking_9 : decode cX1_isSticking 9 = .ok (.iconst 1, 1) := by decide +kernel
theorem dX1_isSticking_10 : decode cX1_isSticking 10 = .ok (.goto 4, 3) := by decide +kernel
theorem dX1_isSticking_13 : decode cX1_isSticking 13 = .ok (.iconst 0, 1) := by decide +kernel
theorem dX1_isSticking_14 : decode cX1_isSticking 14 = .ok (.ireturn, 1) := by decide +kernel
theorem dX1_step_0 : decode cX1_step 0 = .ok (.iconst 1, 1) := by decide +kernel
theorem dX1_step_1 : decode cX1_step 1 = .ok (.iconst 5, 1) := by decide +kernel
theorem dX1_step_2 : decode cX1_step 2 = .ok (.aload_n 0, 1) := by decide +kernel
theorem dX1_step_3 : decode cX1_step 3 = .ok (.invokevirtual 28, 3) := by decide +kernel
theorem dX1_step_6 : decode cX1_step 6 = .ok (.isub, 1) := by decide +kernel
theorem dX1_step_7 : decode cX1_step 7 = .ok (.invokestatic 32, 3) := by decide +kernel
theorem dX1_step_10 : decode cX1_step 10 = .ok (.ireturn, 1) := by decide +kernel
theorem dX1_isInWater_0 : decode cX1_isInWater 0 = .ok (.iload_n 1, 1) := by decide +kernel
theorem dX1_isInWater_1 : decode cX1_isInWater 1 = .ok (.aload_n 0, 1) := by decide +kernel
theorem dX1_isInWater_2 : decode cX1_isInWater 2 = .ok (.getfield 9, 3) := by decide +kernel
theorem dX1_isInWater_5 : decode cX1_isInWater 5 = .ok (.if_icmp .ge 7, 3) := by decide +kernel
theorem dX1_isInWater_8 : decode cX1_isInWater 8 = .ok (.iconst 1, 1) := by decide +kernel
theorem dX1_isInWater_9 : decode cX1_isInWater 9 = .ok (.goto 4, 3) := by decide +kernel
theorem dX1_isInWater_12 : decode cX1_isInWater 12 = .ok (.iconst 0, 1) := by decide +kernel
theorem dX1_isInWater_13 : decode cX1_isInWater 13 = .ok (.ireturn, 1) := by decide +kernel
theorem dX1_metreOf_0 : decode cX1_metreOf 0 = .ok (.aload_n 0, 1) := by decide +kernel
theorem dX1_metreOf_1 : decode cX1_metreOf 1 = .ok (.iload_n 1, 1) := by decide +kernel
theorem dX1_metreOf_2 : decode cX1_metreOf 2 = .ok (.invokevirtual 35, 3) := by decide +kernel
theorem dX1_metreOf_5 : decode cX1_metreOf 5 = .ok (.ifCond .eq 12, 3) := by decide +kernel
theorem dX1_metreOf_8 : decode cX1_metreOf 8 = .ok (.aload_n 0, 1) := by decide +kernel
theorem dX1_metreOf_9 : decode cX1_metreOf 9 = .ok (.getfield 9, 3) := by decide +kernel
theorem dX1_metreOf_12 : decode cX1_metreOf 12 = .ok (.iload_n 1, 1) := by decide +kernel
theorem dX1_metreOf_13 : decode cX1_metreOf 13 = .ok (.isub, 1) := by decide +kernel
theorem dX1_metreOf_14 : decode cX1_metreOf 14 = .ok (.goto 4, 3) := by decide +kernel
theorem dX1_metreOf_17 : decode cX1_metreOf 17 = .ok (.iconst 0, 1) := by decide +kernel
theorem dX1_metreOf_18 : decode cX1_metreOf 18 = .ok (.ireturn, 1) := by decide +kernel
theorem dX1_depthOf_0 : decode cX1_depthOf 0 = .ok (.aload_n 0, 1) := by decide +kernel
theorem dX1_depthOf_1 : decode cX1_depthOf 1 = .ok (.iload_n 1, 1) := by decide +kernel
theorem dX1_depthOf_2 : decode cX1_depthOf 2 = .ok (.invokevirtual 39, 3) := by decide +kernel
theorem dX1_depthOf_5 : decode cX1_depthOf 5 = .ok (.aload_n 0, 1) := by decide +kernel
theorem dX1_depthOf_6 : decode cX1_depthOf 6 = .ok (.invokevirtual 28, 3) := by decide +kernel
theorem dX1_depthOf_9 : decode cX1_depthOf 9 = .ok (.invokestatic 43, 3) := by decide +kernel
theorem dX1_depthOf_12 : decode cX1_depthOf 12 = .ok (.ireturn, 1) := by decide +kernel
theorem dX2_init_0 : decode cX2_init 0 = .ok (.aload_n 0, 1) := by decide +kernel
theorem dX2_init_1 : decode cX2_init 1 = .ok (.invokespecial 3, 3) := by decide +kernel
theorem dX2_init_4 : decode cX2_init 4 = .ok (.aload_n 0, 1) := by decide +kernel
theorem dX2_init_5 : decode cX2_init 5 = .ok (.bipush 60, 2) := by decide +kernel
theorem dX2_init_7 : decode cX2_init 7 = .ok (.newarray .char, 2) := by decide +kernel
theorem dX2_init_9 : decode cX2_init 9 = .ok (.putfield 9, 3) := by decide +kernel
theorem dX2_init_12 : decode cX2_init 12 = .ok (.aload_n 0, 1) := by decide +kernel
theorem dX2_init_13 : decode cX2_init 13 = .ok (.bipush 60, 2) := by decide +kernel
theorem dX2_init_15 : decode cX2_init 15 = .ok (.newarray .int, 2) := by decide +kernel
theorem dX2_init_17 : decode cX2_init 17 = .ok (.putfield 15, 3) := by decide +kernel
theorem dX2_init_20 : decode cX2_init 20 = .ok (.return_, 1) := by decide +kernel
theorem dX3_init_0 : decode cX3_init 0 = .ok (.aload_n 0, 1) := by decide +kernel
theorem dX3_init_1 : decode cX3_init 1 = .ok (.invokespecial 3, 3) := by decide +kernel
theorem dX3_init_4 : decode cX3_init 4 = .ok (.aload_n 0, 1) := by decide +kernel
theorem dX3_init_5 : decode cX3_init 5 = .ok (.iconst 4, 1) := by decide +kernel
theorem dX3_init_6 : decode cX3_init 6 = .ok (.anewarray 9, 3) := by decide +kernel
theorem dX3_init_9 : decode cX3_init 9 = .ok (.putfield 11, 3) := by decide +kernel
theorem dX3_init_12 : decode cX3_init 12 = .ok (.iconst 0, 1) := by decide +kernel
theorem dX3_init_13 : decode cX3_init 13 = .ok (.istore_n 1, 1) := by decide +kernel
theorem dX3_init_14 : decode cX3_init 14 = .ok (.iload_n 1, 1) := by decide +kernel
theorem dX3_init_15 : decode cX3_init 15 = .ok (.iconst 4, 1) := by decide +kernel
theorem dX3_init_16 : decode cX3_init 16 = .ok (.if_icmp .ge 22, 3) := by decide +kernel
theorem dX3_init_19 : decode cX3_init 19 = .ok (.aload_n 0, 1) := by decide +kernel
theorem dX3_init_20 : decode cX3_init 20 = .ok (.getfield 11, 3) := by decide +kernel
theorem dX3_init_23 : decode cX3_init 23 = .ok (.iload_n 1, 1) := by decide +kernel
theorem dX3_init_24 : decode cX3_init 24 = .ok (.new 9, 3) := by decide +kernel
theorem dX3_init_27 : decode cX3_init 27 = .ok (.dup, 1) := by decide +kernel
theorem dX3_init_28 : decode cX3_init 28 = .ok (.invokespecial 17, 3) := by decide +kernel
theorem dX3_init_31 : decode cX3_init 31 = .ok (.aastore, 1) := by decide +kernel
theorem dX3_init_32 : decode cX3_init 32 = .ok (.iinc 1 1, 3) := by decide +kernel
theorem dX3_init_35 : decode cX3_init 35 = .ok (.goto (-21), 3) := by decide +kernel
theorem dX3_init_38 : decode cX3_init 38 = .ok (.return_, 1) := by decide +kernel
theorem dX3_add_0 : decode cX3_add 0 = .ok (.aload_n 0, 1) := by decide +kernel
theorem dX3_add_1 : decode cX3_add 1 = .ok (.getfield 18, 3) := by decide +kernel
theorem dX3_add_4 : decode cX3_add 4 = .ok (.iconst 4, 1) := by decide +kernel
theorem dX3_add_5 : decode cX3_add 5 = .ok (.if_icmp .lt 7, 3) := by decide +kernel
theorem dX3_add_8 : decode cX3_add 8 = .ok (.aload_n 0, 1) := by decide +kernel
theorem dX3_add_9 : decode cX3_add 9 = .ok (.invokevirtual 22, 3) := by decide +kernel
theorem dX3_add_12 : decode cX3_add 12 = .ok (.aload_n 0, 1) := by decide +kernel
theorem dX3_add_13 : decode cX3_add 13 = .ok (.getfield 18, 3) := by decide +kernel
theorem dX3_add_16 : decode cX3_add 16 = .ok (.ifCond .lt 23, 3) := by decide +kernel
theorem dX3_add_19 : decode cX3_add 19 = .ok (.aload_n 0, 1) := by decide +kernel
theorem dX3_add_20 : decode cX3_add 20 = .ok (.getfield 18, 3) := by decide +kernel
theorem dX3_add_23 : decode cX3_add 23 = .ok (.iconst 4, 1) := by decide +kernel
theorem dX3_add_24 : decode cX3_add 24 = .ok (.if_icmp .ge 15, 3) := by decide +kernel
theorem dX3_add_27 : decode cX3_add 27 = .ok (.aload_n 0, 1) := by decide +kernel
theorem dX3_add_28 : decode cX3_add 28 = .ok (.getfield 11, 3) := by decide +kernel
theorem dX3_add_31 : decode cX3_add 31 = .ok (.aload_n 0, 1) := by decide +kernel
theorem dX3_add_32 : decode cX3_add 32 = .ok (.getfield 18, 3) := by decide +kernel
theorem dX3_add_35 : decode cX3_add 35 = .ok (.aaload, 1) := by decide +kernel
theorem dX3_add_36 : decode cX3_add 36 = .ok (.goto 4, 3) := by decide +kernel
theorem dX3_add_39 : decode cX3_add 39 = .ok (.aconst_null, 1) := by decide +kernel
theorem dX3_add_40 : decode cX3_add 40 = .ok (.astore_n 2, 1) := by decide +kernel
theorem dX3_add_41 : decode cX3_add 41 = .ok (.aload_n 2, 1) := by decide +kernel
theorem dX3_add_42 : decode cX3_add 42 = .ok (.ifnull 18, 3) := by decide +kernel
theorem dX3_add_45 : decode cX3_add 45 = .ok (.aload_n 2, 1) := by decide +kernel
theorem dX3_add_46 : decode cX3_add 46 = .ok (.aload_n 1, 1) := by decide +kernel
theorem dX3_add_47 : decode cX3_add 47 = .ok (.invokevirtual 25, 3) := by decide +kernel
theorem dX3_add_50 : decode cX3_add 50 = .ok (.aload_n 0, 1) := by decide +kernel
theorem dX3_add_51 : decode cX3_add 51 = .ok (.dup, 1) := by decide +kernel
theorem dX3_add_52 : decode cX3_add 52 = .ok (.getfield 18, 3) := by decide +kernel
theorem dX3_add_55 : decode cX3_add 55 = .ok (.iconst 1, 1) := by decide +kernel
theorem dX3_add_56 : decode cX3_add 56 = .ok (.iadd, 1) := by decide +kernel
theorem dX3_add_57 : decode cX3_add 57 = .ok (.putfield 18, 3) := by decide +kernel
theorem dX3_add_60 : decode cX3_add 60 = .ok (.return_, 1) := by decide +kernel
theorem dX3_dropOldest_0 : decode cX3_dropOldest 0 = .ok (.aload_n 0, 1) := by decide +kernel
theorem dX3_dropOldest_1 : decode cX3_dropOldest 1 = .ok (.getfield 11, 3) := by decide +kernel
theorem dX3_dropOldest_4 : decode cX3_dropOldest 4 = .ok (.iconst 0, 1) := by decide +kernel
theorem dX3_dropOldest_5 : decode cX3_dropOldest 5 = .ok (.aaload, 1) := by decide +kernel
theorem dX3_dropOldest_6 : decode cX3_dropOldest 6 = .ok (.astore_n 1, 1) := by decide +kernel
theorem dX3_dropOldest_7 : decode cX3_dropOldest 7 = .ok (.iconst 0, 1) := by decide +kernel
theorem dX3_dropOldest_8 : decode cX3_dropOldest 8 = .ok (.istore_n 2, 1) := by decide +kernel
theorem dX3_dropOldest_9 : decode cX3_dropOldest 9 = .ok (.iload_n 2, 1) := by decide +kernel
theorem dX3_dropOldest_10 : decode cX3_dropOldest 10 = .ok (.iconst 3, 1) := by decide +kernel
theorem dX3_dropOldest_11 : decode cX3_dropOldest 11 = .ok (.if_icmp .ge 23, 3) := by decide +kernel
theorem dX3_dropOldest_14 : decode cX3_dropOldest 14 = .ok (.aload_n 0, 1) := by decide +kernel
theorem dX3_dropOldest_15 : decode cX3_dropOldest 15 = .ok (.getfield 11, 3) := by decide +kernel
theorem dX3_dropOldest_18 : decode cX3_dropOldest 18 = .ok (.iload_n 2, 1) := by decide +kernel
theorem dX3_dropOldest_19 : decode cX3_dropOldest 19 = .ok (.aload_n 0, 1) := by decide +kernel
theorem dX3_dropOldest_20 : decode cX3_dropOldest 20 = .ok (.getfield 11, 3) := by decide +kernel
theorem dX3_dropOldest_23 : decode cX3_dropOldest 23 = .ok (.iload_n 2, 1) := by decide +kernel
theorem dX3_dropOldest_24 : decode cX3_dropOldest 24 = .ok (.iconst 1, 1) := by decide +kernel
theorem dX3_dropOldest_25 : decode cX3_dropOldest 25 = .ok (.iadd, 1) := by decide +kernel
theorem dX3_dropOldest_26 : decode cX3_dropOldest 26 = .ok (.aaload, 1) := by decide +kernel
theorem dX3_dropOldest_27 : decode cX3_dropOldest 27 = .ok (.aastore, 1) := by decide +kernel
theorem dX3_dropOldest_28 : decode cX3_dropOldest 28 = .ok (.iinc 2 1, 3) := by decide +kernel
theorem dX3_dropOldest_31 : decode cX3_dropOldest 31 = .ok (.goto (-22), 3) := by decide +kernel
theorem dX3_dropOldest_34 : decode cX3_dropOldest 34 = .ok (.aload_n 0, 1) := by decide +kernel
theorem dX3_dropOldest_35 : decode cX3_dropOldest 35 = .ok (.getfield 11, 3) := by decide +kernel
theorem dX3_dropOldest_38 : decode cX3_dropOldest 38 = .ok (.iconst 3, 1) := by decide +kernel
theorem dX3_dropOldest_39 : decode cX3_dropOldest 39 = .ok (.aload_n 1, 1) := by decide +kernel
theorem dX3_dropOldest_40 : decode cX3_dropOldest 40 = .ok (.aastore, 1) := by decide +kernel
theorem dX3_dropOldest_41 : decode cX3_dropOldest 41 = .ok (.aload_n 0, 1) := by decide +kernel
theorem dX3_dropOldest_42 : decode cX3_dropOldest 42 = .ok (.iconst 3, 1) := by decide +kernel
theorem dX3_dropOldest_43 : decode cX3_dropOldest 43 = .ok (.putfield 18, 3) := by decide +kernel
theorem dX3_dropOldest_46 : decode cX3_dropOldest 46 = .ok (.return_, 1) := by decide +kernel
theorem dX3_takeLatest_0 : decode cX3_takeLatest 0 = .ok (.aload_n 0, 1) := by decide +kernel
theorem dX3_takeLatest_1 : decode cX3_takeLatest 1 = .ok (.getfield 18, 3) := by decide +kernel
theorem dX3_takeLatest_4 : decode cX3_takeLatest 4 = .ok (.iconst 1, 1) := by decide +kernel
theorem dX3_takeLatest_5 : decode cX3_takeLatest 5 = .ok (.isub, 1) := by decide +kernel
theorem dX3_takeLatest_6 : decode cX3_takeLatest 6 = .ok (.istore_n 2, 1) := by decide +kernel
theorem dX3_takeLatest_7 : decode cX3_takeLatest 7 = .ok (.iload_n 2, 1) := by decide +kernel
theorem dX3_takeLatest_8 : decode cX3_takeLatest 8 = .ok (.ifCond .lt 17, 3) := by decide +kernel
theorem dX3_takeLatest_11 : decode cX3_takeLatest 11 = .ok (.iload_n 2, 1) := by decide +kernel
theorem dX3_takeLatest_12 : decode cX3_takeLatest 12 = .ok (.iconst 4, 1) := by decide +kernel
theorem dX3_takeLatest_13 : decode cX3_takeLatest 13 = .ok (.if_icmp .ge 12, 3) := by decide +kernel
theorem dX3_takeLatest_16 : decode cX3_takeLatest 16 = .ok (.aload_n 0, 1) := by decide +kernel
theorem dX3_takeLatest_17 : decode cX3_takeLatest 17 = .ok (.getfield 11, 3) := by decide +kernel
theorem dX3_takeLatest_20 : decode cX3_takeLatest 20 = .ok (.iload_n 2, 1) := by decide +kernel
theorem dX3_takeLatest_21 : decode cX3_takeLatest 21 = .ok (.aaload, 1) := by decide +kernel
theorem dX3_takeLatest_22 : decode cX3_takeLatest 22 = .ok (.goto 4, 3) := by decide +kernel
theorem dX3_takeLatest_25 : decode cX3_takeLatest 25 = .ok (.aconst_null, 1) := by decide +kernel
theorem dX3_takeLatest_26 : decode cX3_takeLatest 26 = .ok (.astore_n 3, 1) := by decide +kernel
theorem dX3_takeLatest_27 : decode cX3_takeLatest 27 = .ok (.aload_n 3, 1) := by decide +kernel
theorem dX3_takeLatest_28 : decode cX3_takeLatest 28 = .ok (.ifnonnull 5, 3) := by decide +kernel
theorem dX3_takeLatest_31 : decode cX3_takeLatest 31 = .ok (.iconst 0, 1) := by decide +kernel
theorem dX3_takeLatest_32 : decode cX3_takeLatest 32 = .ok (.ireturn, 1) := by decide +kernel
theorem dX3_takeLatest_33 : decode cX3_takeLatest 33 = .ok (.aload_n 1, 1) := by decide +kernel
theorem dX3_takeLatest_34 : decode cX3_takeLatest 34 = .ok (.aload_n 3, 1) := by decide +kernel
theorem dX3_takeLatest_35 : decode cX3_takeLatest 35 = .ok (.invokevirtual 25, 3) := by decide +kernel
theorem dX3_takeLatest_38 : decode cX3_takeLatest 38 = .ok (.aload_n 0, 1) := by decide +kernel
theorem dX3_takeLatest_39 : decode cX3_takeLatest 39 = .ok (.iload_n 2, 1) := by decide +kernel
theorem dX3_takeLatest_40 : decode cX3_takeLatest 40 = .ok (.putfield 18, 3) := by decide +kernel
theorem dX3_takeLatest_43 : decode cX3_takeLatest 43 = .ok (.iconst 1, 1) := by decide +kernel
theorem dX3_takeLatest_44 : decode cX3_takeLatest 44 = .ok (.ireturn, 1) := by decide +kernel
theorem dX4_init_0 : decode cX4_init 0 = .ok (.aload_n 0, 1) := by decide +kernel
theorem dX4_init_1 : decode cX4_init 1 = .ok (.invokespecial 3, 3) := by decide +kernel
theorem dX4_init_4 : decode cX4_init 4 = .ok (.aload_n 0, 1) := by decide +kernel
theorem dX4_init_5 : decode cX4_init 5 = .ok (.bipush 12, 2) := by decide +kernel
theorem dX4_init_7 : decode cX4_init 7 = .ok (.newarray .int, 2) := by decide +kernel
theorem dX4_init_9 : decode cX4_init 9 = .ok (.putfield 9, 3) := by decide +kernel
theorem dX4_init_12 : decode cX4_init 12 = .ok (.return_, 1) := by decide +kernel
theorem dX4_copyFrom_0 : decode cX4_copyFrom 0 = .ok (.iconst 0, 1) := by decide +kernel
theorem dX4_copyFrom_1 : decode cX4_copyFrom 1 = .ok (.istore_n 2, 1) := by decide +kernel
theorem dX4_copyFrom_2 : decode cX4_copyFrom 2 = .ok (.iload_n 2, 1) := by decide +kernel
theorem dX4_copyFrom_3 : decode cX4_copyFrom 3 = .ok (.bipush 12, 2) := by decide +kernel
theorem dX4_copyFrom_5 : decode cX4_copyFrom 5 = .ok (.if_icmp .ge 21, 3) := by decide +kernel
theorem dX4_copyFrom_8 : decode cX4_copyFrom 8 = .ok (.aload_n 0, 1) := by decide +kernel
theorem dX4_copyFrom_9 : decode cX4_copyFrom 9 = .ok (.getfield 9, 3) := by decide +kernel
theorem dX4_copyFrom_12 : decode cX4_copyFrom 12 = .ok (.iload_n 2, 1) := by decide +kernel
theorem dX4_copyFrom_13 : decode cX4_copyFrom 13 = .ok (.aload_n 1, 1) := by decide +kernel
theorem dX4_copyFrom_14 : decode cX4_copyFrom 14 = .ok (.getfield 9, 3) := by decide +kernel
theorem dX4_copyFrom_17 : decode cX4_copyFrom 17 = .ok (.iload_n 2, 1) := by decide +kernel
theorem dX4_copyFrom_18 : decode cX4_copyFrom 18 = .ok (.iaload, 1) := by decide +kernel
theorem dX4_copyFrom_19 : decode cX4_copyFrom 19 = .ok (.iastore, 1) := by decide +kernel
theorem dX4_copyFrom_20 : decode cX4_copyFrom 20 = .ok (.iinc 2 1, 3) := by decide +kernel
theorem dX4_copyFrom_23 : decode cX4_copyFrom 23 = .ok (.goto (-21), 3) := by decide +kernel
theorem dX4_copyFrom_26 : decode cX4_copyFrom 26 = .ok (.aload_n 0, 1) := by decide +kernel
theorem dX4_copyFrom_27 : decode cX4_copyFrom 27 = .ok (.aload_n 1, 1) := by decide +kernel
theorem dX4_copyFrom_28 : decode cX4_copyFrom 28 = .ok (.getfield 15, 3) := by decide +kernel
theorem dX4_copyFrom_31 : decode cX4_copyFrom 31 = .ok (.putfield 15, 3) := by decide +kernel
theorem dX4_copyFrom_34 : decode cX4_copyFrom 34 = .ok (.aload_n 0, 1) := by decide +kernel
theorem dX4_copyFrom_35 : decode cX4_copyFrom 35 = .ok (.aload_n 1, 1) := by decide +kernel
theorem dX4_copyFrom_36 : decode cX4_copyFrom 36 = .ok (.getfield 19, 3) := by decide +kernel
theorem dX4_copyFrom_39 : decode cX4_copyFrom 39 = .ok (.putfield 19, 3) := by decide +kernel
theorem dX4_copyFrom_42 : decode cX4_copyFrom 42 = .ok (.aload_n 0, 1) := by decide +kernel
theorem dX4_copyFrom_43 : decode cX4_copyFrom 43 = .ok (.aload_n 1, 1) := by decide +kernel
theorem dX4_copyFrom_44 : decode cX4_copyFrom 44 = .ok (.getfield 22, 3) := by decide +kernel
theorem dX4_copyFrom_47 : decode cX4_copyFrom 47 = .ok (.putfield 22, 3) := by decide +kernel
theorem dX4_copyFrom_50 : decode cX4_copyFrom 50 = .ok (.aload_n 0, 1) := by decide +kernel
theorem dX4_copyFrom_51 : decode cX4_copyFrom 51 = .ok (.aload_n 1, 1) := by decide +kernel
theorem dX4_copyFrom_52 : decode cX4_copyFrom 52 = .ok (.getfield 25, 3) := by decide +kernel
theorem dX4_copyFrom_55 : decode cX4_copyFrom 55 = .ok (.putfield 25, 3) := by decide +kernel
theorem dX4_copyFrom_58 : decode cX4_copyFrom 58 = .ok (.aload_n 0, 1) := by decide +kernel
theorem dX4_copyFrom_59 : decode cX4_copyFrom 59 = .ok (.aload_n 1, 1) := by decide +kernel
theorem dX4_copyFrom_60 : decode cX4_copyFrom 60 = .ok (.getfield 28, 3) := by decide +kernel
theorem dX4_copyFrom_63 : decode cX4_copyFrom 63 = .ok (.putfield 28, 3) := by decide +kernel
theorem dX4_copyFrom_66 : decode cX4_copyFrom 66 = .ok (.aload_n 0, 1) := by decide +kernel
theorem dX4_copyFrom_67 : decode cX4_copyFrom 67 = .ok (.aload_n 1, 1) := by decide +kernel
theorem dX4_copyFrom_68 : decode cX4_copyFrom 68 = .ok (.getfield 31, 3) := by decide +kernel
theorem dX4_copyFrom_71 : decode cX4_copyFrom 71 = .ok (.putfield 31, 3) := by decide +kernel
theorem dX4_copyFrom_74 : decode cX4_copyFrom 74 = .ok (.return_, 1) := by decide +kernel
theorem dX4_markAt_0 : decode cX4_markAt 0 = .ok (.iload_n 1, 1) := by decide +kernel
theorem dX4_markAt_1 : decode cX4_markAt 1 = .ok (.ifCond .lt 18, 3) := by decide +kernel
theorem dX4_markAt_4 : decode cX4_markAt 4 = .ok (.iload_n 1, 1) := by decide +kernel
theorem dX4_markAt_5 : decode cX4_markAt 5 = .ok (.bipush 12, 2) := by decide +kernel
theorem dX4_markAt_7 : decode cX4_markAt 7 = .ok (.if_icmp .ge 12, 3) := by decide +kernel
theorem dX4_markAt_10 : decode cX4_markAt 10 = .ok (.aload_n 0, 1) := by decide +kernel
theorem dX4_markAt_11 : decode cX4_markAt 11 = .ok (.getfield 9, 3) := by decide +kernel
theorem dX4_markAt_14 : decode cX4_markAt 14 = .ok (.iload_n 1, 1) := by decide +kernel
theorem dX4_markAt_15 : decode cX4_markAt 15 = .ok (.iaload, 1) := by decide +kernel
theorem dX4_markAt_16 : decode cX4_markAt 16 = .ok (.goto 4, 3) := by decide +kernel
theorem dX4_markAt_19 : decode cX4_markAt 19 = .ok (.iconst 0, 1) := by decide +kernel
theorem dX4_markAt_20 : decode cX4_markAt 20 = .ok (.ireturn, 1) := by decide +kernel
theorem dX4_put_0 : decode cX4_put 0 = .ok (.iload_n 1, 1) := by decide +kernel
theorem dX4_put_1 : decode cX4_put 1 = .ok (.ifCond .lt 16, 3) := by decide +kernel
theorem dX4_put_4 : decode cX4_put 4 = .ok (.iload_n 1, 1) := by decide +kernel
theorem dX4_put_5 : decode cX4_put 5 = .ok (.bipush 12, 2) := by decide +kernel
theorem dX4_put_7 : decode cX4_put 7 = .ok (.if_icmp .ge 10, 3) := by decide +kernel
theorem dX4_put_10 : decode cX4_put 10 = .ok (.aload_n 0, 1) := by decide +kernel
theorem dX4_put_11 : decode cX4_put 11 = .ok (.getfield 9, 3) := by decide +kernel
theorem dX4_put_14 : decode cX4_put 14 = .ok (.iload_n 1, 1) := by decide +kernel
theorem dX4_put_15 : decode cX4_put 15 = .ok (.iload_n 2, 1) := by decide +kernel
theorem dX4_put_16 : decode cX4_put 16 = .ok (.iastore, 1) := by decide +kernel
theorem dX4_put_17 : decode cX4_put 17 = .ok (.return_, 1) := by decide +kernel
theorem dX4_isAnyAbove_0 : decode cX4_isAnyAbove 0 = .ok (.aload_n 0, 1) := by decide +kernel
theorem dX4_isAnyAbove_1 : decode cX4_isAnyAbove 1 = .ok (.getfield 15, 3) := by decide +kernel
theorem dX4_isAnyAbove_4 : decode cX4_isAnyAbove 4 = .ok (.ifCond .le 21, 3) := by decide +kernel
theorem dX4_isAnyAbove_7 : decode cX4_isAnyAbove 7 = .ok (.aload_n 0, 1) := by decide +kernel
theorem dX4_isAnyAbove_8 : decode cX4_isAnyAbove 8 = .ok (.aload_n 0, 1) := by decide +kernel
theorem dX4_isAnyAbove_9 : decode cX4_isAnyAbove 9 = .ok (.getfield 15, 3) := by decide +kernel
theorem dX4_isAnyAbove_12 : decode cX4_isAnyAbove 12 = .ok (.iconst 1, 1) := by decide +kernel
theorem dX4_isAnyAbove_13 : decode cX4_isAnyAbove 13 = .ok (.isub, 1) := by decide +kernel
theorem dX4_isAnyAbove_14 : decode cX4_isAnyAbove 14 = .ok (.invokevirtual 34, 3) := by decide +kernel
theorem dX4_isAnyAbove_17 : decode cX4_isAnyAbove 17 = .ok (.iload_n 1, 1) := by decide +kernel
theorem dX4_isAnyAbove_18 : decode cX4_isAnyAbove 18 = .ok (.if_icmp .le 7, 3) := by decide +kernel
theorem dX4_isAnyAbove_21 : decode cX4_isAnyAbove 21 = .ok (.iconst 1, 1) := by decide +kernel
theorem dX4_isAnyAbove_22 : decode cX4_isAnyAbove 22 = .ok (.goto 4, 3) := by decide +kernel
theorem dX4_isAnyAbove_25 : decode cX4_isAnyAbove 25 = .ok (.iconst 0, 1) := by decide +kernel
theorem dX4_isAnyAbove_26 : decode cX4_isAnyAbove 26 = .ok (.ireturn, 1) := by decide +kernel
theorem dX4_takeBackAbove_0 : decode cX4_takeBackAbove 0 = .ok (.aload_n 0, 1) := by decide +kernel
theorem dX4_takeBackAbove_1 : decode cX4_takeBackAbove 1 = .ok (.getfield 15, 3) := by decide +kernel
theorem dX4_takeBackAbove_4 : decode cX4_takeBackAbove 4 = .ok (.istore_n 2, 1) := by decide +kernel
theorem dX4_takeBackAbove_5 : decode cX4_takeBackAbove 5 = .ok (.iload_n 2, 1) := by decide +kernel
theorem dX4_takeBackAbove_6 : decode cX4_takeBackAbove 6 = .ok (.iconst 1, 1) := by decide +kernel
theorem dX4_takeBackAbove_7 : decode cX4_takeBackAbove 7 = .ok (.isub, 1) := by decide +kernel
theorem dX4_takeBackAbove_8 : decode cX4_takeBackAbove 8 = .ok (.istore_n 3, 1) := by decide +kernel
theorem dX4_takeBackAbove_9 : decode cX4_takeBackAbove 9 = .ok (.iload_n 3, 1) := by decide +kernel
theorem dX4_takeBackAbove_10 : decode cX4_takeBackAbove 10 = .ok (.ifCond .lt 23, 3) := by decide +kernel
theorem dX4_takeBackAbove_13 : decode cX4_takeBackAbove 13 = .ok (.aload_n 0, 1) := by decide +kernel
theorem dX4_takeBackAbove_14 : decode cX4_takeBackAbove 14 = .ok (.iload_n 3, 1) := by decide +kernel
theorem dX4_takeBackAbove_15 : decode cX4_takeBackAbove 15 = .ok (.invokevirtual 34, 3) := by decide +kernel
theorem dX4_takeBackAbove_18 : decode cX4_takeBackAbove 18 = .ok (.iload_n 1, 1) := by decide +kernel
theorem dX4_takeBackAbove_19 : decode cX4_takeBackAbove 19 = .ok (.if_icmp .le 14, 3) := by decide +kernel
theorem dX4_takeBackAbove_22 : decode cX4_takeBackAbove 22 = .ok (.aload_n 0, 1) := by decide +kernel
theorem dX4_takeBackAbove_23 : decode cX4_takeBackAbove 23 = .ok (.iload_n 3, 1) := by decide +kernel
theorem dX4_takeBackAbove_24 : decode cX4_takeBackAbove 24 = .ok (.putfield 15, 3) := by decide +kernel
theorem dX4_takeBackAbove_27 : decode cX4_takeBackAbove 27 = .ok (.iinc 3 (-1), 3) := by decide +kernel
theorem dX4_takeBackAbove_30 : decode cX4_takeBackAbove 30 = .ok (.goto (-21), 3) := by decide +kernel
theorem dX4_takeBackAbove_33 : decode cX4_takeBackAbove 33 = .ok (.aload_n 0, 1) := by decide +kernel
theorem dX4_takeBackAbove_34 : decode cX4_takeBackAbove 34 = .ok (.dup, 1) := by decide +kernel
theorem dX4_takeBackAbove_35 : decode cX4_takeBackAbove 35 = .ok (.getfield 31, 3) := by decide +kernel
theorem dX4_takeBackAbove_38 : decode cX4_takeBackAbove 38 = .ok (.iload_n 2, 1) := by decide +kernel
theorem dX4_takeBackAbove_39 : decode cX4_takeBackAbove 39 = .ok (.aload_n 0, 1) := by decide +kernel
theorem dX4_takeBackAbove_40 : decode cX4_takeBackAbove 40 = .ok (.getfield 15, 3) := by decide +kernel
theorem dX4_takeBackAbove_43 : decode cX4_takeBackAbove 43 = .ok (.isub, 1) := by decide +kernel
theorem dX4_takeBackAbove_44 : decode cX4_takeBackAbove 44 = .ok (.iadd, 1) := by decide +kernel
theorem dX4_takeBackAbove_45 : decode cX4_takeBackAbove 45 = .ok (.putfield 31, 3) := by decide +kernel
theorem dX4_takeBackAbove_48 : decode cX4_takeBackAbove 48 = .ok (.iload_n 2, 1) := by decide +kernel
theorem dX4_takeBackAbove_49 : decode cX4_takeBackAbove 49 = .ok (.aload_n 0, 1) := by decide +kernel
theorem dX4_takeBackAbove_50 : decode cX4_takeBackAbove 50 = .ok (.getfield 15, 3) := by decide +kernel
theorem dX4_takeBackAbove_53 : decode cX4_takeBackAbove 53 = .ok (.isub, 1) := by decide +kernel
theorem dX4_takeBackAbove_54 : decode cX4_takeBackAbove 54 = .ok (.ireturn, 1) := by decide +kernel
theorem dX4_sinkAll_0 : decode cX4_sinkAll 0 = .ok (.iconst 0, 1) := by decide +kernel
theorem dX4_sinkAll_1 : decode cX4_sinkAll 1 = .ok (.istore_n 2, 1) := by decide +kernel
theorem dX4_sinkAll_2 : decode cX4_sinkAll 2 = .ok (.iload_n 2, 1) := by decide +kernel
theorem dX4_sinkAll_3 : decode cX4_sinkAll 3 = .ok (.aload_n 0, 1) := by decide +kernel
theorem dX4_sinkAll_4 : decode cX4_sinkAll 4 = .ok (.getfield 15, 3) := by decide +kernel
theorem dX4_sinkAll_7 : decode cX4_sinkAll 7 = .ok (.if_icmp .ge 21, 3) := by decide +kernel
theorem dX4_sinkAll_10 : decode cX4_sinkAll 10 = .ok (.aload_n 0, 1) := by decide +kernel
theorem dX4_sinkAll_11 : decode cX4_sinkAll 11 = .ok (.iload_n 2, 1) := by decide +kernel
theorem dX4_sinkAll_12 : decode cX4_sinkAll 12 = .ok (.aload_n 0, 1) := by decide +kernel
theorem dX4_sinkAll_13 : decode cX4_sinkAll 13 = .ok (.iload_n 2, 1) := by decide +kernel
theorem dX4_sinkAll_14 : decode cX4_sinkAll 14 = .ok (.invokevirtual 34, 3) := by decide +kernel
theorem dX4_sinkAll_17 : decode cX4_sinkAll 17 = .ok (.iload_n 1, 1) := by decide +kernel
theorem dX4_sinkAll_18 : decode cX4_sinkAll 18 = .ok (.isub, 1) := by decide +kernel
theorem dX4_sinkAll_19 : decode cX4_sinkAll 19 = .ok (.invokevirtual 38, 3) := by decide +kernel
theorem dX4_sinkAll_22 : decode cX4_sinkAll 22 = .ok (.iinc 2 1, 3) := by decide +kernel
theorem dX4_sinkAll_25 : decode cX4_sinkAll 25 = .ok (.goto (-23), 3) := by decide +kernel
theorem dX4_sinkAll_28 : decode cX4_sinkAll 28 = .ok (.return_, 1) := by decide +kernel
theorem dX5_init_0 : decode cX5_init 0 = .ok (.aload_n 0, 1) := by decide +kernel
theorem dX5_init_1 : decode cX5_init 1 = .ok (.invokespecial 3, 3) := by decide +kernel
theorem dX5_init_4 : decode cX5_init 4 = .ok (.aload_n 0, 1) := by decide +kernel
theorem dX5_init_5 : decode cX5_init 5 = .ok (.new 9, 3) := by decide +kernel
theorem dX5_init_8 : decode cX5_init 8 = .ok (.dup, 1) := by decide +kernel
theorem dX5_init_9 : decode cX5_init 9 = .ok (.invokespecial 11, 3) := by decide +kernel
theorem dX5_init_12 : decode cX5_init 12 = .ok (.putfield 12, 3) := by decide +kernel
theorem dX5_init_15 : decode cX5_init 15 = .ok (.aload_n 0, 1) := by decide +kernel
theorem dX5_init_16 : decode cX5_init 16 = .ok (.new 18, 3) := by decide +kernel
theorem dX5_init_19 : decode cX5_init 19 = .ok (.dup, 1) := by decide +kernel
theorem dX5_init_20 : decode cX5_init 20 = .ok (.invokespecial 20, 3) := by decide +kernel
theorem dX5_init_23 : decode cX5_init 23 = .ok (.putfield 21, 3) := by decide +kernel
theorem dX5_init_26 : decode cX5_init 26 = .ok (.aload_n 0, 1) := by decide +kernel
theorem dX5_init_27 : decode cX5_init 27 = .ok (.new 25, 3) := by decide +kernel
theorem dX5_init_30 : decode cX5_init 30 = .ok (.dup, 1) := by decide +kernel
theorem dX5_init_31 : decode cX5_init 31 = .ok (.invokespecial 27, 3) := by decide +kernel
theorem dX5_init_34 : decode cX5_init 34 = .ok (.putfield 28, 3) := by decide +kernel
theorem dX5_init_37 : decode cX5_init 37 = .ok (.aload_n 0, 1) := by decide +kernel
theorem dX5_init_38 : decode cX5_init 38 = .ok (.bipush 10, 2) := by decide +kernel
theorem dX5_init_40 : decode cX5_init 40 = .ok (.anewarray 32, 3) := by decide +kernel
theorem dX5_init_43 : decode cX5_init 43 = .ok (.putfield 34, 3) := by decide +kernel
theorem dX5_init_46 : decode cX5_init 46 = .ok (.aload_n 0, 1) := by decide +kernel
theorem dX5_init_47 : decode cX5_init 47 = .ok (.bipush 20, 2) := by decide +kernel
theorem dX5_init_49 : decode cX5_init 49 = .ok (.putfield 38, 3) := by decide +kernel
theorem dX5_init_52 : decode cX5_init 52 = .ok (.aload_n 0, 1) := by decide +kernel
theorem dX5_init_53 : decode cX5_init 53 = .ok (.sipush 200, 3) := by decide +kernel
theorem dX5_init_56 : decode cX5_init 56 = .ok (.putfield 42, 3) := by decide +kernel
theorem dX5_init_59 : decode cX5_init 59 = .ok (.iconst 0, 1) := by decide +kernel
theorem dX5_init_60 : decode cX5_init 60 = .ok (.istore_n 1, 1) := by decide +kernel
theorem dX5_init_61 : decode cX5_init 61 = .ok (.iload_n 1, 1) := by decide +kernel
theorem dX5_init_62 : decode cX5_init 62 = .ok (.bipush 10, 2) := by decide +kernel
theorem dX5_init_64 : decode cX5_init 64 = .ok (.if_icmp .ge 22, 3) := by decide +kernel
theorem dX5_init_67 : decode cX5_init 67 = .ok (.aload_n 0, 1) := by decide +kernel
theorem dX5_init_68 : decode cX5_init 68 = .ok (.getfield 34, 3) := by decide +kernel
theorem dX5_init_71 : decode cX5_init 71 = .ok (.iload_n 1, 1) := by decide +kernel
theorem dX5_init_72 : decode cX5_init 72 = .ok (.new 32, 3) := by decide +kernel
theorem dX5_init_75 : decode cX5_init 75 = .ok (.dup, 1) := by decide +kernel
theorem dX5_init_76 : decode cX5_init 76 = .ok (.invokespecial 45, 3) := by decide +kernel
theorem dX5_init_79 : decode cX5_init 79 = .ok (.aastore, 1) := by decide +kernel
theorem dX5_init_80 : decode cX5_init 80 = .ok (.iinc 1 1, 3) := by decide +kernel
theorem dX5_init_83 : decode cX5_init 83 = .ok (.goto (-22), 3) := by decide +kernel
theorem dX5_init_86 : decode cX5_init 86 = .ok (.return_, 1) := by decide +kernel
theorem dX5_copyFrom_0 : decode cX5_copyFrom 0 = .ok (.aload_n 0, 1) := by decide +kernel
theorem dX5_copyFrom_1 : decode cX5_copyFrom 1 = .ok (.getfield 12, 3) := by decide +kernel
theorem dX5_copyFrom_4 : decode cX5_copyFrom 4 = .ok (.aload_n 1, 1) := by decide +kernel
theorem dX5_copyFrom_5 : decode cX5_copyFrom 5 = .ok (.getfield 12, 3) := by decide +kernel
theorem dX5_copyFrom_8 : decode cX5_copyFrom 8 = .ok (.invokevirtual 46, 3) := by decide +kernel
theorem dX5_copyFrom_11 : decode cX5_copyFrom 11 = .ok (.aload_n 0, 1) := by decide +kernel
theorem dX5_copyFrom_12 : decode cX5_copyFrom 12 = .ok (.getfield 21, 3) := by decide +kernel
theorem dX5_copyFrom_15 : decode cX5_copyFrom 15 = .ok (.aload_n 1, 1) := by decide +kernel
theorem dX5_copyFrom_16 : decode cX5_copyFrom 16 = .ok (.getfield 21, 3) := by decide +kernel
theorem dX5_copyFrom_19 : decode cX5_copyFrom 19 = .ok (.invokevirtual 50, 3) := by decide +kernel
theorem dX5_copyFrom_22 : decode cX5_copyFrom 22 = .ok (.aload_n 0, 1) := by decide +kernel
theorem dX5_copyFrom_23 : decode cX5_copyFrom 23 = .ok (.getfield 28, 3) := by decide +kernel
theorem dX5_copyFrom_26 : decode cX5_copyFrom 26 = .ok (.aload_n 1, 1) := by decide +kernel
theorem dX5_copyFrom_27 : decode cX5_copyFrom 27 = .ok (.getfield 28, 3) := by decide +kernel
theorem dX5_copyFrom_30 : decode cX5_copyFrom 30 = .ok (.invokevirtual 53, 3) := by decide +kernel
theorem dX5_copyFrom_33 : decode cX5_copyFrom 33 = .ok (.aload_n 0, 1) := by decide +kernel
theorem dX5_copyFrom_34 : decode cX5_copyFrom 34 = .ok (.aload_n 1, 1) := by decide +kernel
theorem dX5_copyFrom_35 : decode cX5_copyFrom 35 = .ok (.getfield 56, 3) := by decide +kernel
theorem dX5_copyFrom_38 : decode cX5_copyFrom 38 = .ok (.putfield 56, 3) := by decide +kernel
theorem dX5_copyFrom_41 : decode cX5_copyFrom 41 = .ok (.aload_n 0, 1) := by decide +kernel
theorem dX5_copyFrom_42 : decode cX5_copyFrom 42 = .ok (.aload_n 1, 1) := by decide +kernel
theorem dX5_copyFrom_43 : decode cX5_copyFrom 43 = .ok (.getfield 59, 3) := by decide +kernel
theorem dX5_copyFrom_46 : decode cX5_copyFrom 46 = .ok (.putfield 59, 3) := by decide +kernel
theorem dX5_copyFrom_49 : decode cX5_copyFrom 49 = .ok (.aload_n 0, 1) := by decide +kernel
theorem dX5_copyFrom_50 : decode cX5_copyFrom 50 = .ok (.aload_n 1, 1) := by decide +kernel
theorem dX5_copyFrom_51 : decode cX5_copyFrom 51 = .ok (.getfield 38, 3) := by decide +kernel
theorem dX5_copyFrom_54 : decode cX5_copyFrom 54 = .ok (.putfield 38, 3) := by decide +kernel
theorem dX5_copyFrom_57 : decode cX5_copyFrom 57 = .ok (.aload_n 0, 1) := by decide +kernel
theorem dX5_copyFrom_58 : decode cX5_copyFrom 58 = .ok (.aload_n 1, 1) := by decide +kernel
theorem dX5_copyFrom_59 : decode cX5_copyFrom 59 = .ok (.getfield 42, 3) := by decide +kernel
theorem dX5_copyFrom_62 : decode cX5_copyFrom 62 = .ok (.putfield 42, 3) := by decide +kernel
theorem dX5_copyFrom_65 : decode cX5_copyFrom 65 = .ok (.iconst 0, 1) := by decide +kernel
theorem dX5_copyFrom_66 : decode cX5_copyFrom 66 = .ok (.istore_n 2, 1) := by decide +kernel
theorem dX5_copyFrom_67 : decode cX5_copyFrom 67 = .ok (.iload_n 2, 1) := by decide +kernel
theorem dX5_copyFrom_68 : decode cX5_copyFrom 68 = .ok (.aload_n 0, 1) := by decide +kernel
theorem dX5_copyFrom_69 : decode cX5_copyFrom 69 = .ok (.getfield 56, 3) := by decide +kernel
theorem dX5_copyFrom_72 : decode cX5_copyFrom 72 = .ok (.if_icmp .ge 37, 3) := by decide +kernel
theorem dX5_copyFrom_75 : decode cX5_copyFrom 75 = .ok (.aload_n 0, 1) := by decide +kernel
theorem dX5_copyFrom_76 : decode cX5_copyFrom 76 = .ok (.iload_n 2, 1) := by decide +kernel
theorem dX5_copyFrom_77 : decode cX5_copyFrom 77 = .ok (.invokevirtual 62, 3) := by decide +kernel
theorem dX5_copyFrom_80 : decode cX5_copyFrom 80 = .ok (.astore_n 3, 1) := by decide +kernel
theorem dX5_copyFrom_81 : decode cX5_copyFrom 81 = .ok (.aload_n 1, 1) := by decide +kernel
theorem dX5_copyFrom_82 : decode cX5_copyFrom 82 = .ok (.iload_n 2, 1) := by decide +kernel
theorem dX5_copyFrom_83 : decode cX5_copyFrom 83 = .ok (.invokevirtual 62, 3) := by decide +kernel
theorem dX5_copyFrom_86 : decode cX5_copyFrom 86 = .ok (.astore 4, 2) := by decide +kernel
theorem dX5_copyFrom_88 : decode cX5_copyFrom 88 = .ok (.aload_n 3, 1) := by decide +kernel
theorem dX5_copyFrom_89 : decode cX5_copyFrom 89 = .ok (.ifnull 14, 3) := by decide +kernel
theorem dX5_copyFrom_92 : decode cX5_copyFrom 92 = .ok (.aload 4, 2) := by decide +kernel
theorem dX5_copyFrom_94 : decode cX5_copyFrom 94 = .ok (.ifnull 9, 3) := by decide +kernel
theorem dX5_copyFrom_97 : decode cX5_copyFrom 97 = .ok (.aload_n 3, 1) := by decide +kernel
theorem dX5_copyFrom_98 : decode cX5_copyFrom 98 = .ok (.aload 4, 2) := by decide +kernel
theorem dX5_copyFrom_100 : decode cX5_copyFrom 100 = .ok (.invokevirtual 66, 3) := by decide +kernel
theorem dX5_copyFrom_103 : decode cX5_copyFrom 103 = .ok (.iinc 2 1, 3) := by decide +kernel
theorem dX5_copyFrom_106 : decode cX5_copyFrom 106 = .ok (.goto (-39), 3) := by decide +kernel
theorem dX5_copyFrom_109 : decode cX5_copyFrom 109 = .ok (.return_, 1) := by decide +kernel
theorem dX5_bottleAt_0 : decode cX5_bottleAt 0 = .ok (.iload_n 1, 1) := by decide +kernel
theorem dX5_bottleAt_1 : decode cX5_bottleAt 1 = .ok (.ifCond .lt 26, 3) := by decide +kernel
theorem dX5_bottleAt_4 : decode cX5_bottleAt 4 = .ok (.iload_n 1, 1) := by decide +kernel
theorem dX5_bottleAt_5 : decode cX5_bottleAt 5 = .ok (.aload_n 0, 1) := by decide +kernel
theorem dX5_bottleAt_6 : decode cX5_bottleAt 6 = .ok (.getfield 56, 3) := by decide +kernel
theorem dX5_bottleAt_9 : decode cX5_bottleAt 9 = .ok (.if_icmp .ge 18, 3) := by decide +kernel
theorem dX5_bottleAt_12 : decode cX5_bottleAt 12 = .ok (.iload_n 1, 1) := by decide +kernel
theorem dX5_bottleAt_13 : decode cX5_bottleAt 13 = .ok (.bipush 10, 2) := by decide +kernel
theorem dX5_bottleAt_15 : decode cX5_bottleAt 15 = .ok (.if_icmp .ge 12, 3) := by decide +kernel
theorem dX5_bottleAt_18 : decode cX5_bottleAt 18 = .ok (.aload_n 0, 1) := by decide +kernel
theorem dX5_bottleAt_19 : decode cX5_bottleAt 19 = .ok (.getfield 34, 3) := by decide +kernel
theorem dX5_bottleAt_22 : decode cX5_bottleAt 22 = .ok (.iload_n 1, 1) := by decide +kernel
theorem dX5_bottleAt_23 : decode cX5_bottleAt 23 = .ok (.aaload, 1) := by decide +kernel
theorem dX5_bottleAt_24 : decode cX5_bottleAt 24 = .ok (.goto 4, 3) := by decide +kernel
theorem dX5_bottleAt_27 : decode cX5_bottleAt 27 = .ok (.aconst_null, 1) := by decide +kernel
theorem dX5_bottleAt_28 : decode cX5_bottleAt 28 = .ok (.areturn, 1) := by decide +kernel
theorem dX5_payOut_0 : decode cX5_payOut 0 = .ok (.iload_n 1, 1) := by decide +kernel
theorem dX5_payOut_1 : decode cX5_payOut 1 = .ok (.sipush (-999), 3) := by decide +kernel
theorem dX5_payOut_4 : decode cX5_payOut 4 = .ok (.if_icmp .lt 14, 3) := by decide +kernel
theorem dX5_payOut_7 : decode cX5_payOut 7 = .ok (.iload_n 1, 1) := by decide +kernel
theorem dX5_payOut_8 : decode cX5_payOut 8 = .ok (.sipush 999, 3) := by decide +kernel
theorem dX5_payOut_11 : decode cX5_payOut 11 = .ok (.if_icmp .gt 7, 3) := by decide +kernel
theorem dX5_payOut_14 : decode cX5_payOut 14 = .ok (.iload_n 1, 1) := by decide +kernel
theorem dX5_payOut_15 : decode cX5_payOut 15 = .ok (.ifCond .ne 7, 3) := by decide +kernel
theorem dX5_payOut_18 : decode cX5_payOut 18 = .ok (.sipush (-1002), 3) := by decide +kernel
theorem dX5_payOut_21 : decode cX5_payOut 21 = .ok (.ireturn, 1) := by decide +kernel
theorem dX5_payOut_22 : decode cX5_payOut 22 = .ok (.aload_n 0, 1) := by decide +kernel
theorem dX5_payOut_23 : decode cX5_payOut 23 = .ok (.getfield 12, 3) := by decide +kernel
theorem dX5_payOut_26 : decode cX5_payOut 26 = .ok (.getfield 69, 3) := by decide +kernel
theorem dX5_payOut_29 : decode cX5_payOut 29 = .ok (.iload_n 1, 1) := by decide +kernel
theorem dX5_payOut_30 : decode cX5_payOut 30 = .ok (.iadd, 1) := by decide +kernel
theorem dX5_payOut_31 : decode cX5_payOut 31 = .ok (.istore_n 2, 1) := by decide +kernel
theorem dX5_payOut_32 : decode cX5_payOut 32 = .ok (.iload_n 2, 1) := by decide +kernel
theorem dX5_payOut_33 : decode cX5_payOut 33 = .ok (.ifCond .ge 7, 3) := by decide +kernel
theorem dX5_payOut_36 : decode cX5_payOut 36 = .ok (.sipush (-1004), 3) := by decide +kernel
theorem dX5_payOut_39 : decode cX5_payOut 39 = .ok (.ireturn, 1) := by decide +kernel
theorem dX5_payOut_40 : decode cX5_payOut 40 = .ok (.iload_n 2, 1) := by decide +kernel
theorem dX5_payOut_41 : decode cX5_payOut 41 = .ok (.sipush 999, 3) := by decide +kernel
theorem dX5_payOut_44 : decode cX5_payOut 44 = .ok (.if_icmp .le 7, 3) := by decide +kernel
theorem dX5_payOut_47 : decode cX5_payOut 47 = .ok (.sipush (-1003), 3) := by decide +kernel
theorem dX5_payOut_50 : decode cX5_payOut 50 = .ok (.ireturn, 1) := by decide +kernel
theorem dX5_payOut_51 : decode cX5_payOut 51 = .ok (.aload_n 0, 1) := by decide +kernel
theorem dX5_payOut_52 : decode cX5_payOut 52 = .ok (.getfield 12, 3) := by decide +kernel
theorem dX5_payOut_55 : decode cX5_payOut 55 = .ok (.iload_n 2, 1) := by decide +kernel
theorem dX5_payOut_56 : decode cX5_payOut 56 = .ok (.putfield 69, 3) := by decide +kernel
theorem dX5_payOut_59 : decode cX5_payOut 59 = .ok (.iload_n 1, 1) := by decide +kernel
theorem dX5_payOut_60 : decode cX5_payOut 60 = .ok (.invokestatic 72, 3) := by decide +kernel
theorem dX5_payOut_63 : decode cX5_payOut 63 = .ok (.aload_n 0, 1) := by decide +kernel
theorem dX5_payOut_64 : decode cX5_payOut 64 = .ok (.getfield 42, 3) := by decide +kernel
theorem dX5_payOut_67 : decode cX5_payOut 67 = .ok (.if_icmp .le 7, 3) := by decide +kernel
theorem dX5_payOut_70 : decode cX5_payOut 70 = .ok (.aload_n 0, 1) := by decide +kernel
theorem dX5_payOut_71 : decode cX5_payOut 71 = .ok (.invokevirtual 78, 3) := by decide +kernel
theorem dX5_payOut_74 : decode cX5_payOut 74 = .ok (.aload_n 0, 1) := by decide +kernel
theorem dX5_payOut_75 : decode cX5_payOut 75 = .ok (.getfield 28, 3) := by decide +kernel
theorem dX5_payOut_78 : decode cX5_payOut 78 = .ok (.iload_n 2, 1) := by decide +kernel
theorem dX5_payOut_79 : decode cX5_payOut 79 = .ok (.invokevirtual 81, 3) := by decide +kernel
theorem dX5_payOut_82 : decode cX5_payOut 82 = .ok (.ireturn, 1) := by decide +kernel
theorem dX5_changeSlope_0 : decode cX5_changeSlope 0 = .ok (.iload_n 1, 1) := by decide +kernel
theorem dX5_changeSlope_1 : decode cX5_changeSlope 1 = .ok (.ifCond .lt 9, 3) := by decide +kernel
theorem dX5_changeSlope_4 : decode cX5_changeSlope 4 = .ok (.iload_n 1, 1) := by decide +kernel
theorem dX5_changeSlope_5 : decode cX5_changeSlope 5 = .ok (.bipush 6, 2) := by decide +kernel
theorem dX5_changeSlope_7 : decode cX5_changeSlope 7 = .ok (.if_icmp .le 7, 3) := by decide +kernel
theorem dX5_changeSlope_10 : decode cX5_changeSlope 10 = .ok (.sipush (-1002), 3) := by decide +kernel
theorem dX5_changeSlope_13 : decode cX5_changeSlope 13 = .ok (.ireturn, 1) := by decide +kernel
theorem dX5_changeSlope_14 : decode cX5_changeSlope 14 = .ok (.aload_n 0, 1) := by decide +kernel
theorem dX5_changeSlope_15 : decode cX5_changeSlope 15 = .ok (.getfield 12, 3) := by decide +kernel
theorem dX5_changeSlope_18 : decode cX5_changeSlope 18 = .ok (.getfield 84, 3) := by decide +kernel
theorem dX5_changeSlope_21 : decode cX5_changeSlope 21 = .ok (.istore_n 2, 1) := by decide +kernel
theorem dX5_changeSlope_22 : decode cX5_changeSlope 22 = .ok (.iload_n 2, 1) := by decide +kernel
theorem dX5_changeSlope_23 : decode cX5_changeSlope 23 = .ok (.iload_n 1, 1) := by decide +kernel
theorem dX5_changeSlope_24 : decode cX5_changeSlope 24 = .ok (.if_icmp .ne 7, 3) := by decide +kernel
theorem dX5_changeSlope_27 : decode cX5_changeSlope 27 = .ok (.sipush (-1005), 3) := by decide +kernel
theorem dX5_changeSlope_30 : decode cX5_changeSlope 30 = .ok (.ireturn, 1) := by decide +kernel
theorem dX5_changeSlope_31 : decode cX5_changeSlope 31 = .ok (.aload_n 0, 1) := by decide +kernel
theorem dX5_changeSlope_32 : decode cX5_changeSlope 32 = .ok (.getfield 12, 3) := by decide +kernel
theorem dX5_changeSlope_35 : decode cX5_changeSlope 35 = .ok (.iload_n 1, 1) := by decide +kernel
theorem dX5_changeSlope_36 : decode cX5_changeSlope 36 = .ok (.putfield 84, 3) := by decide +kernel
theorem dX5_changeSlope_39 : decode cX5_changeSlope 39 = .ok (.iload_n 2, 1) := by decide +kernel
theorem dX5_changeSlope_40 : decode cX5_changeSlope 40 = .ok (.ireturn, 1) := by decide +kernel
theorem dX5_changeWeight_0 : decode cX5_changeWeight 0 = .ok (.aload_n 0, 1) := by decide +kernel
theorem dX5_changeWeight_1 : decode cX5_changeWeight 1 = .ok (.getfield 12, 3) := by decide +kernel
theorem dX5_changeWeight_4 : decode cX5_changeWeight 4 = .ok (.getfield 87, 3) := by decide +kernel
theorem dX5_changeWeight_7 : decode cX5_changeWeight 7 = .ok (.ifCond .eq 21, 3) := by decide +kernel
theorem dX5_changeWeight_10 : decode cX5_changeWeight 10 = .ok (.iload_n 1, 1) := by decide +kernel
theorem dX5_changeWeight_11 : decode cX5_changeWeight 11 = .ok (.ifCond .ne 17, 3) := by decide +kernel
theorem dX5_changeWeight_14 : decode cX5_changeWeight 14 = .ok (.aload_n 0, 1) := by decide +kernel
theorem dX5_changeWeight_15 : decode cX5_changeWeight 15 = .ok (.getfield 12, 3) := by decide +kernel
theorem dX5_changeWeight_18 : decode cX5_changeWeight 18 = .ok (.getfield 69, 3) := by decide +kernel
theorem dX5_changeWeight_21 : decode cX5_changeWeight 21 = .ok (.ifCond .le 7, 3) := by decide +kernel
theorem dX5_changeWeight_24 : decode cX5_changeWeight 24 = .ok (.sipush (-1004), 3) := by decide +kernel
theorem dX5_changeWeight_27 : decode cX5_changeWeight 27 = .ok (.ireturn, 1) := by decide +kernel
theorem dX5_changeWeight_28 : decode cX5_changeWeight 28 = .ok (.aload_n 0, 1) := by decide +kernel
theorem dX5_changeWeight_29 : decode cX5_changeWeight 29 = .ok (.getfield 12, 3) := by decide +kernel
theorem dX5_changeWeight_32 : decode cX5_changeWeight 32 = .ok (.getfield 87, 3) := by decide +kernel
theorem dX5_changeWeight_35 : decode cX5_changeWeight 35 = .ok (.iload_n 1, 1) := by decide +kernel
theorem dX5_changeWeight_36 : decode cX5_changeWeight 36 = .ok (.if_icmp .ne 7, 3) := by decide +kernel
theorem dX5_changeWeight_39 : decode cX5_changeWeight 39 = .ok (.sipush (-1005), 3) := by decide +kernel
theorem dX5_changeWeight_42 : decode cX5_changeWeight 42 = .ok (.ireturn, 1) := by decide +kernel
theorem dX5_changeWeight_43 : decode cX5_changeWeight 43 = .ok (.aload_n 0, 1) := by decide +kernel
theorem dX5_changeWeight_44 : decode cX5_changeWeight 44 = .ok (.getfield 12, 3) := by decide +kernel
theorem dX5_changeWeight_47 : decode cX5_changeWeight 47 = .ok (.iload_n 1, 1) := by decide +kernel
theorem dX5_changeWeight_48 : decode cX5_changeWeight 48 = .ok (.putfield 87, 3) := by decide +kernel
theorem dX5_changeWeight_51 : decode cX5_changeWeight 51 = .ok (.aload_n 0, 1) := by decide +kernel
theorem dX5_changeWeight_52 : decode cX5_changeWeight 52 = .ok (.getfield 12, 3) := by decide +kernel
theorem dX5_changeWeight_55 : decode cX5_changeWeight 55 = .ok (.invokevirtual 91, 3) := by decide +kernel
theorem dX5_changeWeight_58 : decode cX5_changeWeight 58 = .ok (.ireturn, 1) := by decide +kernel
theorem dX5_addBottle_0 : decode cX5_addBottle 0 = .ok (.aload_n 0, 1) := by decide +kernel
theorem dX5_addBottle_1 : decode cX5_addBottle 1 = .ok (.getfield 56, 3) := by decide +kernel
theorem dX5_addBottle_4 : decode cX5_addBottle 4 = .ok (.bipush 10, 2) := by decide +kernel
theorem dX5_addBottle_6 : decode cX5_addBottle 6 = .ok (.if_icmp .lt 7, 3) := by decide +kernel
theorem dX5_addBottle_9 : decode cX5_addBottle 9 = .ok (.sipush (-1003), 3) := by decide +kernel
theorem dX5_addBottle_12 : decode cX5_addBottle 12 = .ok (.ireturn, 1) := by decide +kernel
theorem dX5_addBottle_13 : decode cX5_addBottle 13 = .ok (.iconst 0, 1) := by decide +kernel
theorem dX5_addBottle_14 : decode cX5_addBottle 14 = .ok (.istore_n 2, 1) := by decide +kernel
theorem dX5_addBottle_15 : decode cX5_addBottle 15 = .ok (.iconst 0, 1) := by decide +kernel
theorem dX5_addBottle_16 : decode cX5_addBottle 16 = .ok (.istore_n 3, 1) := by decide +kernel
theorem dX5_addBottle_17 : decode cX5_addBottle 17 = .ok (.iload_n 3, 1) := by decide +kernel
theorem dX5_addBottle_18 : decode cX5_addBottle 18 = .ok (.aload_n 0, 1) := by decide +kernel
theorem dX5_addBottle_19 : decode cX5_addBottle 19 = .ok (.getfield 56, 3) := by decide +kernel
theorem dX5_addBottle_22 : decode cX5_addBottle 22 = .ok (.if_icmp .ge 69, 3) := by decide +kernel
theorem dX5_addBottle_25 : decode cX5_addBottle 25 = .ok (.aload_n 0, 1) := by decide +kernel
theorem dX5_addBottle_26 : decode cX5_addBottle 26 = .ok (.iload_n 3, 1) := by decide +kernel
theorem dX5_addBottle_27 : decode cX5_addBottle 27 = .ok (.invokevirtual 62, 3) := by decide +kernel
theorem dX5_addBottle_30 : decode cX5_addBottle 30 = .ok (.astore 4, 2) := by decide +kernel
theorem dX5_addBottle_32 : decode cX5_addBottle 32 = .ok (.aload 4, 2) := by decide +kernel
theorem dX5_addBottle_34 : decode cX5_addBottle 34 = .ok (.ifnull 27, 3) := by decide +kernel
theorem dX5_addBottle_37 : decode cX5_addBottle 37 = .ok (.aload 4, 2) := by decide +kernel
theorem dX5_addBottle_39 : decode cX5_addBottle 39 = .ok (.getfield 95, 3) := by decide +kernel
theorem dX5_addBottle_42 : decode cX5_addBottle 42 = .ok (.aload_n 0, 1) := by decide +kernel
theorem dX5_addBottle_43 : decode cX5_addBottle 43 = .ok (.getfield 12, 3) := by decide +kernel
theorem dX5_addBottle_46 : decode cX5_addBottle 46 = .ok (.getfield 69, 3) := by decide +kernel
theorem dX5_addBottle_49 : decode cX5_addBottle 49 = .ok (.isub, 1) := by decide +kernel
theorem dX5_addBottle_50 : decode cX5_addBottle 50 = .ok (.invokestatic 72, 3) := by decide +kernel
theorem dX5_addBottle_53 : decode cX5_addBottle 53 = .ok (.iconst 5, 1) := by decide +kernel
theorem dX5_addBottle_54 : decode cX5_addBottle 54 = .ok (.if_icmp .ge 7, 3) := by decide +kernel
theorem dX5_addBottle_57 : decode cX5_addBottle 57 = .ok (.sipush (-1004), 3) := by decide +kernel
theorem dX5_addBottle_60 : decode cX5_addBottle 60 = .ok (.ireturn, 1) := by decide +kernel
theorem dX5_addBottle_61 : decode cX5_addBottle 61 = .ok (.aload 4, 2) := by decide +kernel
theorem dX5_addBottle_63 : decode cX5_addBottle 63 = .ok (.ifnull 22, 3) := by decide +kernel
theorem dX5_addBottle_66 : decode cX5_addBottle 66 = .ok (.aload 4, 2) := by decide +kernel
theorem dX5_addBottle_68 : decode cX5_addBottle 68 = .ok (.getfield 95, 3) := by decide +kernel
theorem dX5_addBottle_71 : decode cX5_addBottle 71 = .ok (.aload_n 0, 1) := by decide +kernel
theorem dX5_addBottle_72 : decode cX5_addBottle 72 = .ok (.getfield 12, 3) := by decide +kernel
theorem dX5_addBottle_75 : decode cX5_addBottle 75 = .ok (.getfield 69, 3) := by decide +kernel
theorem dX5_addBottle_78 : decode cX5_addBottle 78 = .ok (.if_icmp .ge 7, 3) := by decide +kernel
theorem dX5_addBottle_81 : decode cX5_addBottle 81 = .ok (.iload_n 3, 1) := by decide +kernel
theorem dX5_addBottle_82 : decode cX5_addBottle 82 = .ok (.iconst 1, 1) := by decide +kernel
theorem dX5_addBottle_83 : decode cX5_addBottle 83 = .ok (.iadd, 1) := by decide +kernel
theorem dX5_addBottle_84 : decode cX5_addBottle 84 = .ok (.istore_n 2, 1) := by decide +kernel
theorem dX5_addBottle_85 : decode cX5_addBottle 85 = .ok (.iinc 3 1, 3) := by decide +kernel
theorem dX5_addBottle_88 : decode cX5_addBottle 88 = .ok (.goto (-71), 3) := by decide +kernel
theorem dX5_addBottle_91 : decode cX5_addBottle 91 = .ok (.aload_n 0, 1) := by decide +kernel
theorem dX5_addBottle_92 : decode cX5_addBottle 92 = .ok (.iload_n 2, 1) := by decide +kernel
theorem dX5_addBottle_93 : decode cX5_addBottle 93 = .ok (.iload_n 1, 1) := by decide +kernel
theorem dX5_addBottle_94 : decode cX5_addBottle 94 = .ok (.invokevirtual 98, 3) := by decide +kernel
theorem dX5_addBottle_97 : decode cX5_addBottle 97 = .ok (.iload_n 2, 1) := by decide +kernel
theorem dX5_addBottle_98 : decode cX5_addBottle 98 = .ok (.ireturn, 1) := by decide +kernel
theorem dX5_removeBottle_0 : decode cX5_removeBottle 0 = .ok (.aload_n 0, 1) := by decide +kernel
theorem dX5_removeBottle_1 : decode cX5_removeBottle 1 = .ok (.iload_n 1, 1) := by decide +kernel
theorem dX5_removeBottle_2 : decode cX5_removeBottle 2 = .ok (.invokevirtual 62, 3) := by decide +kernel
theorem dX5_removeBottle_5 : decode cX5_removeBottle 5 = .ok (.astore_n 2, 1) := by decide +kernel
theorem dX5_removeBottle_6 : decode cX5_removeBottle 6 = .ok (.aload_n 2, 1) := by decide +kernel
theorem dX5_removeBottle_7 : decode cX5_removeBottle 7 = .ok (.ifnonnull 7, 3) := by decide +kernel
theorem dX5_removeBottle_10 : decode cX5_removeBottle 10 = .ok (.sipush (-1001), 3) := by decide +kernel
theorem dX5_removeBottle_13 : decode cX5_removeBottle 13 = .ok (.ireturn, 1) := by decide +kernel
theorem dX5_removeBottle_14 : decode cX5_removeBottle 14 = .ok (.aload_n 0, 1) := by decide +kernel
theorem dX5_removeBottle_15 : decode cX5_removeBottle 15 = .ok (.getfield 12, 3) := by decide +kernel
theorem dX5_removeBottle_18 : decode cX5_removeBottle 18 = .ok (.aload_n 2, 1) := by decide +kernel
theorem dX5_removeBottle_19 : decode cX5_removeBottle 19 = .ok (.getfield 95, 3) := by decide +kernel
theorem dX5_removeBottle_22 : decode cX5_removeBottle 22 = .ok (.invokevirtual 102, 3) := by decide +kernel
theorem dX5_removeBottle_25 : decode cX5_removeBottle 25 = .ok (.ifCond .eq 7, 3) := by decide +kernel
theorem dX5_removeBottle_28 : decode cX5_removeBottle 28 = .ok (.sipush (-1004), 3) := by decide +kernel
theorem dX5_removeBottle_31 : decode cX5_removeBottle 31 = .ok (.ireturn, 1) := by decide +kernel
theorem dX5_removeBottle_32 : decode cX5_removeBottle 32 = .ok (.iload_n 1, 1) := by decide +kernel
theorem dX5_removeBottle_33 : decode cX5_removeBottle 33 = .ok (.istore_n 3, 1) := by decide +kernel
theorem dX5_removeBottle_34 : decode cX5_removeBottle 34 = .ok (.iload_n 3, 1) := by decide +kernel
theorem dX5_removeBottle_35 : decode cX5_removeBottle 35 = .ok (.ifCond .lt 39, 3) := by decide +kernel
theorem dX5_removeBottle_38 : decode cX5_removeBottle 38 = .ok (.iload_n 3, 1) := by decide +kernel
theorem dX5_removeBottle_39 : decode cX5_removeBottle 39 = .ok (.aload_n 0, 1) := by decide +kernel
theorem dX5_removeBottle_40 : decode cX5_removeBottle 40 = .ok (.getfield 56, 3) := by decide +kernel
theorem dX5_removeBottle_43 : decode cX5_removeBottle 43 = .ok (.iconst 1, 1) := by decide +kernel
theorem dX5_removeBottle_44 : decode cX5_removeBottle 44 = .ok (.isub, 1) := by decide +kernel
theorem dX5_removeBottle_45 : decode cX5_removeBottle 45 = .ok (.if_icmp .ge 29, 3) := by decide +kernel
theorem dX5_removeBottle_48 : decode cX5_removeBottle 48 = .ok (.iload_n 3, 1) := by decide +kernel
theorem dX5_removeBottle_49 : decode cX5_removeBottle 49 = .ok (.bipush 9, 2) := by decide +kernel
theorem dX5_removeBottle_51 : decode cX5_removeBottle 51 = .ok (.if_icmp .ge 23, 3) := by decide +kernel
theorem dX5_removeBottle_54 : decode cX5_removeBottle 54 = .ok (.aload_n 0, 1) := by decide +kernel
theorem dX5_removeBottle_55 : decode cX5_removeBottle 55 = .ok (.getfield 34, 3) := by decide +kernel
theorem dX5_removeBottle_58 : decode cX5_removeBottle 58 = .ok (.iload_n 3, 1) := by decide +kernel
theorem dX5_removeBottle_59 : decode cX5_removeBottle 59 = .ok (.aload_n 0, 1) := by decide +kernel
theorem dX5_removeBottle_60 : decode cX5_removeBottle 60 = .ok (.getfield 34, 3) := by decide +kernel
theorem dX5_removeBottle_63 : decode cX5_removeBottle 63 = .ok (.iload_n 3, 1) := by decide +kernel
theorem dX5_removeBottle_64 : decode cX5_removeBottle 64 = .ok (.iconst 1, 1) := by decide +kernel
theorem dX5_removeBottle_65 : decode cX5_removeBottle 65 = .ok (.iadd, 1) := by decide +kernel
theorem dX5_removeBottle_66 : decode cX5_removeBottle 66 = .ok (.aaload, 1) := by decide +kernel
theorem dX5_removeBottle_67 : decode cX5_removeBottle 67 = .ok (.aastore, 1) := by decide +kernel
theorem dX5_removeBottle_68 : decode cX5_removeBottle 68 = .ok (.iinc 3 1, 3) := by decide +kernel
theorem dX5_removeBottle_71 : decode cX5_removeBottle 71 = .ok (.goto (-37), 3) := by decide +kernel
theorem dX5_removeBottle_74 : decode cX5_removeBottle 74 = .ok (.aload_n 0, 1) := by decide +kernel
theorem dX5_removeBottle_75 : decode cX5_removeBottle 75 = .ok (.dup, 1) := by decide +kernel
theorem dX5_removeBottle_76 : decode cX5_removeBottle 76 = .ok (.getfield 56, 3) := by decide +kernel
theorem dX5_removeBottle_79 : decode cX5_removeBottle 79 = .ok (.iconst 1, 1) := by decide +kernel
theorem dX5_removeBottle_80 : decode cX5_removeBottle 80 = .ok (.isub, 1) := by decide +kernel
theorem dX5_removeBottle_81 : decode cX5_removeBottle 81 = .ok (.putfield 56, 3) := by decide +kernel
theorem dX5_removeBottle_84 : decode cX5_removeBottle 84 = .ok (.aload_n 0, 1) := by decide +kernel
theorem dX5_removeBottle_85 : decode cX5_removeBottle 85 = .ok (.getfield 56, 3) := by decide +kernel
theorem dX5_removeBottle_88 : decode cX5_removeBottle 88 = .ok (.ifCond .lt 22, 3) := by decide +kernel
theorem dX5_removeBottle_91 : decode cX5_removeBottle 91 = .ok (.aload_n 0, 1) := by decide +kernel
theorem dX5_removeBottle_92 : decode cX5_removeBottle 92 = .ok (.getfield 56, 3) := by decide +kernel
theorem dX5_removeBottle_95 : decode cX5_removeBottle 95 = .ok (.bipush 10, 2) := by decide +kernel
theorem dX5_removeBottle_97 : decode cX5_removeBottle 97 = .ok (.if_icmp .ge 13, 3) := by decide +kernel
theorem dX5_removeBottle_100 : decode cX5_removeBottle 100 = .ok (.aload_n 0, 1) := by decide +kernel
theorem dX5_removeBottle_101 : decode cX5_removeBottle 101 = .ok (.getfield 34, 3) := by decide +kernel
theorem dX5_removeBottle_104 : decode cX5_removeBottle 104 = .ok (.aload_n 0, 1) := by decide +kernel
theorem dX5_removeBottle_105 : decode cX5_removeBottle 105 = .ok (.getfield 56, 3) := by decide +kernel
theorem dX5_removeBottle_108 : decode cX5_removeBottle 108 = .ok (.aload_n 2, 1) := by decide +kernel
theorem dX5_removeBottle_109 : decode cX5_removeBottle 109 = .ok (.aastore, 1) := by decide +kernel
theorem dX5_removeBottle_110 : decode cX5_removeBottle 110 = .ok (.aload_n 0, 1) := by decide +kernel
theorem dX5_removeBottle_111 : decode cX5_removeBottle 111 = .ok (.getfield 56, 3) := by decide +kernel
theorem dX5_removeBottle_114 : decode cX5_removeBottle 114 = .ok (.ireturn, 1) := by decide +kernel
theorem dX5_letGo_0 : decode cX5_letGo 0 = .ok (.aload_n 0, 1) := by decide +kernel
theorem dX5_letGo_1 : decode cX5_letGo 1 = .ok (.getfield 12, 3) := by decide +kernel
theorem dX5_letGo_4 : decode cX5_letGo 4 = .ok (.getfield 69, 3) := by decide +kernel
theorem dX5_letGo_7 : decode cX5_letGo 7 = .ok (.ifCond .ne 7, 3) := by decide +kernel
theorem dX5_letGo_10 : decode cX5_letGo 10 = .ok (.sipush (-1004), 3) := by decide +kernel
theorem dX5_letGo_13 : decode cX5_letGo 13 = .ok (.ireturn, 1) := by decide +kernel
theorem dX5_letGo_14 : decode cX5_letGo 14 = .ok (.aload_n 0, 1) := by decide +kernel
theorem dX5_letGo_15 : decode cX5_letGo 15 = .ok (.getfield 28, 3) := by decide +kernel
theorem dX5_letGo_18 : decode cX5_letGo 18 = .ok (.getfield 106, 3) := by decide +kernel
theorem dX5_letGo_21 : decode cX5_letGo 21 = .ok (.bipush 12, 2) := by decide +kernel
theorem dX5_letGo_23 : decode cX5_letGo 23 = .ok (.if_icmp .lt 7, 3) := by decide +kernel
theorem dX5_letGo_26 : decode cX5_letGo 26 = .ok (.sipush (-1003), 3) := by decide +kernel
theorem dX5_letGo_29 : decode cX5_letGo 29 = .ok (.ireturn, 1) := by decide +kernel
theorem dX5_letGo_30 : decode cX5_letGo 30 = .ok (.aload_n 0, 1) := by decide +kernel
theorem dX5_letGo_31 : decode cX5_letGo 31 = .ok (.getfield 28, 3) := by decide +kernel
theorem dX5_letGo_34 : decode cX5_letGo 34 = .ok (.aload_n 0, 1) := by decide +kernel
theorem dX5_letGo_35 : decode cX5_letGo 35 = .ok (.getfield 28, 3) := by decide +kernel
theorem dX5_letGo_38 : decode cX5_letGo 38 = .ok (.getfield 106, 3) := by decide +kernel
theorem dX5_letGo_41 : decode cX5_letGo 41 = .ok (.aload_n 0, 1) := by decide +kernel
theorem dX5_letGo_42 : decode cX5_letGo 42 = .ok (.getfield 12, 3) := by decide +kernel
theorem dX5_letGo_45 : decode cX5_letGo 45 = .ok (.getfield 69, 3) := by decide +kernel
theorem dX5_letGo_48 : decode cX5_letGo 48 = .ok (.invokevirtual 109, 3) := by decide +kernel
theorem dX5_letGo_51 : decode cX5_letGo 51 = .ok (.aload_n 0, 1) := by decide +kernel
theorem dX5_letGo_52 : decode cX5_letGo 52 = .ok (.getfield 28, 3) := by decide +kernel
theorem dX5_letGo_55 : decode cX5_letGo 55 = .ok (.dup, 1) := by decide +kernel
theorem dX5_letGo_56 : decode cX5_letGo 56 = .ok (.getfield 106, 3) := by decide +kernel
theorem dX5_letGo_59 : decode cX5_letGo 59 = .ok (.iconst 1, 1) := by decide +kernel
theorem dX5_letGo_60 : decode cX5_letGo 60 = .ok (.iadd, 1) := by decide +kernel
theorem dX5_letGo_61 : decode cX5_letGo 61 = .ok (.putfield 106, 3) := by decide +kernel
theorem dX5_letGo_64 : decode cX5_letGo 64 = .ok (.aload_n 0, 1) := by decide +kernel
theorem dX5_letGo_65 : decode cX5_letGo 65 = .ok (.getfield 28, 3) := by decide +kernel
theorem dX5_letGo_68 : decode cX5_letGo 68 = .ok (.dup, 1) := by decide +kernel
theorem dX5_letGo_69 : decode cX5_letGo 69 = .ok (.getfield 113, 3) := by decide +kernel
theorem dX5_letGo_72 : decode cX5_letGo 72 = .ok (.iconst 1, 1) := by decide +kernel
theorem dX5_letGo_73 : decode cX5_letGo 73 = .ok (.iadd, 1) := by decide +kernel
theorem dX5_letGo_74 : decode cX5_letGo 74 = .ok (.putfield 113, 3) := by decide +kernel
theorem dX5_letGo_77 : decode cX5_letGo 77 = .ok (.aload_n 0, 1) := by decide +kernel
theorem dX5_letGo_78 : decode cX5_letGo 78 = .ok (.getfield 28, 3) := by decide +kernel
theorem dX5_letGo_81 : decode cX5_letGo 81 = .ok (.getfield 106, 3) := by decide +kernel
theorem dX5_letGo_84 : decode cX5_letGo 84 = .ok (.ireturn, 1) := by decide +kernel
theorem dX5_letPass_0 : decode cX5_letPass 0 = .ok (.iload_n 1, 1) := by decide +kernel
theorem dX5_letPass_1 : decode cX5_letPass 1 = .ok (.iconst 1, 1) := by decide +kernel
theorem dX5_letPass_2 : decode cX5_letPass 2 = .ok (.if_icmp .lt 10, 3) := by decide +kernel
theorem dX5_letPass_5 : decode cX5_letPass 5 = .ok (.iload_n 1, 1) := by decide +kernel
theorem dX5_letPass_6 : decode cX5_letPass 6 = .ok (.sipush 999, 3) := by decide +kernel
theorem dX5_letPass_9 : decode cX5_letPass 9 = .ok (.if_icmp .le 7, 3) := by decide +kernel
theorem dX5_letPass_12 : decode cX5_letPass 12 = .ok (.sipush (-1002), 3) := by decide +kernel
theorem dX5_letPass_15 : decode cX5_letPass 15 = .ok (.ireturn, 1) := by decide +kernel
theorem dX5_letPass_16 : decode cX5_letPass 16 = .ok (.aload_n 0, 1) := by decide +kernel
theorem dX5_letPass_17 : decode cX5_letPass 17 = .ok (.getfield 59, 3) := by decide +kernel
theorem dX5_letPass_20 : decode cX5_letPass 20 = .ok (.iload_n 1, 1) := by decide +kernel
theorem dX5_letPass_21 : decode cX5_letPass 21 = .ok (.iadd, 1) := by decide +kernel
theorem dX5_letPass_22 : decode cX5_letPass 22 = .ok (.ldc 116, 2) := by decide +kernel
theorem dX5_letPass_24 : decode cX5_letPass 24 = .ok (.if_icmp .le 7, 3) := by decide +kernel
theorem dX5_letPass_27 : decode cX5_letPass 27 = .ok (.sipush (-1003), 3) := by decide +kernel
theorem dX5_letPass_30 : decode cX5_letPass 30 = .ok (.ireturn, 1) := by decide +kernel
theorem dX5_letPass_31 : decode cX5_letPass 31 = .ok (.aload_n 0, 1) := by decide +kernel
theorem dX5_letPass_32 : decode cX5_letPass 32 = .ok (.invokevirtual 117, 3) := by decide +kernel
theorem dX5_letPass_35 : decode cX5_letPass 35 = .ok (.istore_n 2, 1) := by decide +kernel
theorem dX5_letPass_36 : decode cX5_letPass 36 = .ok (.aload_n 0, 1) := by decide +kernel
theorem dX5_letPass_37 : decode cX5_letPass 37 = .ok (.getfield 59, 3) := by decide +kernel
theorem dX5_letPass_40 : decode cX5_letPass 40 = .ok (.iload_n 1, 1) := by decide +kernel
theorem dX5_letPass_41 : decode cX5_letPass 41 = .ok (.iadd, 1) := by decide +kernel
theorem dX5_letPass_42 : decode cX5_letPass 42 = .ok (.istore_n 3, 1) := by decide +kernel
theorem dX5_letPass_43 : decode cX5_letPass 43 = .ok (.iconst 0, 1) := by decide +kernel
theorem dX5_letPass_44 : decode cX5_letPass 44 = .ok (.istore 4, 2) := by decide +kernel
theorem dX5_letPass_46 : decode cX5_letPass 46 = .ok (.iload 4, 2) := by decide +kernel
theorem dX5_letPass_48 : decode cX5_letPass 48 = .ok (.iload_n 1, 1) := by decide +kernel
theorem dX5_letPass_49 : decode cX5_letPass 49 = .ok (.if_icmp .ge 33, 3) := by decide +kernel
theorem dX5_letPass_52 : decode cX5_letPass 52 = .ok (.aload_n 0, 1) := by decide +kernel
theorem dX5_letPass_53 : decode cX5_letPass 53 = .ok (.getfield 59, 3) := by decide +kernel
theorem dX5_letPass_56 : decode cX5_letPass 56 = .ok (.iload_n 3, 1) := by decide +kernel
theorem dX5_letPass_57 : decode cX5_letPass 57 = .ok (.if_icmp .ge 25, 3) := by decide +kernel
theorem dX5_letPass_60 : decode cX5_letPass 60 = .ok (.aload_n 0, 1) := by decide +kernel
theorem dX5_letPass_61 : decode cX5_letPass 61 = .ok (.iload_n 3, 1) := by decide +kernel
theorem dX5_letPass_62 : decode cX5_letPass 62 = .ok (.aload_n 0, 1) := by decide +kernel
theorem dX5_letPass_63 : decode cX5_letPass 63 = .ok (.getfield 59, 3) := by decide +kernel
theorem dX5_letPass_66 : decode cX5_letPass 66 = .ok (.isub, 1) := by decide +kernel
theorem dX5_letPass_67 : decode cX5_letPass 67 = .ok (.iconst 1, 1) := by decide +kernel
theorem dX5_letPass_68 : decode cX5_letPass 68 = .ok (.isub, 1) := by decide +kernel
theorem dX5_letPass_69 : decode cX5_letPass 69 = .ok (.invokevirtual 120, 3) := by decide +kernel
theorem dX5_letPass_72 : decode cX5_letPass 72 = .ok (.aload_n 0, 1) := by decide +kernel
theorem dX5_letPass_73 : decode cX5_letPass 73 = .ok (.invokevirtual 124, 3) := by decide +kernel
theorem dX5_letPass_76 : decode cX5_letPass 76 = .ok (.iinc 4 1, 3) := by decide +kernel
theorem dX5_letPass_79 : decode cX5_letPass 79 = .ok (.goto (-33), 3) := by decide +kernel
theorem dX5_letPass_82 : decode cX5_letPass 82 = .ok (.aload_n 0, 1) := by decide +kernel
theorem dX5_letPass_83 : decode cX5_letPass 83 = .ok (.invokevirtual 117, 3) := by decide +kernel
theorem dX5_letPass_86 : decode cX5_letPass 86 = .ok (.iload_n 2, 1) := by decide +kernel
theorem dX5_letPass_87 : decode cX5_letPass 87 = .ok (.isub, 1) := by decide +kernel
theorem dX5_letPass_88 : decode cX5_letPass 88 = .ok (.ireturn, 1) := by decide +kernel
theorem dX5_changeSetting_0 : decode cX5_changeSetting 0 = .ok (.iload_n 1, 1) := by decide +kernel
theorem dX5_changeSetting_1 : decode cX5_changeSetting 1 = .ok (.ifCond .eq 12, 3) := by decide +kernel
theorem dX5_changeSetting_4 : decode cX5_changeSetting 4 = .ok (.iload_n 1, 1) := by decide +kernel
theorem dX5_changeSetting_5 : decode cX5_changeSetting 5 = .ok (.iconst 1, 1) := by decide +kernel
theorem dX5_changeSetting_6 : decode cX5_changeSetting 6 = .ok (.if_icmp .eq 7, 3) := by decide +kernel
theorem dX5_changeSetting_9 : decode cX5_changeSetting 9 = .ok (.sipush (-1001), 3) := by decide +kernel
theorem dX5_changeSetting_12 : decode cX5_changeSetting 12 = .ok (.ireturn, 1) := by decide +kernel
theorem dX5_changeSetting_13 : decode cX5_changeSetting 13 = .ok (.iload_n 1, 1) := by decide +kernel
theorem dX5_changeSetting_14 : decode cX5_changeSetting 14 = .ok (.iconst 1, 1) := by decide +kernel
theorem dX5_changeSetting_15 : decode cX5_changeSetting 15 = .ok (.if_icmp .ne 7, 3) := by decide +kernel
theorem dX5_changeSetting_18 : decode cX5_changeSetting 18 = .ok (.iconst 1, 1) := by decide +kernel
theorem dX5_changeSetting_19 : decode cX5_changeSetting 19 = .ok (.goto 4, 3) := by decide +kernel
theorem dX5_changeSetting_22 : decode cX5_changeSetting 22 = .ok (.iconst 0, 1) := by decide +kernel
theorem dX5_changeSetting_23 : decode cX5_changeSetting 23 = .ok (.istore_n 3, 1) := by decide +kernel
theorem dX5_changeSetting_24 : decode cX5_changeSetting 24 = .ok (.iload_n 2, 1) := by decide +kernel
theorem dX5_changeSetting_25 : decode cX5_changeSetting 25 = .ok (.iload_n 3, 1) := by decide +kernel
theorem dX5_changeSetting_26 : decode cX5_changeSetting 26 = .ok (.if_icmp .lt 10, 3) := by decide +kernel
theorem dX5_changeSetting_29 : decode cX5_changeSetting 29 = .ok (.iload_n 2, 1) := by decide +kernel
theorem dX5_changeSetting_30 : decode cX5_changeSetting 30 = .ok (.sipush 999, 3) := by decide +kernel
theorem dX5_changeSetting_33 : decode cX5_changeSetting 33 = .ok (.if_icmp .le 7, 3) := by decide +kernel
theorem dX5_changeSetting_36 : decode cX5_changeSetting 36 = .ok (.sipush (-1002), 3) := by decide +kernel
theorem dX5_changeSetting_39 : decode cX5_changeSetting 39 = .ok (.ireturn, 1) := by decide +kernel
theorem dX5_changeSetting_40 : decode cX5_changeSetting 40 = .ok (.iload_n 1, 1) := by decide +kernel
theorem dX5_changeSetting_41 : decode cX5_changeSetting 41 = .ok (.iconst 1, 1) := by decide +kernel
theorem dX5_changeSetting_42 : decode cX5_changeSetting 42 = .ok (.if_icmp .ne 10, 3) := by decide +kernel
theorem dX5_changeSetting_45 : decode cX5_changeSetting 45 = .ok (.aload_n 0, 1) := by decide +kernel
theorem dX5_changeSetting_46 : decode cX5_changeSetting 46 = .ok (.getfield 42, 3) := by decide +kernel
theorem dX5_changeSetting_49 : decode cX5_changeSetting 49 = .ok (.goto 7, 3) := by decide +kernel
theorem dX5_changeSetting_52 : decode cX5_changeSetting 52 = .ok (.aload_n 0, 1) := by decide +kernel
theorem dX5_changeSetting_53 : decode cX5_changeSetting 53 = .ok (.getfield 38, 3) := by decide +kernel
theorem dX5_changeSetting_56 : decode cX5_changeSetting 56 = .ok (.istore 4, 2) := by decide +kernel
theorem dX5_changeSetting_58 : decode cX5_changeSetting 58 = .ok (.iload 4, 2) := by decide +kernel
theorem dX5_changeSetting_60 : decode cX5_changeSetting 60 = .ok (.iload_n 2, 1) := by decide +kernel
theorem dX5_changeSetting_61 : decode cX5_changeSetting 61 = .ok (.if_icmp .ne 7, 3) := by decide +kernel
theorem dX5_changeSetting_64 : decode cX5_changeSetting 64 = .ok (.sipush (-1005), 3) := by decide +kernel
theorem dX5_changeSetting_67 : decode cX5_changeSetting 67 = .ok (.ireturn, 1) := by decide +kernel
theorem dX5_changeSetting_68 : decode cX5_changeSetting 68 = .ok (.iload_n 1, 1) := by decide +kernel
theorem dX5_changeSetting_69 : decode cX5_changeSetting 69 = .ok (.iconst 1, 1) := by decide +kernel
theorem dX5_changeSetting_70 : decode cX5_changeSetting 70 = .ok (.if_icmp .ne 11, 3) := by decide +kernel
theorem dX5_changeSetting_73 : decode cX5_changeSetting 73 = .ok (.aload_n 0, 1) := by decide +kernel
theorem dX5_changeSetting_74 : decode cX5_changeSetting 74 = .ok (.iload_n 2, 1) := by decide +kernel
theorem dX5_changeSetting_75 : decode cX5_changeSetting 75 = .ok (.putfield 42, 3) := by decide +kernel
theorem dX5_changeSetting_78 : decode cX5_changeSetting 78 = .ok (.goto 8, 3) := by decide +kernel
theorem dX5_changeSetting_81 : decode cX5_changeSetting 81 = .ok (.aload_n 0, 1) := by decide +kernel
theorem dX5_changeSetting_82 : decode cX5_changeSetting 82 = .ok (.iload_n 2, 1) := by decide +kernel
theorem dX5_changeSetting_83 : decode cX5_changeSetting 83 = .ok (.putfield 38, 3) := by decide +kernel
theorem dX5_changeSetting_86 : decode cX5_changeSetting 86 = .ok (.iload 4, 2) := by decide +kernel
theorem dX5_changeSetting_88 : decode cX5_changeSetting 88 = .ok (.ireturn, 1) := by decide +kernel
theorem dX5_insertBottle_0 : decode cX5_insertBottle 0 = .ok (.iload_n 1, 1) := by decide +kernel
theorem dX5_insertBottle_1 : decode cX5_insertBottle 1 = .ok (.ifCond .lt 27, 3) := by decide +kernel
theorem dX5_insertBottle_4 : decode cX5_insertBottle 4 = .ok (.iload_n 1, 1) := by decide +kernel
theorem dX5_insertBottle_5 : decode cX5_insertBottle 5 = .ok (.aload_n 0, 1) := by decide +kernel
theorem dX5_insertBottle_6 : decode cX5_insertBottle 6 = .ok (.getfield 56, 3) := by decide +kernel
theorem dX5_insertBottle_9 : decode cX5_insertBottle 9 = .ok (.if_icmp .gt 19, 3) := by decide +kernel
theorem dX5_insertBottle_12 : decode cX5_insertBottle 12 = .ok (.aload_n 0, 1) := by decide +kernel
theorem dX5_insertBottle_13 : decode cX5_insertBottle 13 = .ok (.getfield 56, 3) := by decide +kernel
theorem dX5_insertBottle_16 : decode cX5_insertBottle 16 = .ok (.ifCond .lt 12, 3) := by decide +kernel
theorem dX5_insertBottle_19 : decode cX5_insertBottle 19 = .ok (.aload_n 0, 1) := by decide +kernel
theorem dX5_insertBottle_20 : decode cX5_insertBottle 20 = .ok (.getfield 56, 3) := by decide +kernel
theorem dX5_insertBottle_23 : decode cX5_insertBottle 23 = .ok (.bipush 10, 2) := by decide +kernel
theorem dX5_insertBottle_25 : decode cX5_insertBottle 25 = .ok (.if_icmp .lt 4, 3) := by decide +kernel
theorem dX5_insertBottle_28 : decode cX5_insertBottle 28 = .ok (.return_, 1) := by decide +kernel
theorem dX5_insertBottle_29 : decode cX5_insertBottle 29 = .ok (.aload_n 0, 1) := by decide +kernel
theorem dX5_insertBottle_30 : decode cX5_insertBottle 30 = .ok (.getfield 34, 3) := by decide +kernel
theorem dX5_insertBottle_33 : decode cX5_insertBottle 33 = .ok (.aload_n 0, 1) := by decide +kernel
theorem dX5_insertBottle_34 : decode cX5_insertBottle 34 = .ok (.getfield 56, 3) := by decide +kernel
theorem dX5_insertBottle_37 : decode cX5_insertBottle 37 = .ok (.aaload, 1) := by decide +kernel
theorem dX5_insertBottle_38 : decode cX5_insertBottle 38 = .ok (.astore_n 3, 1) := by decide +kernel
theorem dX5_insertBottle_39 : decode cX5_insertBottle 39 = .ok (.aload_n 0, 1) := by decide +kernel
theorem dX5_insertBottle_40 : decode cX5_insertBottle 40 = .ok (.getfield 56, 3) := by decide +kernel
theorem dX5_insertBottle_43 : decode cX5_insertBottle 43 = .ok (.istore 4, 2) := by decide +kernel
theorem dX5_insertBottle_45 : decode cX5_insertBottle 45 = .ok (.iload 4, 2) := by decide +kernel
theorem dX5_insertBottle_47 : decode cX5_insertBottle 47 = .ok (.iload_n 1, 1) := by decide +kernel
theorem dX5_insertBottle_48 : decode cX5_insertBottle 48 = .ok (.if_icmp .le 25, 3) := by decide +kernel
theorem dX5_insertBottle_51 : decode cX5_insertBottle 51 = .ok (.aload_n 0, 1) := by decide +kernel
theorem dX5_insertBottle_52 : decode cX5_insertBottle 52 = .ok (.getfield 34, 3) := by decide +kernel
theorem dX5_insertBottle_55 : decode cX5_insertBottle 55 = .ok (.iload 4, 2) := by decide +kernel
theorem dX5_insertBottle_57 : decode cX5_insertBottle 57 = .ok (.aload_n 0, 1) := by decide +kernel
theorem dX5_insertBottle_58 : decode cX5_insertBottle 58 = .ok (.getfield 34, 3) := by decide +kernel
theorem dX5_insertBottle_61 : decode cX5_insertBottle 61 = .ok (.iload 4, 2) := by decide +kernel
theorem dX5_insertBottle_63 : decode cX5_insertBottle 63 = .ok (.iconst 1, 1) := by decide +kernel
theorem dX5_insertBottle_64 : decode cX5_insertBottle 64 = .ok (.isub, 1) := by decide +kernel
theorem dX5_insertBottle_65 : decode cX5_insertBottle 65 = .ok (.aaload, 1) := by decide +kernel
theorem dX5_insertBottle_66 : decode cX5_insertBottle 66 = .ok (.aastore, 1) := by decide +kernel
theorem dX5_insertBottle_67 : decode cX5_insertBottle 67 = .ok (.iinc 4 (-1), 3) := by decide +kernel
theorem dX5_insertBottle_70 : decode cX5_insertBottle 70 = .ok (.goto (-25), 3) := by decide +kernel
theorem dX5_insertBottle_73 : decode cX5_insertBottle 73 = .ok (.aload_n 0, 1) := by decide +kernel
theorem dX5_insertBottle_74 : decode cX5_insertBottle 74 = .ok (.getfield 34, 3) := by decide +kernel
theorem dX5_insertBottle_77 : decode cX5_insertBottle 77 = .ok (.iload_n 1, 1) := by decide +kernel
theorem dX5_insertBottle_78 : decode cX5_insertBottle 78 = .ok (.aload_n 3, 1) := by decide +kernel
theorem dX5_insertBottle_79 : decode cX5_insertBottle 79 = .ok (.aastore, 1) := by decide +kernel
theorem dX5_insertBottle_80 : decode cX5_insertBottle 80 = .ok (.aload_n 0, 1) := by decide +kernel
theorem dX5_insertBottle_81 : decode cX5_insertBottle 81 = .ok (.dup, 1) := by decide +kernel
theorem dX5_insertBottle_82 : decode cX5_insertBottle 82 = .ok (.getfield 56, 3) := by decide +kernel
theorem dX5_insertBottle_85 : decode cX5_insertBottle 85 = .ok (.iconst 1, 1) := by decide +kernel
theorem dX5_insertBottle_86 : decode cX5_insertBottle 86 = .ok (.iadd, 1) := by decide +kernel
theorem dX5_insertBottle_87 : decode cX5_insertBottle 87 = .ok (.putfield 56, 3) := by decide +kernel
theorem dX5_insertBottle_90 : decode cX5_insertBottle 90 = .ok (.aload_n 3, 1) := by decide +kernel
theorem dX5_insertBottle_91 : decode cX5_insertBottle 91 = .ok (.ifnull 15, 3) := by decide +kernel
theorem dX5_insertBottle_94 : decode cX5_insertBottle 94 = .ok (.aload_n 3, 1) := by decide +kernel
theorem dX5_insertBottle_95 : decode cX5_insertBottle 95 = .ok (.aload_n 0, 1) := by decide +kernel
theorem dX5_insertBottle_96 : decode cX5_insertBottle 96 = .ok (.getfield 12, 3) := by decide +kernel
theorem dX5_insertBottle_99 : decode cX5_insertBottle 99 = .ok (.getfield 69, 3) := by decide +kernel
theorem dX5_insertBottle_102 : decode cX5_insertBottle 102 = .ok (.iload_n 2, 1) := by decide +kernel
theorem dX5_insertBottle_103 : decode cX5_insertBottle 103 = .ok (.invokevirtual 127, 3) := by decide +kernel
theorem dX5_insertBottle_106 : decode cX5_insertBottle 106 = .ok (.return_, 1) := by decide +kernel
theorem dX5_jerk_0 : decode cX5_jerk 0 = .ok (.iconst 0, 1) := by decide +kernel
theorem dX5_jerk_1 : decode cX5_jerk 1 = .ok (.istore_n 1, 1) := by decide +kernel
theorem dX5_jerk_2 : decode cX5_jerk 2 = .ok (.iload_n 1, 1) := by decide +kernel
theorem dX5_jerk_3 : decode cX5_jerk 3 = .ok (.aload_n 0, 1) := by decide +kernel
theorem dX5_jerk_4 : decode cX5_jerk 4 = .ok (.getfield 56, 3) := by decide +kernel
theorem dX5_jerk_7 : decode cX5_jerk 7 = .ok (.if_icmp .ge 51, 3) := by decide +kernel
theorem dX5_jerk_10 : decode cX5_jerk 10 = .ok (.aload_n 0, 1) := by decide +kernel
theorem dX5_jerk_11 : decode cX5_jerk 11 = .ok (.iload_n 1, 1) := by decide +kernel
theorem dX5_jerk_12 : decode cX5_jerk 12 = .ok (.invokevirtual 62, 3) := by decide +kernel
theorem dX5_jerk_15 : decode cX5_jerk 15 = .ok (.astore_n 2, 1) := by decide +kernel
theorem dX5_jerk_16 : decode cX5_jerk 16 = .ok (.aload_n 2, 1) := by decide +kernel
theorem dX5_jerk_17 : decode cX5_jerk 17 = .ok (.ifnull 35, 3) := by decide +kernel
theorem dX5_jerk_20 : decode cX5_jerk 20 = .ok (.aload_n 2, 1) := by decide +kernel
theorem dX5_jerk_21 : decode cX5_jerk 21 = .ok (.getfield 130, 3) := by decide +kernel
theorem dX5_jerk_24 : decode cX5_jerk 24 = .ok (.ifCond .ne 28, 3) := by decide +kernel
theorem dX5_jerk_27 : decode cX5_jerk 27 = .ok (.aload_n 0, 1) := by decide +kernel
theorem dX5_jerk_28 : decode cX5_jerk 28 = .ok (.getfield 12, 3) := by decide +kernel
theorem dX5_jerk_31 : decode cX5_jerk 31 = .ok (.aload_n 2, 1) := by decide +kernel
theorem dX5_jerk_32 : decode cX5_jerk 32 = .ok (.getfield 95, 3) := by decide +kernel
theorem dX5_jerk_35 : decode cX5_jerk 35 = .ok (.invokevirtual 102, 3) := by decide +kernel
theorem dX5_jerk_38 : decode cX5_jerk 38 = .ok (.ifCond .eq 14, 3) := by decide +kernel
theorem dX5_jerk_41 : decode cX5_jerk 41 = .ok (.aload_n 0, 1) := by decide +kernel
theorem dX5_jerk_42 : decode cX5_jerk 42 = .ok (.aload_n 2, 1) := by decide +kernel
theorem dX5_jerk_43 : decode cX5_jerk 43 = .ok (.invokevirtual 133, 3) := by decide +kernel
theorem dX5_jerk_46 : decode cX5_jerk 46 = .ok (.aload_n 2, 1) := by decide +kernel
theorem dX5_jerk_47 : decode cX5_jerk 47 = .ok (.iconst 1, 1) := by decide +kernel
theorem dX5_jerk_48 : decode cX5_jerk 48 = .ok (.putfield 136, 3) := by decide +kernel
theorem dX5_jerk_51 : decode cX5_jerk 51 = .ok (.return_, 1) := by decide +kernel
theorem dX5_jerk_52 : decode cX5_jerk 52 = .ok (.iinc 1 1, 3) := by decide +kernel
theorem dX5_jerk_55 : decode cX5_jerk 55 = .ok (.goto (-53), 3) := by decide +kernel
theorem dX5_jerk_58 : decode cX5_jerk 58 = .ok (.return_, 1) := by decide +kernel
theorem dX5_shut_0 : decode cX5_shut 0 = .ok (.aload_n 0, 1) := by decide +kernel
theorem dX5_shut_1 : decode cX5_shut 1 = .ok (.getfield 12, 3) := by decide +kernel
theorem dX5_shut_4 : decode cX5_shut 4 = .ok (.getfield 69, 3) := by decide +kernel
theorem dX5_shut_7 : decode cX5_shut 7 = .ok (.aload_n 1, 1) := by decide +kernel
theorem dX5_shut_8 : decode cX5_shut 8 = .ok (.getfield 95, 3) := by decide +kernel
theorem dX5_shut_11 : decode cX5_shut 11 = .ok (.isub, 1) := by decide +kernel
theorem dX5_shut_12 : decode cX5_shut 12 = .ok (.istore_n 2, 1) := by decide +kernel
theorem dX5_shut_13 : decode cX5_shut 13 = .ok (.iload_n 2, 1) := by decide +kernel
theorem dX5_shut_14 : decode cX5_shut 14 = .ok (.aload_n 0, 1) := by decide +kernel
theorem dX5_shut_15 : decode cX5_shut 15 = .ok (.getfield 12, 3) := by decide +kernel
theorem dX5_shut_18 : decode cX5_shut 18 = .ok (.invokevirtual 91, 3) := by decide +kernel
theorem dX5_shut_21 : decode cX5_shut 21 = .ok (.invokestatic 139, 3) := by decide +kernel
theorem dX5_shut_24 : decode cX5_shut 24 = .ok (.istore_n 3, 1) := by decide +kernel
theorem dX5_shut_25 : decode cX5_shut 25 = .ok (.aload_n 1, 1) := by decide +kernel
theorem dX5_shut_26 : decode cX5_shut 26 = .ok (.iconst 1, 1) := by decide +kernel
theorem dX5_shut_27 : decode cX5_shut 27 = .ok (.putfield 130, 3) := by decide +kernel
theorem dX5_shut_30 : decode cX5_shut 30 = .ok (.aload_n 1, 1) := by decide +kernel
theorem dX5_shut_31 : decode cX5_shut 31 = .ok (.aload_n 0, 1) := by decide +kernel
theorem dX5_shut_32 : decode cX5_shut 32 = .ok (.getfield 59, 3) := by decide +kernel
theorem dX5_shut_35 : decode cX5_shut 35 = .ok (.putfield 143, 3) := by decide +kernel
theorem dX5_shut_38 : decode cX5_shut 38 = .ok (.aload_n 1, 1) := by decide +kernel
theorem dX5_shut_39 : decode cX5_shut 39 = .ok (.iload_n 2, 1) := by decide +kernel
theorem dX5_shut_40 : decode cX5_shut 40 = .ok (.putfield 146, 3) := by decide +kernel
theorem dX5_shut_43 : decode cX5_shut 43 = .ok (.aload_n 1, 1) := by decide +kernel
theorem dX5_shut_44 : decode cX5_shut 44 = .ok (.iload_n 3, 1) := by decide +kernel
theorem dX5_shut_45 : decode cX5_shut 45 = .ok (.invokestatic 149, 3) := by decide +kernel
theorem dX5_shut_48 : decode cX5_shut 48 = .ok (.putfield 152, 3) := by decide +kernel
theorem dX5_shut_51 : decode cX5_shut 51 = .ok (.aload_n 1, 1) := by decide +kernel
theorem dX5_shut_52 : decode cX5_shut 52 = .ok (.aload_n 0, 1) := by decide +kernel
theorem dX5_shut_53 : decode cX5_shut 53 = .ok (.getfield 21, 3) := by decide +kernel
theorem dX5_shut_56 : decode cX5_shut 56 = .ok (.aload_n 1, 1) := by decide +kernel
theorem dX5_shut_57 : decode cX5_shut 57 = .ok (.getfield 152, 3) := by decide +kernel
theorem dX5_shut_60 : decode cX5_shut 60 = .ok (.invokevirtual 155, 3) := by decide +kernel
theorem dX5_shut_63 : decode cX5_shut 63 = .ok (.putfield 158, 3) := by decide +kernel
theorem dX5_shut_66 : decode cX5_shut 66 = .ok (.aload_n 1, 1) := by decide +kernel
theorem dX5_shut_67 : decode cX5_shut 67 = .ok (.aload_n 1, 1) := by decide +kernel
theorem dX5_shut_68 : decode cX5_shut 68 = .ok (.getfield 158, 3) := by decide +kernel
theorem dX5_shut_71 : decode cX5_shut 71 = .ok (.iload_n 3, 1) := by decide +kernel
theorem dX5_shut_72 : decode cX5_shut 72 = .ok (.bipush 10, 2) := by decide +kernel
theorem dX5_shut_74 : decode cX5_shut 74 = .ok (.idiv, 1) := by decide +kernel
theorem dX5_shut_75 : decode cX5_shut 75 = .ok (.iadd, 1) := by decide +kernel
theorem dX5_shut_76 : decode cX5_shut 76 = .ok (.putfield 161, 3) := by decide +kernel
theorem dX5_shut_79 : decode cX5_shut 79 = .ok (.aload_n 1, 1) := by decide +kernel
theorem dX5_shut_80 : decode cX5_shut 80 = .ok (.aload_n 0, 1) := by decide +kernel
theorem dX5_shut_81 : decode cX5_shut 81 = .ok (.getfield 21, 3) := by decide +kernel
theorem dX5_shut_84 : decode cX5_shut 84 = .ok (.aload_n 1, 1) := by decide +kernel
theorem dX5_shut_85 : decode cX5_shut 85 = .ok (.getfield 152, 3) := by decide +kernel
theorem dX5_shut_88 : decode cX5_shut 88 = .ok (.invokevirtual 164, 3) := by decide +kernel
theorem dX5_shut_91 : decode cX5_shut 91 = .ok (.putfield 167, 3) := by decide +kernel
theorem dX5_shut_94 : decode cX5_shut 94 = .ok (.return_, 1) := by decide +kernel
theorem dX5_skipQuietSeconds_0 : decode cX5_skipQuietSeconds 0 = .ok (.iload_n 1, 1) := by decide +kernel
theorem dX5_skipQuietSeconds_1 : decode cX5_skipQuietSeconds 1 = .ok (.istore_n 2, 1) := by decide +kernel
theorem dX5_skipQuietSeconds_2 : decode cX5_skipQuietSeconds 2 = .ok (.aload_n 0, 1) := by decide +kernel
theorem dX5_skipQuietSeconds_3 : decode cX5_skipQuietSeconds 3 = .ok (.getfield 12, 3) := by decide +kernel
theorem dX5_skipQuietSeconds_6 : decode cX5_skipQuietSeconds 6 = .ok (.invokevirtual 170, 3) := by decide +kernel
theorem dX5_skipQuietSeconds_9 : decode cX5_skipQuietSeconds 9 = .ok (.ifCond .ne 57, 3) := by decide +kernel
theorem dX5_skipQuietSeconds_12 : decode cX5_skipQuietSeconds 12 = .ok (.iconst 0, 1) := by decide +kernel
theorem dX5_skipQuietSeconds_13 : decode cX5_skipQuietSeconds 13 = .ok (.istore_n 3, 1) := by decide +kernel
theorem dX5_skipQuietSeconds_14 : decode cX5_skipQuietSeconds 14 = .ok (.iload_n 3, 1) := by decide +kernel
theorem dX5_skipQuietSeconds_15 : decode cX5_skipQuietSeconds 15 = .ok (.aload_n 0, 1) := by decide +kernel
theorem dX5_skipQuietSeconds_16 : decode cX5_skipQuietSeconds 16 = .ok (.getfield 28, 3) := by decide +kernel
theorem dX5_skipQuietSeconds_19 : decode cX5_skipQuietSeconds 19 = .ok (.getfield 106, 3) := by decide +kernel
theorem dX5_skipQuietSeconds_22 : decode cX5_skipQuietSeconds 22 = .ok (.if_icmp .ge 28, 3) := by decide +kernel
theorem dX5_skipQuietSeconds_25 : decode cX5_skipQuietSeconds 25 = .ok (.iload_n 2, 1) := by decide +kernel
theorem dX5_skipQuietSeconds_26 : decode cX5_skipQuietSeconds 26 = .ok (.aload_n 0, 1) := by decide +kernel
theorem dX5_skipQuietSeconds_27 : decode cX5_skipQuietSeconds 27 = .ok (.aload_n 0, 1) := by decide +kernel
theorem dX5_skipQuietSeconds_28 : decode cX5_skipQuietSeconds 28 = .ok (.getfield 28, 3) := by decide +kernel
theorem dX5_skipQuietSeconds_31 : decode cX5_skipQuietSeconds 31 = .ok (.iload_n 3, 1) := by decide +kernel
theorem dX5_skipQuietSeconds_32 : decode cX5_skipQuietSeconds 32 = .ok (.invokevirtual 174, 3) := by decide +kernel
theorem dX5_skipQuietSeconds_35 : decode cX5_skipQuietSeconds 35 = .ok (.invokevirtual 177, 3) := by decide +kernel
theorem dX5_skipQuietSeconds_38 : decode cX5_skipQuietSeconds 38 = .ok (.iconst 1, 1) := by decide +kernel
theorem dX5_skipQuietSeconds_39 : decode cX5_skipQuietSeconds 39 = .ok (.isub, 1) := by decide +kernel
theorem dX5_skipQuietSeconds_40 : decode cX5_skipQuietSeconds 40 = .ok (.invokestatic 180, 3) := by decide +kernel
theorem dX5_skipQuietSeconds_43 : decode cX5_skipQuietSeconds 43 = .ok (.istore_n 2, 1) := by decide +kernel
theorem dX5_skipQuietSeconds_44 : decode cX5_skipQuietSeconds 44 = .ok (.iinc 3 1, 3) := by decide +kernel
theorem dX5_skipQuietSeconds_47 : decode cX5_skipQuietSeconds 47 = .ok (.goto (-33), 3) := by decide +kernel
theorem dX5_skipQuietSeconds_50 : decode cX5_skipQuietSeconds 50 = .ok (.aload_n 0, 1) := by decide +kernel
theorem dX5_skipQuietSeconds_51 : decode cX5_skipQuietSeconds 51 = .ok (.getfield 28, 3) := by decide +kernel
theorem dX5_skipQuietSeconds_54 : decode cX5_skipQuietSeconds 54 = .ok (.iload_n 2, 1) := by decide +kernel
theorem dX5_skipQuietSeconds_55 : decode cX5_skipQuietSeconds 55 = .ok (.aload_n 0, 1) := by decide +kernel
theorem dX5_skipQuietSeconds_56 : decode cX5_skipQuietSeconds 56 = .ok (.getfield 12, 3) := by decide +kernel
theorem dX5_skipQuietSeconds_59 : decode cX5_skipQuietSeconds 59 = .ok (.invokevirtual 183, 3) := by decide +kernel
theorem dX5_skipQuietSeconds_62 : decode cX5_skipQuietSeconds 62 = .ok (.imul, 1) := by decide +kernel
theorem dX5_skipQuietSeconds_63 : decode cX5_skipQuietSeconds 63 = .ok (.invokevirtual 186, 3) := by decide +kernel
theorem dX5_skipQuietSeconds_66 : decode cX5_skipQuietSeconds 66 = .ok (.aload_n 0, 1) := by decide +kernel
theorem dX5_skipQuietSeconds_67 : decode cX5_skipQuietSeconds 67 = .ok (.dup, 1) := by decide +kernel
theorem dX5_skipQuietSeconds_68 : decode cX5_skipQuietSeconds 68 = .ok (.getfield 59, 3) := by decide +kernel
theorem dX5_skipQuietSeconds_71 : decode cX5_skipQuietSeconds 71 = .ok (.iload_n 2, 1) := by decide +kernel
theorem dX5_skipQuietSeconds_72 : decode cX5_skipQuietSeconds 72 = .ok (.iadd, 1) := by decide +kernel
theorem dX5_skipQuietSeconds_73 : decode cX5_skipQuietSeconds 73 = .ok (.putfield 59, 3) := by decide +kernel
theorem dX5_skipQuietSeconds_76 : decode cX5_skipQuietSeconds 76 = .ok (.return_, 1) := by decide +kernel
theorem dX5_secondsOnWay_0 : decode cX5_secondsOnWay 0 = .ok (.aload_n 0, 1) := by decide +kernel
theorem dX5_secondsOnWay_1 : decode cX5_secondsOnWay 1 = .ok (.getfield 12, 3) := by decide +kernel
theorem dX5_secondsOnWay_4 : decode cX5_secondsOnWay 4 = .ok (.invokevirtual 183, 3) := by decide +kernel
theorem dX5_secondsOnWay_7 : decode cX5_secondsOnWay 7 = .ok (.istore_n 2, 1) := by decide +kernel
theorem dX5_secondsOnWay_8 : decode cX5_secondsOnWay 8 = .ok (.iconst 0, 1) := by decide +kernel
theorem dX5_secondsOnWay_9 : decode cX5_secondsOnWay 9 = .ok (.istore_n 3, 1) := by decide +kernel
theorem dX5_secondsOnWay_10 : decode cX5_secondsOnWay 10 = .ok (.iconst 0, 1) := by decide +kernel
theorem dX5_secondsOnWay_11 : decode cX5_secondsOnWay 11 = .ok (.istore 4, 2) := by decide +kernel
theorem dX5_secondsOnWay_13 : decode cX5_secondsOnWay 13 = .ok (.iload 4, 2) := by decide +kernel
theorem dX5_secondsOnWay_15 : decode cX5_secondsOnWay 15 = .ok (.aload_n 0, 1) := by decide +kernel
theorem dX5_secondsOnWay_16 : decode cX5_secondsOnWay 16 = .ok (.getfield 56, 3) := by decide +kernel
theorem dX5_secondsOnWay_19 : decode cX5_secondsOnWay 19 = .ok (.if_icmp .ge 37, 3) := by decide +kernel
theorem dX5_secondsOnWay_22 : decode cX5_secondsOnWay 22 = .ok (.aload_n 0, 1) := by decide +kernel
theorem dX5_secondsOnWay_23 : decode cX5_secondsOnWay 23 = .ok (.iload 4, 2) := by decide +kernel
theorem dX5_secondsOnWay_25 : decode cX5_secondsOnWay 25 = .ok (.invokevirtual 62, 3) := by decide +kernel
theorem dX5_secondsOnWay_28 : decode cX5_secondsOnWay 28 = .ok (.astore 5, 2) := by decide +kernel
theorem dX5_secondsOnWay_30 : decode cX5_secondsOnWay 30 = .ok (.aload 5, 2) := by decide +kernel
theorem dX5_secondsOnWay_32 : decode cX5_secondsOnWay 32 = .ok (.ifnull 18, 3) := by decide +kernel
theorem dX5_secondsOnWay_35 : decode cX5_secondsOnWay 35 = .ok (.aload 5, 2) := by decide +kernel
theorem dX5_secondsOnWay_37 : decode cX5_secondsOnWay 37 = .ok (.getfield 95, 3) := by decide +kernel
theorem dX5_secondsOnWay_40 : decode cX5_secondsOnWay 40 = .ok (.iload_n 1, 1) := by decide +kernel
theorem dX5_secondsOnWay_41 : decode cX5_secondsOnWay 41 = .ok (.if_icmp .ge 9, 3) := by decide +kernel
theorem dX5_secondsOnWay_44 : decode cX5_secondsOnWay 44 = .ok (.aload 5, 2) := by decide +kernel
theorem dX5_secondsOnWay_46 : decode cX5_secondsOnWay 46 = .ok (.getfield 95, 3) := by decide +kernel
theorem dX5_secondsOnWay_49 : decode cX5_secondsOnWay 49 = .ok (.istore_n 3, 1) := by decide +kernel
theorem dX5_secondsOnWay_50 : decode cX5_secondsOnWay 50 = .ok (.iinc 4 1, 3) := by decide +kernel
theorem dX5_secondsOnWay_53 : decode cX5_secondsOnWay 53 = .ok (.goto (-40), 3) := by decide +kernel
theorem dX5_secondsOnWay_56 : decode cX5_secondsOnWay 56 = .ok (.iload_n 2, 1) := by decide +kernel
theorem dX5_secondsOnWay_57 : decode cX5_secondsOnWay 57 = .ok (.iconst 1, 1) := by decide +kernel
theorem dX5_secondsOnWay_58 : decode cX5_secondsOnWay 58 = .ok (.if_icmp .ge 7, 3) := by decide +kernel
theorem dX5_secondsOnWay_61 : decode cX5_secondsOnWay 61 = .ok (.iconst 1, 1) := by decide +kernel
theorem dX5_secondsOnWay_62 : decode cX5_secondsOnWay 62 = .ok (.goto 16, 3) := by decide +kernel
theorem dX5_secondsOnWay_65 : decode cX5_secondsOnWay 65 = .ok (.iconst 1, 1) := by decide +kernel
theorem dX5_secondsOnWay_66 : decode cX5_secondsOnWay 66 = .ok (.iload_n 1, 1) := by decide +kernel
theorem dX5_secondsOnWay_67 : decode cX5_secondsOnWay 67 = .ok (.iload_n 3, 1) := by decide +kernel
theorem dX5_secondsOnWay_68 : decode cX5_secondsOnWay 68 = .ok (.isub, 1) := by decide +kernel
theorem dX5_secondsOnWay_69 : decode cX5_secondsOnWay 69 = .ok (.iload_n 2, 1) := by decide +kernel
theorem dX5_secondsOnWay_70 : decode cX5_secondsOnWay 70 = .ok (.iadd, 1) := by decide +kernel
theorem dX5_secondsOnWay_71 : decode cX5_secondsOnWay 71 = .ok (.iconst 1, 1) := by decide +kernel
theorem dX5_secondsOnWay_72 : decode cX5_secondsOnWay 72 = .ok (.isub, 1) := by decide +kernel
theorem dX5_secondsOnWay_73 : decode cX5_secondsOnWay 73 = .ok (.iload_n 2, 1) := by decide +kernel
theorem dX5_secondsOnWay_74 : decode cX5_secondsOnWay 74 = .ok (.idiv, 1) := by decide +kernel
theorem dX5_secondsOnWay_75 : decode cX5_secondsOnWay 75 = .ok (.invokestatic 189, 3) := by decide +kernel
theorem dX5_secondsOnWay_78 : decode cX5_secondsOnWay 78 = .ok (.ireturn, 1) := by decide +kernel
theorem dX5_passOneSecond_0 : decode cX5_passOneSecond 0 = .ok (.aload_n 0, 1) := by decide +kernel
theorem dX5_passOneSecond_1 : decode cX5_passOneSecond 1 = .ok (.dup, 1) := by decide +kernel
theorem dX5_passOneSecond_2 : decode cX5_passOneSecond 2 = .ok (.getfield 59, 3) := by decide +kernel
theorem dX5_passOneSecond_5 : decode cX5_passOneSecond 5 = .ok (.iconst 1, 1) := by decide +kernel
theorem dX5_passOneSecond_6 : decode cX5_passOneSecond 6 = .ok (.iadd, 1) := by decide +kernel
theorem dX5_passOneSecond_7 : decode cX5_passOneSecond 7 = .ok (.putfield 59, 3) := by decide +kernel
theorem dX5_passOneSecond_10 : decode cX5_passOneSecond 10 = .ok (.aload_n 0, 1) := by decide +kernel
theorem dX5_passOneSecond_11 : decode cX5_passOneSecond 11 = .ok (.getfield 12, 3) := by decide +kernel
theorem dX5_passOneSecond_14 : decode cX5_passOneSecond 14 = .ok (.invokevirtual 170, 3) := by decide +kernel
theorem dX5_passOneSecond_17 : decode cX5_passOneSecond 17 = .ok (.ifCond .eq 4, 3) := by decide +kernel
theorem dX5_passOneSecond_20 : decode cX5_passOneSecond 20 = .ok (.return_, 1) := by decide +kernel
theorem dX5_passOneSecond_21 : decode cX5_passOneSecond 21 = .ok (.iconst 0, 1) := by decide +kernel
theorem dX5_passOneSecond_22 : decode cX5_passOneSecond 22 = .ok (.istore_n 1, 1) := by decide +kernel
theorem dX5_passOneSecond_23 : decode cX5_passOneSecond 23 = .ok (.iconst 0, 1) := by decide +kernel
theorem dX5_passOneSecond_24 : decode cX5_passOneSecond 24 = .ok (.istore_n 2, 1) := by decide +kernel
theorem dX5_passOneSecond_25 : decode cX5_passOneSecond 25 = .ok (.iload_n 2, 1) := by decide +kernel
theorem dX5_passOneSecond_26 : decode cX5_passOneSecond 26 = .ok (.aload_n 0, 1) := by decide +kernel
theorem dX5_passOneSecond_27 : decode cX5_passOneSecond 27 = .ok (.getfield 28, 3) := by decide +kernel
theorem dX5_passOneSecond_30 : decode cX5_passOneSecond 30 = .ok (.getfield 106, 3) := by decide +kernel
theorem dX5_passOneSecond_33 : decode cX5_passOneSecond 33 = .ok (.if_icmp .ge 118, 3) := by decide +kernel
theorem dX5_passOneSecond_36 : decode cX5_passOneSecond 36 = .ok (.aload_n 0, 1) := by decide +kernel
theorem dX5_passOneSecond_37 : decode cX5_passOneSecond 37 = .ok (.getfield 28, 3) := by decide +kernel
theorem dX5_passOneSecond_40 : decode cX5_passOneSecond 40 = .ok (.iload_n 2, 1) := by decide +kernel
theorem dX5_passOneSecond_41 : decode cX5_passOneSecond 41 = .ok (.invokevirtual 174, 3) := by decide +kernel
theorem dX5_passOneSecond_44 : decode cX5_passOneSecond 44 = .ok (.istore_n 3, 1) := by decide +kernel
theorem dX5_passOneSecond_45 : decode cX5_passOneSecond 45 = .ok (.iload_n 3, 1) := by decide +kernel
theorem dX5_passOneSecond_46 : decode cX5_passOneSecond 46 = .ok (.aload_n 0, 1) := by decide +kernel
theorem dX5_passOneSecond_47 : decode cX5_passOneSecond 47 = .ok (.getfield 12, 3) := by decide +kernel
theorem dX5_passOneSecond_50 : decode cX5_passOneSecond 50 = .ok (.invokevirtual 183, 3) := by decide +kernel
theorem dX5_passOneSecond_53 : decode cX5_passOneSecond 53 = .ok (.isub, 1) := by decide +kernel
theorem dX5_passOneSecond_54 : decode cX5_passOneSecond 54 = .ok (.istore 4, 2) := by decide +kernel
theorem dX5_passOneSecond_56 : decode cX5_passOneSecond 56 = .ok (.aload_n 0, 1) := by decide +kernel
theorem dX5_passOneSecond_57 : decode cX5_passOneSecond 57 = .ok (.iload_n 3, 1) := by decide +kernel
theorem dX5_passOneSecond_58 : decode cX5_passOneSecond 58 = .ok (.iload 4, 2) := by decide +kernel
theorem dX5_passOneSecond_60 : decode cX5_passOneSecond 60 = .ok (.invokevirtual 192, 3) := by decide +kernel
theorem dX5_passOneSecond_63 : decode cX5_passOneSecond 63 = .ok (.astore 5, 2) := by decide +kernel
theorem dX5_passOneSecond_65 : decode cX5_passOneSecond 65 = .ok (.aload 5, 2) := by decide +kernel
theorem dX5_passOneSecond_67 : decode cX5_passOneSecond 67 = .ok (.ifnull 44, 3) := by decide +kernel
theorem dX5_passOneSecond_70 : decode cX5_passOneSecond 70 = .ok (.aload_n 0, 1) := by decide +kernel
theorem dX5_passOneSecond_71 : decode cX5_passOneSecond 71 = .ok (.getfield 28, 3) := by decide +kernel
theorem dX5_passOneSecond_74 : decode cX5_passOneSecond 74 = .ok (.dup, 1) := by decide +kernel
theorem dX5_passOneSecond_75 : decode cX5_passOneSecond 75 = .ok (.getfield 196, 3) := by decide +kernel
theorem dX5_passOneSecond_78 : decode cX5_passOneSecond 78 = .ok (.iconst 1, 1) := by decide +kernel
theorem dX5_passOneSecond_79 : decode cX5_passOneSecond 79 = .ok (.iadd, 1) := by decide +kernel
theorem dX5_passOneSecond_80 : decode cX5_passOneSecond 80 = .ok (.putfield 196, 3) := by decide +kernel
theorem dX5_passOneSecond_83 : decode cX5_passOneSecond 83 = .ok (.aload_n 0, 1) := by decide +kernel
theorem dX5_passOneSecond_84 : decode cX5_passOneSecond 84 = .ok (.aload 5, 2) := by decide +kernel
theorem dX5_passOneSecond_86 : decode cX5_passOneSecond 86 = .ok (.invokevirtual 199, 3) := by decide +kernel
theorem dX5_passOneSecond_89 : decode cX5_passOneSecond 89 = .ok (.ifCond .eq 56, 3) := by decide +kernel
theorem dX5_passOneSecond_92 : decode cX5_passOneSecond 92 = .ok (.aload_n 0, 1) := by decide +kernel
theorem dX5_passOneSecond_93 : decode cX5_passOneSecond 93 = .ok (.getfield 28, 3) := by decide +kernel
theorem dX5_passOneSecond_96 : decode cX5_passOneSecond 96 = .ok (.iload_n 1, 1) := by decide +kernel
theorem dX5_passOneSecond_97 : decode cX5_passOneSecond 97 = .ok (.aload 5, 2) := by decide +kernel
theorem dX5_passOneSecond_99 : decode cX5_passOneSecond 99 = .ok (.getfield 95, 3) := by decide +kernel
theorem dX5_passOneSecond_102 : decode cX5_passOneSecond 102 = .ok (.invokevirtual 109, 3) := by decide +kernel
theorem dX5_passOneSecond_105 : decode cX5_passOneSecond 105 = .ok (.iinc 1 1, 3) := by decide +kernel
theorem dX5_passOneSecond_108 : decode cX5_passOneSecond 108 = .ok (.goto 37, 3) := by decide +kernel
theorem dX5_passOneSecond_111 : decode cX5_passOneSecond 111 = .ok (.iload 4, 2) := by decide +kernel
theorem dX5_passOneSecond_113 : decode cX5_passOneSecond 113 = .ok (.ifCond .gt 19, 3) := by decide +kernel
theorem dX5_passOneSecond_116 : decode cX5_passOneSecond 116 = .ok (.aload_n 0, 1) := by decide +kernel
theorem dX5_passOneSecond_117 : decode cX5_passOneSecond 117 = .ok (.getfield 28, 3) := by decide +kernel
theorem dX5_passOneSecond_120 : decode cX5_passOneSecond 120 = .ok (.dup, 1) := by decide +kernel
theorem dX5_passOneSecond_121 : decode cX5_passOneSecond 121 = .ok (.getfield 203, 3) := by decide +kernel
theorem dX5_passOneSecond_124 : decode cX5_passOneSecond 124 = .ok (.iconst 1, 1) := by decide +kernel
theorem dX5_passOneSecond_125 : decode cX5_passOneSecond 125 = .ok (.iadd, 1) := by decide +kernel
theorem dX5_passOneSecond_126 : decode cX5_passOneSecond 126 = .ok (.putfield 203, 3) := by decide +kernel
theorem dX5_passOneSecond_129 : decode cX5_passOneSecond 129 = .ok (.goto 16, 3) := by decide +kernel
theorem dX5_passOneSecond_132 : decode cX5_passOneSecond 132 = .ok (.aload_n 0, 1) := by decide +kernel
theorem dX5_passOneSecond_133 : decode cX5_passOneSecond 133 = .ok (.getfield 28, 3) := by decide +kernel
theorem dX5_passOneSecond_136 : decode cX5_passOneSecond 136 = .ok (.iload_n 1, 1) := by decide +kernel
theorem dX5_passOneSecond_137 : decode cX5_passOneSecond 137 = .ok (.iload 4, 2) := by decide +kernel
theorem dX5_passOneSecond_139 : decode cX5_passOneSecond 139 = .ok (.invokevirtual 109, 3) := by decide +kernel
theorem dX5_passOneSecond_142 : decode cX5_passOneSecond 142 = .ok (.iinc 1 1, 3) := by decide +kernel
theorem dX5_passOneSecond_145 : decode cX5_passOneSecond 145 = .ok (.iinc 2 1, 3) := by decide +kernel
theorem dX5_passOneSecond_148 : decode cX5_passOneSecond 148 = .ok (.goto (-123), 3) := by decide +kernel
theorem dX5_passOneSecond_151 : decode cX5_passOneSecond 151 = .ok (.aload_n 0, 1) := by decide +kernel
theorem dX5_passOneSecond_152 : decode cX5_passOneSecond 152 = .ok (.getfield 28, 3) := by decide +kernel
theorem dX5_passOneSecond_155 : decode cX5_passOneSecond 155 = .ok (.iload_n 1, 1) := by decide +kernel
theorem dX5_passOneSecond_156 : decode cX5_passOneSecond 156 = .ok (.putfield 106, 3) := by decide +kernel
theorem dX5_passOneSecond_159 : decode cX5_passOneSecond 159 = .ok (.return_, 1) := by decide +kernel
theorem dX5_firstBottleBetween_0 : decode cX5_firstBottleBetween 0 = .ok (.aload_n 0, 1) := by decide +kernel
theorem dX5_firstBottleBetween_1 : decode cX5_firstBottleBetween 1 = .ok (.getfield 56, 3) := by decide +kernel
theorem dX5_firstBottleBetween_4 : decode cX5_firstBottleBetween 4 = .ok (.iconst 1, 1) := by decide +kernel
theorem dX5_firstBottleBetween_5 : decode cX5_firstBottleBetween 5 = .ok (.isub, 1) := by decide +kernel
theorem dX5_firstBottleBetween_6 : decode cX5_firstBottleBetween 6 = .ok (.istore_n 3, 1) := by decide +kernel
theorem dX5_firstBottleBetween_7 : decode cX5_firstBottleBetween 7 = .ok (.iload_n 3, 1) := by decide +kernel
theorem dX5_firstBottleBetween_8 : decode cX5_firstBottleBetween 8 = .ok (.ifCond .lt 57, 3) := by decide +kernel
theorem dX5_firstBottleBetween_11 : decode cX5_firstBottleBetween 11 = .ok (.aload_n 0, 1) := by decide +kernel
theorem dX5_firstBottleBetween_12 : decode cX5_firstBottleBetween 12 = .ok (.iload_n 3, 1) := by decide +kernel
theorem dX5_firstBottleBetween_13 : decode cX5_firstBottleBetween 13 = .ok (.invokevirtual 62, 3) := by decide +kernel
theorem dX5_firstBottleBetween_16 : decode cX5_firstBottleBetween 16 = .ok (.astore 4, 2) := by decide +kernel
theorem dX5_firstBottleBetween_18 : decode cX5_firstBottleBetween 18 = .ok (.aload 4, 2) := by decide +kernel
theorem dX5_firstBottleBetween_20 : decode cX5_firstBottleBetween 20 = .ok (.ifnull 39, 3) := by decide +kernel
theorem dX5_firstBottleBetween_23 : decode cX5_firstBottleBetween 23 = .ok (.aload 4, 2) := by decide +kernel
theorem dX5_firstBottleBetween_25 : decode cX5_firstBottleBetween 25 = .ok (.getfield 95, 3) := by decide +kernel
theorem dX5_firstBottleBetween_28 : decode cX5_firstBottleBetween 28 = .ok (.iload_n 1, 1) := by decide +kernel
theorem dX5_firstBottleBetween_29 : decode cX5_firstBottleBetween 29 = .ok (.if_icmp .ge 30, 3) := by decide +kernel
theorem dX5_firstBottleBetween_32 : decode cX5_firstBottleBetween 32 = .ok (.aload 4, 2) := by decide +kernel
theorem dX5_firstBottleBetween_34 : decode cX5_firstBottleBetween 34 = .ok (.getfield 95, 3) := by decide +kernel
theorem dX5_firstBottleBetween_37 : decode cX5_firstBottleBetween 37 = .ok (.iload_n 2, 1) := by decide +kernel
theorem dX5_firstBottleBetween_38 : decode cX5_firstBottleBetween 38 = .ok (.if_icmp .lt 21, 3) := by decide +kernel
theorem dX5_firstBottleBetween_41 : decode cX5_firstBottleBetween 41 = .ok (.aload_n 0, 1) := by decide +kernel
theorem dX5_firstBottleBetween_42 : decode cX5_firstBottleBetween 42 = .ok (.getfield 12, 3) := by decide +kernel
theorem dX5_firstBottleBetween_45 : decode cX5_firstBottleBetween 45 = .ok (.aload 4, 2) := by decide +kernel
theorem dX5_firstBottleBetween_47 : decode cX5_firstBottleBetween 47 = .ok (.getfield 95, 3) := by decide +kernel
theorem dX5_firstBottleBetween_50 : decode cX5_firstBottleBetween 50 = .ok (.invokevirtual 102, 3) := by decide +kernel
theorem dX5_firstBottleBetween_53 : decode cX5_firstBottleBetween 53 = .ok (.ifCond .eq 6, 3) := by decide +kernel
theorem dX5_firstBottleBetween_56 : decode cX5_firstBottleBetween 56 = .ok (.aload 4, 2) := by decide +kernel
theorem dX5_firstBottleBetween_58 : decode cX5_firstBottleBetween 58 = .ok (.areturn, 1) := by decide +kernel
theorem dX5_firstBottleBetween_59 : decode cX5_firstBottleBetween 59 = .ok (.iinc 3 (-1), 3) := by decide +kernel
theorem dX5_firstBottleBetween_62 : decode cX5_firstBottleBetween 62 = .ok (.goto (-55), 3) := by decide +kernel
theorem dX5_firstBottleBetween_65 : decode cX5_firstBottleBetween 65 = .ok (.aconst_null, 1) := by decide +kernel
theorem dX5_firstBottleBetween_66 : decode cX5_firstBottleBetween 66 = .ok (.areturn, 1) := by decide +kernel
theorem dX5_strike_0 : decode cX5_strike 0 = .ok (.aload_n 1, 1) := by decide +kernel
theorem dX5_strike_1 : decode cX5_strike 1 = .ok (.dup, 1) := by decide +kernel
theorem dX5_strike_2 : decode cX5_strike 2 = .ok (.getfield 206, 3) := by decide +kernel
theorem dX5_strike_5 : decode cX5_strike 5 = .ok (.iconst 1, 1) := by decide +kernel
theorem dX5_strike_6 : decode cX5_strike 6 = .ok (.iadd, 1) := by decide +kernel
theorem dX5_strike_7 : decode cX5_strike 7 = .ok (.putfield 206, 3) := by decide +kernel
theorem dX5_strike_10 : decode cX5_strike 10 = .ok (.aload_n 1, 1) := by decide +kernel
theorem dX5_strike_11 : decode cX5_strike 11 = .ok (.getfield 130, 3) := by decide +kernel
theorem dX5_strike_14 : decode cX5_strike 14 = .ok (.ifCond .eq 5, 3) := by decide +kernel
theorem dX5_strike_17 : decode cX5_strike 17 = .ok (.iconst 0, 1) := by decide +kernel
theorem dX5_strike_18 : decode cX5_strike 18 = .ok (.ireturn, 1) := by decide +kernel
theorem dX5_strike_19 : decode cX5_strike 19 = .ok (.aload_n 0, 1) := by decide +kernel
theorem dX5_strike_20 : decode cX5_strike 20 = .ok (.aload_n 1, 1) := by decide +kernel
theorem dX5_strike_21 : decode cX5_strike 21 = .ok (.invokevirtual 133, 3) := by decide +kernel
theorem dX5_strike_24 : decode cX5_strike 24 = .ok (.aload_n 1, 1) := by decide +kernel
theorem dX5_strike_25 : decode cX5_strike 25 = .ok (.getfield 209, 3) := by decide +kernel
theorem dX5_strike_28 : decode cX5_strike 28 = .ok (.ifCond .ne 5, 3) := by decide +kernel
theorem dX5_strike_31 : decode cX5_strike 31 = .ok (.iconst 0, 1) := by decide +kernel
theorem dX5_strike_32 : decode cX5_strike 32 = .ok (.ireturn, 1) := by decide +kernel
theorem dX5_strike_33 : decode cX5_strike 33 = .ok (.aload_n 1, 1) := by decide +kernel
theorem dX5_strike_34 : decode cX5_strike 34 = .ok (.iconst 0, 1) := by decide +kernel
theorem dX5_strike_35 : decode cX5_strike 35 = .ok (.putfield 209, 3) := by decide +kernel
theorem dX5_strike_38 : decode cX5_strike 38 = .ok (.aload_n 0, 1) := by decide +kernel
theorem dX5_strike_39 : decode cX5_strike 39 = .ok (.getfield 28, 3) := by decide +kernel
theorem dX5_strike_42 : decode cX5_strike 42 = .ok (.dup, 1) := by decide +kernel
theorem dX5_strike_43 : decode cX5_strike 43 = .ok (.getfield 212, 3) := by decide +kernel
theorem dX5_strike_46 : decode cX5_strike 46 = .ok (.iconst 1, 1) := by decide +kernel
theorem dX5_strike_47 : decode cX5_strike 47 = .ok (.iadd, 1) := by decide +kernel
theorem dX5_strike_48 : decode cX5_strike 48 = .ok (.putfield 212, 3) := by decide +kernel
theorem dX5_strike_51 : decode cX5_strike 51 = .ok (.iconst 1, 1) := by decide +kernel
theorem dX5_strike_52 : decode cX5_strike 52 = .ok (.ireturn, 1) := by decide +kernel
theorem dX5_runUntilShut_0 : decode cX5_runUntilShut 0 = .ok (.aload_n 0, 1) := by decide +kernel
theorem dX5_runUntilShut_1 : decode cX5_runUntilShut 1 = .ok (.iload_n 1, 1) := by decide +kernel
theorem dX5_runUntilShut_2 : decode cX5_runUntilShut 2 = .ok (.invokevirtual 62, 3) := by decide +kernel
theorem dX5_runUntilShut_5 : decode cX5_runUntilShut 5 = .ok (.astore_n 2, 1) := by decide +kernel
theorem dX5_runUntilShut_6 : decode cX5_runUntilShut 6 = .ok (.aload_n 0, 1) := by decide +kernel
theorem dX5_runUntilShut_7 : decode cX5_runUntilShut 7 = .ok (.getfield 59, 3) := by decide +kernel
theorem dX5_runUntilShut_10 : decode cX5_runUntilShut 10 = .ok (.istore_n 3, 1) := by decide +kernel
theorem dX5_runUntilShut_11 : decode cX5_runUntilShut 11 = .ok (.iconst 0, 1) := by decide +kernel
theorem dX5_runUntilShut_12 : decode cX5_runUntilShut 12 = .ok (.istore 4, 2) := by decide +kernel
theorem dX5_runUntilShut_14 : decode cX5_runUntilShut 14 = .ok (.iload 4, 2) := by decide +kernel
theorem dX5_runUntilShut_16 : decode cX5_runUntilShut 16 = .ok (.sipush 2000, 3) := by decide +kernel
theorem dX5_runUntilShut_19 : decode cX5_runUntilShut 19 = .ok (.if_icmp .ge 58, 3) := by decide +kernel
theorem dX5_runUntilShut_22 : decode cX5_runUntilShut 22 = .ok (.aload_n 0, 1) := by decide +kernel
theorem dX5_runUntilShut_23 : decode cX5_runUntilShut 23 = .ok (.getfield 28, 3) := by decide +kernel
theorem dX5_runUntilShut_26 : decode cX5_runUntilShut 26 = .ok (.getfield 106, 3) := by decide +kernel
theorem dX5_runUntilShut_29 : decode cX5_runUntilShut 29 = .ok (.ifCond .le 48, 3) := by decide +kernel
theorem dX5_runUntilShut_32 : decode cX5_runUntilShut 32 = .ok (.aload_n 0, 1) := by decide +kernel
theorem dX5_runUntilShut_33 : decode cX5_runUntilShut 33 = .ok (.getfield 12, 3) := by decide +kernel
theorem dX5_runUntilShut_36 : decode cX5_runUntilShut 36 = .ok (.invokevirtual 170, 3) := by decide +kernel
theorem dX5_runUntilShut_39 : decode cX5_runUntilShut 39 = .ok (.ifCond .ne 38, 3) := by decide +kernel
theorem dX5_runUntilShut_42 : decode cX5_runUntilShut 42 = .ok (.aload_n 0, 1) := by decide +kernel
theorem dX5_runUntilShut_43 : decode cX5_runUntilShut 43 = .ok (.sipush 2000, 3) := by decide +kernel
theorem dX5_runUntilShut_46 : decode cX5_runUntilShut 46 = .ok (.invokevirtual 120, 3) := by decide +kernel
theorem dX5_runUntilShut_49 : decode cX5_runUntilShut 49 = .ok (.aload_n 0, 1) := by decide +kernel
theorem dX5_runUntilShut_50 : decode cX5_runUntilShut 50 = .ok (.invokevirtual 124, 3) := by decide +kernel
theorem dX5_runUntilShut_53 : decode cX5_runUntilShut 53 = .ok (.aload_n 2, 1) := by decide +kernel
theorem dX5_runUntilShut_54 : decode cX5_runUntilShut 54 = .ok (.ifnull 17, 3) := by decide +kernel
theorem dX5_runUntilShut_57 : decode cX5_runUntilShut 57 = .ok (.aload_n 2, 1) := by decide +kernel
theorem dX5_runUntilShut_58 : decode cX5_runUntilShut 58 = .ok (.getfield 130, 3) := by decide +kernel
theorem dX5_runUntilShut_61 : decode cX5_runUntilShut 61 = .ok (.ifCond .eq 10, 3) := by decide +kernel
theorem dX5_runUntilShut_64 : decode cX5_runUntilShut 64 = .ok (.aload_n 0, 1) := by decide +kernel
theorem dX5_runUntilShut_65 : decode cX5_runUntilShut 65 = .ok (.getfield 59, 3) := by decide +kernel
theorem dX5_runUntilShut_68 : decode cX5_runUntilShut 68 = .ok (.iload_n 3, 1) := by decide +kernel
theorem dX5_runUntilShut_69 : decode cX5_runUntilShut 69 = .ok (.isub, 1) := by decide +kernel
theorem dX5_runUntilShut_70 : decode cX5_runUntilShut 70 = .ok (.ireturn, 1) := by decide +kernel
theorem dX5_runUntilShut_71 : decode cX5_runUntilShut 71 = .ok (.iinc 4 1, 3) := by decide +kernel
theorem dX5_runUntilShut_74 : decode cX5_runUntilShut 74 = .ok (.goto (-60), 3) := by decide +kernel
theorem dX5_runUntilShut_77 : decode cX5_runUntilShut 77 = .ok (.sipush (-1005), 3) := by decide +kernel
theorem dX5_runUntilShut_80 : decode cX5_runUntilShut 80 = .ok (.ireturn, 1) := by decide +kernel
theorem dX5_runUntilQuiet_0 : decode cX5_runUntilQuiet 0 = .ok (.aload_n 0, 1) := by decide +kernel
theorem dX5_runUntilQuiet_1 : decode cX5_runUntilQuiet 1 = .ok (.getfield 59, 3) := by decide +kernel
theorem dX5_runUntilQuiet_4 : decode cX5_runUntilQuiet 4 = .ok (.istore_n 1, 1) := by decide +kernel
theorem dX5_runUntilQuiet_5 : decode cX5_runUntilQuiet 5 = .ok (.iconst 0, 1) := by decide +kernel
theorem dX5_runUntilQuiet_6 : decode cX5_runUntilQuiet 6 = .ok (.istore_n 2, 1) := by decide +kernel
theorem dX5_runUntilQuiet_7 : decode cX5_runUntilQuiet 7 = .ok (.iload_n 2, 1) := by decide +kernel
theorem dX5_runUntilQuiet_8 : decode cX5_runUntilQuiet 8 = .ok (.sipush 2000, 3) := by decide +kernel
theorem dX5_runUntilQuiet_11 : decode cX5_runUntilQuiet 11 = .ok (.if_icmp .ge 40, 3) := by decide +kernel
theorem dX5_runUntilQuiet_14 : decode cX5_runUntilQuiet 14 = .ok (.aload_n 0, 1) := by decide +kernel
theorem dX5_runUntilQuiet_15 : decode cX5_runUntilQuiet 15 = .ok (.getfield 28, 3) := by decide +kernel
theorem dX5_runUntilQuiet_18 : decode cX5_runUntilQuiet 18 = .ok (.getfield 106, 3) := by decide +kernel
theorem dX5_runUntilQuiet_21 : decode cX5_runUntilQuiet 21 = .ok (.ifCond .le 30, 3) := by decide +kernel
theorem dX5_runUntilQuiet_24 : decode cX5_runUntilQuiet 24 = .ok (.aload_n 0, 1) := by decide +kernel
theorem dX5_runUntilQuiet_25 : decode cX5_runUntilQuiet 25 = .ok (.getfield 12, 3) := by decide +kernel
theorem dX5_runUntilQuiet_28 : decode cX5_runUntilQuiet 28 = .ok (.invokevirtual 170, 3) := by decide +kernel
theorem dX5_runUntilQuiet_31 : decode cX5_runUntilQuiet 31 = .ok (.ifCond .ne 20, 3) := by decide +kernel
theorem dX5_runUntilQuiet_34 : decode cX5_runUntilQuiet 34 = .ok (.aload_n 0, 1) := by decide +kernel
theorem dX5_runUntilQuiet_35 : decode cX5_runUntilQuiet 35 = .ok (.sipush 2000, 3) := by decide +kernel
theorem dX5_runUntilQuiet_38 : decode cX5_runUntilQuiet 38 = .ok (.invokevirtual 120, 3) := by decide +kernel
theorem dX5_runUntilQuiet_41 : decode cX5_runUntilQuiet 41 = .ok (.aload_n 0, 1) := by decide +kernel
theorem dX5_runUntilQuiet_42 : decode cX5_runUntilQuiet 42 = .ok (.invokevirtual 124, 3) := by decide +kernel
theorem dX5_runUntilQuiet_45 : decode cX5_runUntilQuiet 45 = .ok (.iinc 2 1, 3) := by decide +kernel
theorem dX5_runUntilQuiet_48 : decode cX5_runUntilQuiet 48 = .ok (.goto (-41), 3) := by decide +kernel
theorem dX5_runUntilQuiet_51 : decode cX5_runUntilQuiet 51 = .ok (.aload_n 0, 1) := by decide +kernel
theorem dX5_runUntilQuiet_52 : decode cX5_runUntilQuiet 52 = .ok (.getfield 59, 3) := by decide +kernel
theorem dX5_runUntilQuiet_55 : decode cX5_runUntilQuiet 55 = .ok (.iload_n 1, 1) := by decide +kernel
theorem dX5_runUntilQuiet_56 : decode cX5_runUntilQuiet 56 = .ok (.isub, 1) := by decide +kernel
theorem dX5_runUntilQuiet_57 : decode cX5_runUntilQuiet 57 = .ok (.ireturn, 1) := by decide +kernel
theorem dX5_isDoubtful_0 : decode cX5_isDoubtful 0 = .ok (.aload_n 1, 1) := by decide +kernel
theorem dX5_isDoubtful_1 : decode cX5_isDoubtful 1 = .ok (.getfield 130, 3) := by decide +kernel
theorem dX5_isDoubtful_4 : decode cX5_isDoubtful 4 = .ok (.ifCond .eq 18, 3) := by decide +kernel
theorem dX5_isDoubtful_7 : decode cX5_isDoubtful 7 = .ok (.aload_n 1, 1) := by decide +kernel
theorem dX5_isDoubtful_8 : decode cX5_isDoubtful 8 = .ok (.invokevirtual 215, 3) := by decide +kernel
theorem dX5_isDoubtful_11 : decode cX5_isDoubtful 11 = .ok (.aload_n 0, 1) := by decide +kernel
theorem dX5_isDoubtful_12 : decode cX5_isDoubtful 12 = .ok (.getfield 38, 3) := by decide +kernel
theorem dX5_isDoubtful_15 : decode cX5_isDoubtful 15 = .ok (.if_icmp .le 7, 3) := by decide +kernel
theorem dX5_isDoubtful_18 : decode cX5_isDoubtful 18 = .ok (.iconst 1, 1) := by decide +kernel
theorem dX5_isDoubtful_19 : decode cX5_isDoubtful 19 = .ok (.goto 4, 3) := by decide +kernel
theorem dX5_isDoubtful_22 : decode cX5_isDoubtful 22 = .ok (.iconst 0, 1) := by decide +kernel
theorem dX5_isDoubtful_23 : decode cX5_isDoubtful 23 = .ok (.ireturn, 1) := by decide +kernel
theorem dX5_bottlesInWater_0 : decode cX5_bottlesInWater 0 = .ok (.iconst 0, 1) := by decide +kernel
theorem dX5_bottlesInWater_1 : decode cX5_bottlesInWater 1 = .ok (.istore_n 1, 1) := by decide +kernel
theorem dX5_bottlesInWater_2 : decode cX5_bottlesInWater 2 = .ok (.iconst 0, 1) := by decide +kernel
theorem dX5_bottlesInWater_3 : decode cX5_bottlesInWater 3 = .ok (.istore_n 2, 1) := by decide +kernel
theorem dX5_bottlesInWater_4 : decode cX5_bottlesInWater 4 = .ok (.iload_n 2, 1) := by decide +kernel
theorem dX5_bottlesInWater_5 : decode cX5_bottlesInWater 5 = .ok (.aload_n 0, 1) := by decide +kernel
theorem dX5_bottlesInWater_6 : decode cX5_bottlesInWater 6 = .ok (.getfield 56, 3) := by decide +kernel
theorem dX5_bottlesInWater_9 : decode cX5_bottlesInWater 9 = .ok (.if_icmp .ge 36, 3) := by decide +kernel
theorem dX5_bottlesInWater_12 : decode cX5_bottlesInWater 12 = .ok (.aload_n 0, 1) := by decide +kernel
theorem dX5_bottlesInWater_13 : decode cX5_bottlesInWater 13 = .ok (.iload_n 2, 1) := by decide +kernel
theorem dX5_bottlesInWater_14 : decode cX5_bottlesInWater 14 = .ok (.invokevirtual 62, 3) := by decide +kernel
theorem dX5_bottlesInWater_17 : decode cX5_bottlesInWater 17 = .ok (.astore_n 3, 1) := by decide +kernel
theorem dX5_bottlesInWater_18 : decode cX5_bottlesInWater 18 = .ok (.aload_n 3, 1) := by decide +kernel
theorem dX5_bottlesInWater_19 : decode cX5_bottlesInWater 19 = .ok (.ifnull 20, 3) := by decide +kernel
theorem dX5_bottlesInWater_22 : decode cX5_bottlesInWater 22 = .ok (.aload_n 0, 1) := by decide +kernel
theorem dX5_bottlesInWater_23 : decode cX5_bottlesInWater 23 = .ok (.getfield 12, 3) := by decide +kernel
theorem dX5_bottlesInWater_26 : decode cX5_bottlesInWater 26 = .ok (.aload_n 3, 1) := by decide +kernel
theorem dX5_bottlesInWater_27 : decode cX5_bottlesInWater 27 = .ok (.getfield 95, 3) := by decide +kernel
theorem dX5_bottlesInWater_30 : decode cX5_bottlesInWater 30 = .ok (.invokevirtual 102, 3) := by decide +kernel
theorem dX5_bottlesInWater_33 : decode cX5_bottlesInWater 33 = .ok (.ifCond .eq 6, 3) := by decide +kernel
theorem dX5_bottlesInWater_36 : decode cX5_bottlesInWater 36 = .ok (.iinc 1 1, 3) := by decide +kernel
theorem dX5_bottlesInWater_39 : decode cX5_bottlesInWater 39 = .ok (.iinc 2 1, 3) := by decide +kernel
theorem dX5_bottlesInWater_42 : decode cX5_bottlesInWater 42 = .ok (.goto (-38), 3) := by decide +kernel
theorem dX5_bottlesInWater_45 : decode cX5_bottlesInWater 45 = .ok (.iload_n 1, 1) := by decide +kernel
theorem dX5_bottlesInWater_46 : decode cX5_bottlesInWater 46 = .ok (.ireturn, 1) := by decide +kernel
theorem dX5_shutBottles_0 : decode cX5_shutBottles 0 = .ok (.iconst 0, 1) := by decide +kernel
theorem dX5_shutBottles_1 : decode cX5_shutBottles 1 = .ok (.istore_n 1, 1) := by decide +kernel
theorem dX5_shutBottles_2 : decode cX5_shutBottles 2 = .ok (.iconst 0, 1) := by decide +kernel
theorem dX5_shutBottles_3 : decode cX5_shutBottles 3 = .ok (.istore_n 2, 1) := by decide +kernel
theorem dX5_shutBottles_4 : decode cX5_shutBottles 4 = .ok (.iload_n 2, 1) := by decide +kernel
theorem dX5_shutBottles_5 : decode cX5_shutBottles 5 = .ok (.aload_n 0, 1) := by decide +kernel
theorem dX5_shutBottles_6 : decode cX5_shutBottles 6 = .ok (.getfield 56, 3) := by decide +kernel
theorem dX5_shutBottles_9 : decode cX5_shutBottles 9 = .ok (.if_icmp .ge 29, 3) := by decide +kernel
theorem dX5_shutBottles_12 : decode cX5_shutBottles 12 = .ok (.aload_n 0, 1) := by decide +kernel
theorem dX5_shutBottles_13 : decode cX5_shutBottles 13 = .ok (.iload_n 2, 1) := by decide +kernel
theorem dX5_shutBottles_14 : decode cX5_shutBottles 14 = .ok (.invokevirtual 62, 3) := by decide +kernel
theorem dX5_shutBottles_17 : decode cX5_shutBottles 17 = .ok (.astore_n 3, 1) := by decide +kernel
theorem dX5_shutBottles_18 : decode cX5_shutBottles 18 = .ok (.aload_n 3, 1) := by decide +kernel
theorem dX5_shutBottles_19 : decode cX5_shutBottles 19 = .ok (.ifnull 13, 3) := by decide +kernel
theorem dX5_shutBottles_22 : decode cX5_shutBottles 22 = .ok (.aload_n 3, 1) := by decide +kernel
theorem dX5_shutBottles_23 : decode cX5_shutBottles 23 = .ok (.getfield 130, 3) := by decide +kernel
theorem dX5_shutBottles_26 : decode cX5_shutBottles 26 = .ok (.ifCond .eq 6, 3) := by decide +kernel
theorem dX5_shutBottles_29 : decode cX5_shutBottles 29 = .ok (.iinc 1 1, 3) := by decide +kernel
theorem dX5_shutBottles_32 : decode cX5_shutBottles 32 = .ok (.iinc 2 1, 3) := by decide +kernel
theorem dX5_shutBottles_35 : decode cX5_shutBottles 35 = .ok (.goto (-31), 3) := by decide +kernel
theorem dX5_shutBottles_38 : decode cX5_shutBottles 38 = .ok (.iload_n 1, 1) := by decide +kernel
theorem dX5_shutBottles_39 : decode cX5_shutBottles 39 = .ok (.ireturn, 1) := by decide +kernel
theorem dX5_doubtfulBottles_0 : decode cX5_doubtfulBottles 0 = .ok (.iconst 0, 1) := by decide +kernel
theorem dX5_doubtfulBottles_1 : decode cX5_doubtfulBottles 1 = .ok (.istore_n 1, 1) := by decide +kernel
theorem dX5_doubtfulBottles_2 : decode cX5_doubtfulBottles 2 = .ok (.iconst 0, 1) := by decide +kernel
theorem dX5_doubtfulBottles_3 : decode cX5_doubtfulBottles 3 = .ok (.istore_n 2, 1) := by decide +kernel
theorem dX5_doubtfulBottles_4 : decode cX5_doubtfulBottles 4 = .ok (.iload_n 2, 1) := by decide +kernel
theorem dX5_doubtfulBottles_5 : decode cX5_doubtfulBottles 5 = .ok (.aload_n 0, 1) := by decide +kernel
theorem dX5_doubtfulBottles_6 : decode cX5_doubtfulBottles 6 = .ok (.getfield 56, 3) := by decide +kernel
theorem dX5_doubtfulBottles_9 : decode cX5_doubtfulBottles 9 = .ok (.if_icmp .ge 30, 3) := by decide +kernel
theorem dX5_doubtfulBottles_12 : decode cX5_doubtfulBottles 12 = .ok (.aload_n 0, 1) := by decide +kernel
theorem dX5_doubtfulBottles_13 : decode cX5_doubtfulBottles 13 = .ok (.iload_n 2, 1) := by decide +kernel
theorem dX5_doubtfulBottles_14 : decode cX5_doubtfulBottles 14 = .ok (.invokevirtual 62, 3) := by decide +kernel
theorem dX5_doubtfulBottles_17 : decode cX5_doubtfulBottles 17 = .ok (.astore_n 3, 1) := by decide +kernel
theorem dX5_doubtfulBottles_18 : decode cX5_doubtfulBottles 18 = .ok (.aload_n 3, 1) := by decide +kernel
theorem dX5_doubtfulBottles_19 : decode cX5_doubtfulBottles 19 = .ok (.ifnull 14, 3) := by decide +kernel
theorem dX5_doubtfulBottles_22 : decode cX5_doubtfulBottles 22 = .ok (.aload_n 0, 1) := by decide +kernel
theorem dX5_doubtfulBottles_23 : decode cX5_doubtfulBottles 23 = .ok (.aload_n 3, 1) := by decide +kernel
theorem dX5_doubtfulBottles_24 : decode cX5_doubtfulBottles 24 = .ok (.invokevirtual 218, 3) := by decide +kernel
theorem dX5_doubtfulBottles_27 : decode cX5_doubtfulBottles 27 = .ok (.ifCond .eq 6, 3) := by decide +kernel
theorem dX5_doubtfulBottles_30 : decode cX5_doubtfulBottles 30 = .ok (.iinc 1 1, 3) := by decide +kernel
theorem dX5_doubtfulBottles_33 : decode cX5_doubtfulBottles 33 = .ok (.iinc 2 1, 3) := by decide +kernel
theorem dX5_doubtfulBottles_36 : decode cX5_doubtfulBottles 36 = .ok (.goto (-32), 3) := by decide +kernel
theorem dX5_doubtfulBottles_39 : decode cX5_doubtfulBottles 39 = .ok (.iload_n 1, 1) := by decide +kernel
theorem dX5_doubtfulBottles_40 : decode cX5_doubtfulBottles 40 = .ok (.ireturn, 1) := by decide +kernel
theorem dX5_openInLayer_0 : decode cX5_openInLayer 0 = .ok (.iconst 0, 1) := by decide +kernel
theorem dX5_openInLayer_1 : decode cX5_openInLayer 1 = .ok (.istore_n 2, 1) := by decide +kernel
theorem dX5_openInLayer_2 : decode cX5_openInLayer 2 = .ok (.iconst 0, 1) := by decide +kernel
theorem dX5_openInLayer_3 : decode cX5_openInLayer 3 = .ok (.istore_n 3, 1) := by decide +kernel
theorem dX5_openInLayer_4 : decode cX5_openInLayer 4 = .ok (.iload_n 3, 1) := by decide +kernel
theorem dX5_openInLayer_5 : decode cX5_openInLayer 5 = .ok (.aload_n 0, 1) := by decide +kernel
theorem dX5_openInLayer_6 : decode cX5_openInLayer 6 = .ok (.getfield 56, 3) := by decide +kernel
theorem dX5_openInLayer_9 : decode cX5_openInLayer 9 = .ok (.if_icmp .ge 66, 3) := by decide +kernel
theorem dX5_openInLayer_12 : decode cX5_openInLayer 12 = .ok (.aload_n 0, 1) := by decide +kernel
theorem dX5_openInLayer_13 : decode cX5_openInLayer 13 = .ok (.iload_n 3, 1) := by decide +kernel
theorem dX5_openInLayer_14 : decode cX5_openInLayer 14 = .ok (.invokevirtual 62, 3) := by decide +kernel
theorem dX5_openInLayer_17 : decode cX5_openInLayer 17 = .ok (.astore 4, 2) := by decide +kernel
theorem dX5_openInLayer_19 : decode cX5_openInLayer 19 = .ok (.aload 4, 2) := by decide +kernel
theorem dX5_openInLayer_21 : decode cX5_openInLayer 21 = .ok (.ifnull 48, 3) := by decide +kernel
theorem dX5_openInLayer_24 : decode cX5_openInLayer 24 = .ok (.aload 4, 2) := by decide +kernel
theorem dX5_openInLayer_26 : decode cX5_openInLayer 26 = .ok (.getfield 130, 3) := by decide +kernel
theorem dX5_openInLayer_29 : decode cX5_openInLayer 29 = .ok (.ifCond .ne 40, 3) := by decide +kernel
theorem dX5_openInLayer_32 : decode cX5_openInLayer 32 = .ok (.aload_n 0, 1) := by decide +kernel
theorem dX5_openInLayer_33 : decode cX5_openInLayer 33 = .ok (.getfield 12, 3) := by decide +kernel
theorem dX5_openInLayer_36 : decode cX5_openInLayer 36 = .ok (.aload 4, 2) := by decide +kernel
theorem dX5_openInLayer_38 : decode cX5_openInLayer 38 = .ok (.getfield 95, 3) := by decide +kernel
theorem dX5_openInLayer_41 : decode cX5_openInLayer 41 = .ok (.invokevirtual 102, 3) := by decide +kernel
theorem dX5_openInLayer_44 : decode cX5_openInLayer 44 = .ok (.ifCond .eq 25, 3) := by decide +kernel
theorem dX5_openInLayer_47 : decode cX5_openInLayer 47 = .ok (.aload_n 0, 1) := by decide +kernel
theorem dX5_openInLayer_48 : decode cX5_openInLayer 48 = .ok (.getfield 12, 3) := by decide +kernel
theorem dX5_openInLayer_51 : decode cX5_openInLayer 51 = .ok (.aload 4, 2) := by decide +kernel
theorem dX5_openInLayer_53 : decode cX5_openInLayer 53 = .ok (.getfield 95, 3) := by decide +kernel
theorem dX5_openInLayer_56 : decode cX5_openInLayer 56 = .ok (.invokevirtual 221, 3) := by decide +kernel
theorem dX5_openInLayer_59 : decode cX5_openInLayer 59 = .ok (.invokestatic 149, 3) := by decide +kernel
theorem dX5_openInLayer_62 : decode cX5_openInLayer 62 = .ok (.iload_n 1, 1) := by decide +kernel
theorem dX5_openInLayer_63 : decode cX5_openInLayer 63 = .ok (.if_icmp .ne 6, 3) := by decide +kernel
theorem dX5_openInLayer_66 : decode cX5_openInLayer 66 = .ok (.iinc 2 1, 3) := by decide +kernel
theorem dX5_openInLayer_69 : decode cX5_openInLayer 69 = .ok (.iinc 3 1, 3) := by decide +kernel
theorem dX5_openInLayer_72 : decode cX5_openInLayer 72 = .ok (.goto (-68), 3) := by decide +kernel
theorem dX5_openInLayer_75 : decode cX5_openInLayer 75 = .ok (.iload_n 2, 1) := by decide +kernel
theorem dX5_openInLayer_76 : decode cX5_openInLayer 76 = .ok (.ireturn, 1) := by decide +kernel
theorem dX5_shutInLayer_0 : decode cX5_shutInLayer 0 = .ok (.iconst 0, 1) := by decide +kernel
theorem dX5_shutInLayer_1 : decode cX5_shutInLayer 1 = .ok (.istore_n 2, 1) := by decide +kernel
theorem dX5_shutInLayer_2 : decode cX5_shutInLayer 2 = .ok (.iconst 0, 1) := by decide +kernel
theorem dX5_shutInLayer_3 : decode cX5_shutInLayer 3 = .ok (.istore_n 3, 1) := by decide +kernel
theorem dX5_shutInLayer_4 : decode cX5_shutInLayer 4 = .ok (.iload_n 3, 1) := by decide +kernel
theorem dX5_shutInLayer_5 : decode cX5_shutInLayer 5 = .ok (.aload_n 0, 1) := by decide +kernel
theorem dX5_shutInLayer_6 : decode cX5_shutInLayer 6 = .ok (.getfield 56, 3) := by decide +kernel
theorem dX5_shutInLayer_9 : decode cX5_shutInLayer 9 = .ok (.if_icmp .ge 41, 3) := by decide +kernel
theorem dX5_shutInLayer_12 : decode cX5_shutInLayer 12 = .ok (.aload_n 0, 1) := by decide +kernel
theorem dX5_shutInLayer_13 : decode cX5_shutInLayer 13 = .ok (.iload_n 3, 1) := by decide +kernel
theorem dX5_shutInLayer_14 : decode cX5_shutInLayer 14 = .ok (.invokevirtual 62, 3) := by decide +kernel
theorem dX5_shutInLayer_17 : decode cX5_shutInLayer 17 = .ok (.astore 4, 2) := by decide +kernel
theorem dX5_shutInLayer_19 : decode cX5_shutInLayer 19 = .ok (.aload 4, 2) := by decide +kernel
theorem dX5_shutInLayer_21 : decode cX5_shutInLayer 21 = .ok (.ifnull 23, 3) := by decide +kernel
theorem dX5_shutInLayer_24 : decode cX5_shutInLayer 24 = .ok (.aload 4, 2) := by decide +kernel
theorem dX5_shutInLayer_26 : decode cX5_shutInLayer 26 = .ok (.getfield 130, 3) := by decide +kernel
theorem dX5_shutInLayer_29 : decode cX5_shutInLayer 29 = .ok (.ifCond .eq 15, 3) := by decide +kernel
theorem dX5_shutInLayer_32 : decode cX5_shutInLayer 32 = .ok (.aload 4, 2) := by decide +kernel
theorem dX5_shutInLayer_34 : decode cX5_shutInLayer 34 = .ok (.getfield 152, 3) := by decide +kernel
theorem dX5_shutInLayer_37 : decode cX5_shutInLayer 37 = .ok (.iload_n 1, 1) := by decide +kernel
theorem dX5_shutInLayer_38 : decode cX5_shutInLayer 38 = .ok (.if_icmp .ne 6, 3) := by decide +kernel
theorem dX5_shutInLayer_41 : decode cX5_shutInLayer 41 = .ok (.iinc 2 1, 3) := by decide +kernel
theorem dX5_shutInLayer_44 : decode cX5_shutInLayer 44 = .ok (.iinc 3 1, 3) := by decide +kernel
theorem dX5_shutInLayer_47 : decode cX5_shutInLayer 47 = .ok (.goto (-43), 3) := by decide +kernel
theorem dX5_shutInLayer_50 : decode cX5_shutInLayer 50 = .ok (.iload_n 2, 1) := by decide +kernel
theorem dX5_shutInLayer_51 : decode cX5_shutInLayer 51 = .ok (.ireturn, 1) := by decide +kernel
theorem dX6_init_0 : decode cX6_init 0 = .ok (.aload_n 0, 1) := by decide +kernel
theorem dX6_init_1 : decode cX6_init 1 = .ok (.invokespecial 3, 3) := by decide +kernel
theorem dX6_init_4 : decode cX6_init 4 = .ok (.aload_n 0, 1) := by decide +kernel
theorem dX6_init_5 : decode cX6_init 5 = .ok (.bipush 60, 2) := by decide +kernel
theorem dX6_init_7 : decode cX6_init 7 = .ok (.newarray .char, 2) := by decide +kernel
theorem dX6_init_9 : decode cX6_init 9 = .ok (.putfield 9, 3) := by decide +kernel
theorem dX6_init_12 : decode cX6_init 12 = .ok (.return_, 1) := by decide +kernel
theorem dX7_init_0 : decode cX7_init 0 = .ok (.aload_n 0, 1) := by decide +kernel
theorem dX7_init_1 : decode cX7_init 1 = .ok (.invokespecial 3, 3) := by decide +kernel
theorem dX7_init_4 : decode cX7_init 4 = .ok (.aload_n 0, 1) := by decide +kernel
theorem dX7_init_5 : decode cX7_init 5 = .ok (.bipush 10, 2) := by decide +kernel
theorem dX7_init_7 : decode cX7_init 7 = .ok (.newarray .int, 2) := by decide +kernel
theorem dX7_init_9 : decode cX7_init 9 = .ok (.putfield 9, 3) := by decide +kernel
theorem dX7_init_12 : decode cX7_init 12 = .ok (.aload_n 0, 1) := by decide +kernel
theorem dX7_init_13 : decode cX7_init 13 = .ok (.bipush 10, 2) := by decide +kernel
theorem dX7_init_15 : decode cX7_init 15 = .ok (.newarray .int, 2) := by decide +kernel
theorem dX7_init_17 : decode cX7_init 17 = .ok (.putfield 15, 3) := by decide +kernel
theorem dX7_init_20 : decode cX7_init 20 = .ok (.iconst 0, 1) := by decide +kernel
theorem dX7_init_21 : decode cX7_init 21 = .ok (.istore_n 1, 1) := by decide +kernel
theorem dX7_init_22 : decode cX7_init 22 = .ok (.iload_n 1, 1) := by decide +kernel
theorem dX7_init_23 : decode cX7_init 23 = .ok (.bipush 10, 2) := by decide +kernel
theorem dX7_init_25 : decode cX7_init 25 = .ok (.if_icmp .ge 34, 3) := by decide +kernel
theorem dX7_init_28 : decode cX7_init 28 = .ok (.aload_n 0, 1) := by decide +kernel
theorem dX7_init_29 : decode cX7_init 29 = .ok (.getfield 9, 3) := by decide +kernel
theorem dX7_init_32 : decode cX7_init 32 = .ok (.iload_n 1, 1) := by decide +kernel
theorem dX7_init_33 : decode cX7_init 33 = .ok (.sipush 200, 3) := by decide +kernel
theorem dX7_init_36 : decode cX7_init 36 = .ok (.bipush 20, 2) := by decide +kernel
theorem dX7_init_38 : decode cX7_init 38 = .ok (.iload_n 1, 1) := by decide +kernel
theorem dX7_init_39 : decode cX7_init 39 = .ok (.imul, 1) := by decide +kernel
theorem dX7_init_40 : decode cX7_init 40 = .ok (.isub, 1) := by decide +kernel
theorem dX7_init_41 : decode cX7_init 41 = .ok (.iastore, 1) := by decide +kernel
theorem dX7_init_42 : decode cX7_init 42 = .ok (.aload_n 0, 1) := by decide +kernel
theorem dX7_init_43 : decode cX7_init 43 = .ok (.getfield 15, 3) := by decide +kernel
theorem dX7_init_46 : decode cX7_init 46 = .ok (.iload_n 1, 1) := by decide +kernel
theorem dX7_init_47 : decode cX7_init 47 = .ok (.sipush 340, 3) := by decide +kernel
theorem dX7_init_50 : decode cX7_init 50 = .ok (.iload_n 1, 1) := by decide +kernel
theorem dX7_init_51 : decode cX7_init 51 = .ok (.iadd, 1) := by decide +kernel
theorem dX7_init_52 : decode cX7_init 52 = .ok (.iastore, 1) := by decide +kernel
theorem dX7_init_53 : decode cX7_init 53 = .ok (.iinc 1 1, 3) := by decide +kernel
theorem dX7_init_56 : decode cX7_init 56 = .ok (.goto (-34), 3) := by decide +kernel
theorem dX7_init_59 : decode cX7_init 59 = .ok (.return_, 1) := by decide +kernel
theorem dX7_copyFrom_0 : decode cX7_copyFrom 0 = .ok (.iconst 0, 1) := by decide +kernel
theorem dX7_copyFrom_1 : decode cX7_copyFrom 1 = .ok (.istore_n 2, 1) := by decide +kernel
theorem dX7_copyFrom_2 : decode cX7_copyFrom 2 = .ok (.iload_n 2, 1) := by decide +kernel
theorem dX7_copyFrom_3 : decode cX7_copyFrom 3 = .ok (.bipush 10, 2) := by decide +kernel
theorem dX7_copyFrom_5 : decode cX7_copyFrom 5 = .ok (.if_icmp .ge 33, 3) := by decide +kernel
theorem dX7_copyFrom_8 : decode cX7_copyFrom 8 = .ok (.aload_n 0, 1) := by decide +kernel
theorem dX7_copyFrom_9 : decode cX7_copyFrom 9 = .ok (.getfield 9, 3) := by decide +kernel
theorem dX7_copyFrom_12 : decode cX7_copyFrom 12 = .ok (.iload_n 2, 1) := by decide +kernel
theorem dX7_copyFrom_13 : decode cX7_copyFrom 13 = .ok (.aload_n 1, 1) := by decide +kernel
theorem dX7_copyFrom_14 : decode cX7_copyFrom 14 = .ok (.getfield 9, 3) := by decide +kernel
theorem dX7_copyFrom_17 : decode cX7_copyFrom 17 = .ok (.iload_n 2, 1) := by decide +kernel
theorem dX7_copyFrom_18 : decode cX7_copyFrom 18 = .ok (.iaload, 1) := by decide +kernel
theorem dX7_copyFrom_19 : decode cX7_copyFrom 19 = .ok (.iastore, 1) := by decide +kernel
theorem dX7_copyFrom_20 : decode cX7_copyFrom 20 = .ok (.aload_n 0, 1) := by decide +kernel
theorem dX7_copyFrom_21 : decode cX7_copyFrom 21 = .ok (.getfield 15, 3) := by decide +kernel
theorem dX7_copyFrom_24 : decode cX7_copyFrom 24 = .ok (.iload_n 2, 1) := by decide +kernel
theorem dX7_copyFrom_25 : decode cX7_copyFrom 25 = .ok (.aload_n 1, 1) := by decide +kernel
theorem dX7_copyFrom_26 : decode cX7_copyFrom 26 = .ok (.getfield 15, 3) := by decide +kernel
theorem dX7_copyFrom_29 : decode cX7_copyFrom 29 = .ok (.iload_n 2, 1) := by decide +kernel
theorem dX7_copyFrom_30 : decode cX7_copyFrom 30 = .ok (.iaload, 1) := by decide +kernel
theorem dX7_copyFrom_31 : decode cX7_copyFrom 31 = .ok (.iastore, 1) := by decide +kernel
theorem dX7_copyFrom_32 : decode cX7_copyFrom 32 = .ok (.iinc 2 1, 3) := by decide +kernel
theorem dX7_copyFrom_35 : decode cX7_copyFrom 35 = .ok (.goto (-33), 3) := by decide +kernel
theorem dX7_copyFrom_38 : decode cX7_copyFrom 38 = .ok (.return_, 1) := by decide +kernel
theorem dX7_has_0 : decode cX7_has 0 = .ok (.iload_n 1, 1) := by decide +kernel
theorem dX7_has_1 : decode cX7_has 1 = .ok (.ifCond .lt 13, 3) := by decide +kernel
theorem dX7_has_4 : decode cX7_has 4 = .ok (.iload_n 1, 1) := by decide +kernel
theorem dX7_has_5 : decode cX7_has 5 = .ok (.bipush 10, 2) := by decide +kernel
theorem dX7_has_7 : decode cX7_has 7 = .ok (.if_icmp .ge 7, 3) := by decide +kernel
theorem dX7_has_10 : decode cX7_has 10 = .ok (.iconst 1, 1) := by decide +kernel
theorem dX7_has_11 : decode cX7_has 11 = .ok (.goto 4, 3) := by decide +kernel
theorem dX7_has_14 : decode cX7_has 14 = .ok (.iconst 0, 1) := by decide +kernel
theorem dX7_has_15 : decode cX7_has 15 = .ok (.ireturn, 1) := by decide +kernel
theorem dX7_warmthIn_0 : decode cX7_warmthIn 0 = .ok (.aload_n 0, 1) := by decide +kernel
theorem dX7_warmthIn_1 : decode cX7_warmthIn 1 = .ok (.iload_n 1, 1) := by decide +kernel
theorem dX7_warmthIn_2 : decode cX7_warmthIn 2 = .ok (.invokevirtual 18, 3) := by decide +kernel
theorem dX7_warmthIn_5 : decode cX7_warmthIn 5 = .ok (.ifCond .eq 12, 3) := by decide +kernel
theorem dX7_warmthIn_8 : decode cX7_warmthIn 8 = .ok (.aload_n 0, 1) := by decide +kernel
theorem dX7_warmthIn_9 : decode cX7_warmthIn 9 = .ok (.getfield 9, 3) := by decide +kernel
theorem dX7_warmthIn_12 : decode cX7_warmthIn 12 = .ok (.iload_n 1, 1) := by decide +kernel
theorem dX7_warmthIn_13 : decode cX7_warmthIn 13 = .ok (.iaload, 1) := by decide +kernel
theorem dX7_warmthIn_14 : decode cX7_warmthIn 14 = .ok (.goto 4, 3) := by decide +kernel
theorem dX7_warmthIn_17 : decode cX7_warmthIn 17 = .ok (.iconst 0, 1) := by decide +kernel
theorem dX7_warmthIn_18 : decode cX7_warmthIn 18 = .ok (.ireturn, 1) := by decide +kernel
theorem dX7_saltIn_0 : decode cX7_saltIn 0 = .ok (.aload_n 0, 1) := by decide +kernel
theorem dX7_saltIn_1 : decode cX7_saltIn 1 = .ok (.iload_n 1, 1) := by decide +kernel
theorem dX7_saltIn_2 : decode cX7_saltIn 2 = .ok (.invokevirtual 18, 3) := by decide +kernel
theorem dX7_saltIn_5 : decode cX7_saltIn 5 = .ok (.ifCond .eq 12, 3) := by decide +kernel
theorem dX7_saltIn_8 : decode cX7_saltIn 8 = .ok (.aload_n 0, 1) := by decide +kernel
theorem dX7_saltIn_9 : decode cX7_saltIn 9 = .ok (.getfield 15, 3) := by decide +kernel
theorem dX7_saltIn_12 : decode cX7_saltIn 12 = .ok (.iload_n 1, 1) := by decide +kernel
theorem dX7_saltIn_13 : decode cX7_saltIn 13 = .ok (.iaload, 1) := by decide +kernel
theorem dX7_saltIn_14 : decode cX7_saltIn 14 = .ok (.goto 4, 3) := by decide +kernel
theorem dX7_saltIn_17 : decode cX7_saltIn 17 = .ok (.iconst 0, 1) := by decide +kernel
theorem dX7_saltIn_18 : decode cX7_saltIn 18 = .ok (.ireturn, 1) := by decide +kernel
theorem dX7_change_0 : decode cX7_change 0 = .ok (.aload_n 0, 1) := by decide +kernel
theorem dX7_change_1 : decode cX7_change 1 = .ok (.iload_n 1, 1) := by decide +kernel
theorem dX7_change_2 : decode cX7_change 2 = .ok (.invokevirtual 18, 3) := by decide +kernel
theorem dX7_change_5 : decode cX7_change 5 = .ok (.ifCond .ne 7, 3) := by decide +kernel
theorem dX7_change_8 : decode cX7_change 8 = .ok (.sipush (-1001), 3) := by decide +kernel
theorem dX7_change_11 : decode cX7_change 11 = .ok (.ireturn, 1) := by decide +kernel
theorem dX7_change_12 : decode cX7_change 12 = .ok (.iload_n 2, 1) := by decide +kernel
theorem dX7_change_13 : decode cX7_change 13 = .ok (.bipush (-20), 2) := by decide +kernel
theorem dX7_change_15 : decode cX7_change 15 = .ok (.if_icmp .lt 21, 3) := by decide +kernel
theorem dX7_change_18 : decode cX7_change 18 = .ok (.iload_n 2, 1) := by decide +kernel
theorem dX7_change_19 : decode cX7_change 19 = .ok (.sipush 300, 3) := by decide +kernel
theorem dX7_change_22 : decode cX7_change 22 = .ok (.if_icmp .gt 14, 3) := by decide +kernel
theorem dX7_change_25 : decode cX7_change 25 = .ok (.iload_n 3, 1) := by decide +kernel
theorem dX7_change_26 : decode cX7_change 26 = .ok (.ifCond .lt 10, 3) := by decide +kernel
theorem dX7_change_29 : decode cX7_change 29 = .ok (.iload_n 3, 1) := by decide +kernel
theorem dX7_change_30 : decode cX7_change 30 = .ok (.sipush 420, 3) := by decide +kernel
theorem dX7_change_33 : decode cX7_change 33 = .ok (.if_icmp .le 7, 3) := by decide +kernel
theorem dX7_change_36 : decode cX7_change 36 = .ok (.sipush (-1002), 3) := by decide +kernel
theorem dX7_change_39 : decode cX7_change 39 = .ok (.ireturn, 1) := by decide +kernel
theorem dX7_change_40 : decode cX7_change 40 = .ok (.aload_n 0, 1) := by decide +kernel
theorem dX7_change_41 : decode cX7_change 41 = .ok (.getfield 9, 3) := by decide +kernel
theorem dX7_change_44 : decode cX7_change 44 = .ok (.iload_n 1, 1) := by decide +kernel
theorem dX7_change_45 : decode cX7_change 45 = .ok (.iaload, 1) := by decide +kernel
theorem dX7_change_46 : decode cX7_change 46 = .ok (.istore 4, 2) := by decide +kernel
theorem dX7_change_48 : decode cX7_change 48 = .ok (.iload 4, 2) := by decide +kernel
theorem dX7_change_50 : decode cX7_change 50 = .ok (.iload_n 2, 1) := by decide +kernel
theorem dX7_change_51 : decode cX7_change 51 = .ok (.if_icmp .ne 17, 3) := by decide +kernel
theorem dX7_change_54 : decode cX7_change 54 = .ok (.aload_n 0, 1) := by decide +kernel
theorem dX7_change_55 : decode cX7_change 55 = .ok (.getfield 15, 3) := by decide +kernel
theorem dX7_change_58 : decode cX7_change 58 = .ok (.iload_n 1, 1) := by decide +kernel
theorem dX7_change_59 : decode cX7_change 59 = .ok (.iaload, 1) := by decide +kernel
theorem dX7_change_60 : decode cX7_change 60 = .ok (.iload_n 3, 1) := by decide +kernel
theorem dX7_change_61 : decode cX7_change 61 = .ok (.if_icmp .ne 7, 3) := by decide +kernel
theorem dX7_change_64 : decode cX7_change 64 = .ok (.sipush (-1005), 3) := by decide +kernel
theorem dX7_change_67 : decode cX7_change 67 = .ok (.ireturn, 1) := by decide +kernel
theorem dX7_change_68 : decode cX7_change 68 = .ok (.aload_n 0, 1) := by decide +kernel
theorem dX7_change_69 : decode cX7_change 69 = .ok (.getfield 9, 3) := by decide +kernel
theorem dX7_change_72 : decode cX7_change 72 = .ok (.iload_n 1, 1) := by decide +kernel
theorem dX7_change_73 : decode cX7_change 73 = .ok (.iload_n 2, 1) := by decide +kernel
theorem dX7_change_74 : decode cX7_change 74 = .ok (.iastore, 1) := by decide +kernel
theorem dX7_change_75 : decode cX7_change 75 = .ok (.aload_n 0, 1) := by decide +kernel
theorem dX7_change_76 : decode cX7_change 76 = .ok (.getfield 15, 3) := by decide +kernel
theorem dX7_change_79 : decode cX7_change 79 = .ok (.iload_n 1, 1) := by decide +kernel
theorem dX7_change_80 : decode cX7_change 80 = .ok (.iload_n 3, 1) := by decide +kernel
theorem dX7_change_81 : decode cX7_change 81 = .ok (.iastore, 1) := by decide +kernel
theorem dX7_change_82 : decode cX7_change 82 = .ok (.iload 4, 2) := by decide +kernel
theorem dX7_change_84 : decode cX7_change 84 = .ok (.ireturn, 1) := by decide +kernel
theorem dX8_init_0 : decode cX8_init 0 = .ok (.aload_n 0, 1) := by decide +kernel
theorem dX8_init_1 : decode cX8_init 1 = .ok (.invokespecial 1, 3) := by decide +kernel
theorem dX8_init_4 : decode cX8_init 4 = .ok (.aload_n 0, 1) := by decide +kernel
theorem dX8_init_5 : decode cX8_init 5 = .ok (.new 7, 3) := by decide +kernel
theorem dX8_init_8 : decode cX8_init 8 = .ok (.dup, 1) := by decide +kernel
theorem dX8_init_9 : decode cX8_init 9 = .ok (.invokespecial 9, 3) := by decide +kernel
theorem dX8_init_12 : decode cX8_init 12 = .ok (.putfield 10, 3) := by decide +kernel
theorem dX8_init_15 : decode cX8_init 15 = .ok (.aload_n 0, 1) := by decide +kernel
theorem dX8_init_16 : decode cX8_init 16 = .ok (.new 7, 3) := by decide +kernel
theorem dX8_init_19 : decode cX8_init 19 = .ok (.dup, 1) := by decide +kernel
theorem dX8_init_20 : decode cX8_init 20 = .ok (.invokespecial 9, 3) := by decide +kernel
theorem dX8_init_23 : decode cX8_init 23 = .ok (.putfield 16, 3) := by decide +kernel
theorem dX8_init_26 : decode cX8_init 26 = .ok (.aload_n 0, 1) := by decide +kernel
theorem dX8_init_27 : decode cX8_init 27 = .ok (.new 7, 3) := by decide +kernel
theorem dX8_init_30 : decode cX8_init 30 = .ok (.dup, 1) := by decide +kernel
theorem dX8_init_31 : decode cX8_init 31 = .ok (.invokespecial 9, 3) := by decide +kernel
theorem dX8_init_34 : decode cX8_init 34 = .ok (.putfield 19, 3) := by decide +kernel
theorem dX8_init_37 : decode cX8_init 37 = .ok (.aload_n 0, 1) := by decide +kernel
theorem dX8_init_38 : decode cX8_init 38 = .ok (.new 7, 3) := by decide +kernel
theorem dX8_init_41 : decode cX8_init 41 = .ok (.dup, 1) := by decide +kernel
theorem dX8_init_42 : decode cX8_init 42 = .ok (.invokespecial 9, 3) := by decide +kernel
theorem dX8_init_45 : decode cX8_init 45 = .ok (.putfield 22, 3) := by decide +kernel
theorem dX8_init_48 : decode cX8_init 48 = .ok (.aload_n 0, 1) := by decide +kernel
theorem dX8_init_49 : decode cX8_init 49 = .ok (.new 25, 3) := by decide +kernel
theorem dX8_init_52 : decode cX8_init 52 = .ok (.dup, 1) := by decide +kernel
theorem dX8_init_53 : decode cX8_init 53 = .ok (.invokespecial 27, 3) := by decide +kernel
theorem dX8_init_56 : decode cX8_init 56 = .ok (.putfield 28, 3) := by decide +kernel
theorem dX8_init_59 : decode cX8_init 59 = .ok (.aload_n 0, 1) := by decide +kernel
theorem dX8_init_60 : decode cX8_init 60 = .ok (.new 32, 3) := by decide +kernel
theorem dX8_init_63 : decode cX8_init 63 = .ok (.dup, 1) := by decide +kernel
theorem dX8_init_64 : decode cX8_init 64 = .ok (.invokespecial 34, 3) := by decide +kernel
theorem dX8_init_67 : decode cX8_init 67 = .ok (.putfield 35, 3) := by decide +kernel
theorem dX8_init_70 : decode cX8_init 70 = .ok (.aload_n 0, 1) := by decide +kernel
theorem dX8_init_71 : decode cX8_init 71 = .ok (.new 39, 3) := by decide +kernel
theorem dX8_init_74 : decode cX8_init 74 = .ok (.dup, 1) := by decide +kernel
theorem dX8_init_75 : decode cX8_init 75 = .ok (.invokespecial 41, 3) := by decide +kernel
theorem dX8_init_78 : decode cX8_init 78 = .ok (.putfield 42, 3) := by decide +kernel
theorem dX8_init_81 : decode cX8_init 81 = .ok (.return_, 1) := by decide +kernel
theorem dX8_pay_0 : decode cX8_pay 0 = .ok (.aload_n 0, 1) := by decide +kernel
theorem dX8_pay_1 : decode cX8_pay 1 = .ok (.getfield 16, 3) := by decide +kernel
theorem dX8_pay_4 : decode cX8_pay 4 = .ok (.aload_n 0, 1) := by decide +kernel
theorem dX8_pay_5 : decode cX8_pay 5 = .ok (.getfield 10, 3) := by decide +kernel
theorem dX8_pay_8 : decode cX8_pay 8 = .ok (.invokevirtual 46, 3) := by decide +kernel
theorem dX8_pay_11 : decode cX8_pay 11 = .ok (.aload_n 0, 1) := by decide +kernel
theorem dX8_pay_12 : decode cX8_pay 12 = .ok (.aload_n 0, 1) := by decide +kernel
theorem dX8_pay_13 : decode cX8_pay 13 = .ok (.getfield 10, 3) := by decide +kernel
theorem dX8_pay_16 : decode cX8_pay 16 = .ok (.iload_n 1, 1) := by decide +kernel
theorem dX8_pay_17 : decode cX8_pay 17 = .ok (.invokevirtual 50, 3) := by decide +kernel
theorem dX8_pay_20 : decode cX8_pay 20 = .ok (.invokevirtual 54, 3) := by decide +kernel
theorem dX8_pay_23 : decode cX8_pay 23 = .ok (.ireturn, 1) := by decide +kernel
theorem dX8_setSlope_0 : decode cX8_setSlope 0 = .ok (.aload_n 0, 1) := by decide +kernel
theorem dX8_setSlope_1 : decode cX8_setSlope 1 = .ok (.getfield 16, 3) := by decide +kernel
theorem dX8_setSlope_4 : decode cX8_setSlope 4 = .ok (.aload_n 0, 1) := by decide +kernel
theorem dX8_setSlope_5 : decode cX8_setSlope 5 = .ok (.getfield 10, 3) := by decide +kernel
theorem dX8_setSlope_8 : decode cX8_setSlope 8 = .ok (.invokevirtual 46, 3) := by decide +kernel
theorem dX8_setSlope_11 : decode cX8_setSlope 11 = .ok (.aload_n 0, 1) := by decide +kernel
theorem dX8_setSlope_12 : decode cX8_setSlope 12 = .ok (.aload_n 0, 1) := by decide +kernel
theorem dX8_setSlope_13 : decode cX8_setSlope 13 = .ok (.getfield 10, 3) := by decide +kernel
theorem dX8_setSlope_16 : decode cX8_setSlope 16 = .ok (.iload_n 1, 1) := by decide +kernel
theorem dX8_setSlope_17 : decode cX8_setSlope 17 = .ok (.invokevirtual 57, 3) := by decide +kernel
theorem dX8_setSlope_20 : decode cX8_setSlope 20 = .ok (.invokevirtual 54, 3) := by decide +kernel
theorem dX8_setSlope_23 : decode cX8_setSlope 23 = .ok (.ireturn, 1) := by decide +kernel
theorem dX8_weight_0 : decode cX8_weight 0 = .ok (.aload_n 0, 1) := by decide +kernel
theorem dX8_weight_1 : decode cX8_weight 1 = .ok (.getfield 16, 3) := by decide +kernel
theorem dX8_weight_4 : decode cX8_weight 4 = .ok (.aload_n 0, 1) := by decide +kernel
theorem dX8_weight_5 : decode cX8_weight 5 = .ok (.getfield 10, 3) := by decide +kernel
theorem dX8_weight_8 : decode cX8_weight 8 = .ok (.invokevirtual 46, 3) := by decide +kernel
theorem dX8_weight_11 : decode cX8_weight 11 = .ok (.aload_n 0, 1) := by decide +kernel
theorem dX8_weight_12 : decode cX8_weight 12 = .ok (.aload_n 0, 1) := by decide +kernel
theorem dX8_weight_13 : decode cX8_weight 13 = .ok (.getfield 10, 3) := by decide +kernel
theorem dX8_weight_16 : decode cX8_weight 16 = .ok (.iload_n 1, 1) := by decide +kernel
theorem dX8_weight_17 : decode cX8_weight 17 = .ok (.invokevirtual 60, 3) := by decide +kernel
theorem dX8_weight_20 : decode cX8_weight 20 = .ok (.invokevirtual 54, 3) := by decide +kernel
theorem dX8_weight_23 : decode cX8_weight 23 = .ok (.ireturn, 1) := by decide +kernel
theorem dX8_clamp_0 : decode cX8_clamp 0 = .ok (.aload_n 0, 1) := by decide +kernel
theorem dX8_clamp_1 : decode cX8_clamp 1 = .ok (.getfield 16, 3) := by decide +kernel
theorem dX8_clamp_4 : decode cX8_clamp 4 = .ok (.aload_n 0, 1) := by decide +kernel
theorem dX8_clamp_5 : decode cX8_clamp 5 = .ok (.getfield 10, 3) := by decide +kernel
theorem dX8_clamp_8 : decode cX8_clamp 8 = .ok (.invokevirtual 46, 3) := by decide +kernel
theorem dX8_clamp_11 : decode cX8_clamp 11 = .ok (.aload_n 0, 1) := by decide +kernel
theorem dX8_clamp_12 : decode cX8_clamp 12 = .ok (.aload_n 0, 1) := by decide +kernel
theorem dX8_clamp_13 : decode cX8_clamp 13 = .ok (.getfield 10, 3) := by decide +kernel
theorem dX8_clamp_16 : decode cX8_clamp 16 = .ok (.iload_n 1, 1) := by decide +kernel
theorem dX8_clamp_17 : decode cX8_clamp 17 = .ok (.invokevirtual 64, 3) := by decide +kernel
theorem dX8_clamp_20 : decode cX8_clamp 20 = .ok (.invokevirtual 54, 3) := by decide +kernel
theorem dX8_clamp_23 : decode cX8_clamp 23 = .ok (.ireturn, 1) := by decide +kernel
theorem dX8_takeOff_0 : decode cX8_takeOff 0 = .ok (.aload_n 0, 1) := by decide +kernel
theorem dX8_takeOff_1 : decode cX8_takeOff 1 = .ok (.getfield 16, 3) := by decide +kernel
theorem dX8_takeOff_4 : decode cX8_takeOff 4 = .ok (.aload_n 0, 1) := by decide +kernel
theorem dX8_takeOff_5 : decode cX8_takeOff 5 = .ok (.getfield 10, 3) := by decide +kernel
theorem dX8_takeOff_8 : decode cX8_takeOff 8 = .ok (.invokevirtual 46, 3) := by decide +kernel
theorem dX8_takeOff_11 : decode cX8_takeOff 11 = .ok (.aload_n 0, 1) := by decide +kernel
theorem dX8_takeOff_12 : decode cX8_takeOff 12 = .ok (.aload_n 0, 1) := by decide +kernel
theorem dX8_takeOff_13 : decode cX8_takeOff 13 = .ok (.getfield 10, 3) := by decide +kernel
theorem dX8_takeOff_16 : decode cX8_takeOff 16 = .ok (.iload_n 1, 1) := by decide +kernel
theorem dX8_takeOff_17 : decode cX8_takeOff 17 = .ok (.invokevirtual 67, 3) := by decide +kernel
theorem dX8_takeOff_20 : decode cX8_takeOff 20 = .ok (.invokevirtual 54, 3) := by decide +kernel
theorem dX8_takeOff_23 : decode cX8_takeOff 23 = .ok (.ireturn, 1) := by decide +kernel
theorem dX8_send_0 : decode cX8_send 0 = .ok (.aload_n 0, 1) := by decide +kernel
theorem dX8_send_1 : decode cX8_send 1 = .ok (.getfield 16, 3) := by decide +kernel
theorem dX8_send_4 : decode cX8_send 4 = .ok (.aload_n 0, 1) := by decide +kernel
theorem dX8_send_5 : decode cX8_send 5 = .ok (.getfield 10, 3) := by decide +kernel
theorem dX8_send_8 : decode cX8_send 8 = .ok (.invokevirtual 46, 3) := by decide +kernel
theorem dX8_send_11 : decode cX8_send 11 = .ok (.aload_n 0, 1) := by decide +kernel
theorem dX8_send_12 : decode cX8_send 12 = .ok (.aload_n 0, 1) := by decide +kernel
theorem dX8_send_13 : decode cX8_send 13 = .ok (.getfield 10, 3) := by decide +kernel
theorem dX8_send_16 : decode cX8_send 16 = .ok (.invokevirtual 70, 3) := by decide +kernel
theorem dX8_send_19 : decode cX8_send 19 = .ok (.invokevirtual 54, 3) := by decide +kernel
theorem dX8_send_22 : decode cX8_send 22 = .ok (.ireturn, 1) := by decide +kernel
theorem dX8_pass_0 : decode cX8_pass 0 = .ok (.aload_n 0, 1) := by decide +kernel
theorem dX8_pass_1 : decode cX8_pass 1 = .ok (.getfield 16, 3) := by decide +kernel
theorem dX8_pass_4 : decode cX8_pass 4 = .ok (.aload_n 0, 1) := by decide +kernel
theorem dX8_pass_5 : decode cX8_pass 5 = .ok (.getfield 10, 3) := by decide +kernel
theorem dX8_pass_8 : decode cX8_pass 8 = .ok (.invokevirtual 46, 3) := by decide +kernel
theorem dX8_pass_11 : decode cX8_pass 11 = .ok (.aload_n 0, 1) := by decide +kernel
theorem dX8_pass_12 : decode cX8_pass 12 = .ok (.aload_n 0, 1) := by decide +kernel
theorem dX8_pass_13 : decode cX8_pass 13 = .ok (.getfield 10, 3) := by decide +kernel
theorem dX8_pass_16 : decode cX8_pass 16 = .ok (.iload_n 1, 1) := by decide +kernel
theorem dX8_pass_17 : decode cX8_pass 17 = .ok (.invokevirtual 74, 3) := by decide +kernel
theorem dX8_pass_20 : decode cX8_pass 20 = .ok (.invokevirtual 54, 3) := by decide +kernel
theorem dX8_pass_23 : decode cX8_pass 23 = .ok (.ireturn, 1) := by decide +kernel
theorem dX8_setWater_0 : decode cX8_setWater 0 = .ok (.aload_n 0, 1) := by decide +kernel
theorem dX8_setWater_1 : decode cX8_setWater 1 = .ok (.getfield 16, 3) := by decide +kernel
theorem dX8_setWater_4 : decode cX8_setWater 4 = .ok (.aload_n 0, 1) := by decide +kernel
theorem dX8_setWater_5 : decode cX8_setWater 5 = .ok (.getfield 10, 3) := by decide +kernel
theorem dX8_setWater_8 : decode cX8_setWater 8 = .ok (.invokevirtual 46, 3) := by decide +kernel
theorem dX8_setWater_11 : decode cX8_setWater 11 = .ok (.aload_n 0, 1) := by decide +kernel
theorem dX8_setWater_12 : decode cX8_setWater 12 = .ok (.aload_n 0, 1) := by decide +kernel
theorem dX8_setWater_13 : decode cX8_setWater 13 = .ok (.getfield 10, 3) := by decide +kernel
theorem dX8_setWater_16 : decode cX8_setWater 16 = .ok (.getfield 77, 3) := by decide +kernel
theorem dX8_setWater_19 : decode cX8_setWater 19 = .ok (.iload_n 1, 1) := by decide +kernel
theorem dX8_setWater_20 : decode cX8_setWater 20 = .ok (.iload_n 2, 1) := by decide +kernel
theorem dX8_setWater_21 : decode cX8_setWater 21 = .ok (.iload_n 3, 1) := by decide +kernel
theorem dX8_setWater_22 : decode cX8_setWater 22 = .ok (.invokevirtual 81, 3) := by decide +kernel
theorem dX8_setWater_25 : decode cX8_setWater 25 = .ok (.invokevirtual 54, 3) := by decide +kernel
theorem dX8_setWater_28 : decode cX8_setWater 28 = .ok (.ireturn, 1) := by decide +kernel
theorem dX8_set_0 : decode cX8_set 0 = .ok (.aload_n 0, 1) := by decide +kernel
theorem dX8_set_1 : decode cX8_set 1 = .ok (.getfield 16, 3) := by decide +kernel
theorem dX8_set_4 : decode cX8_set 4 = .ok (.aload_n 0, 1) := by decide +kernel
theorem dX8_set_5 : decode cX8_set 5 = .ok (.getfield 10, 3) := by decide +kernel
theorem dX8_set_8 : decode cX8_set 8 = .ok (.invokevirtual 46, 3) := by decide +kernel
theorem dX8_set_11 : decode cX8_set 11 = .ok (.aload_n 0, 1) := by decide +kernel
theorem dX8_set_12 : decode cX8_set 12 = .ok (.aload_n 0, 1) := by decide +kernel
theorem dX8_set_13 : decode cX8_set 13 = .ok (.getfield 10, 3) := by decide +kernel
theorem dX8_set_16 : decode cX8_set 16 = .ok (.iload_n 1, 1) := by decide +kernel
theorem dX8_set_17 : decode cX8_set 17 = .ok (.iload_n 2, 1) := by decide +kernel
theorem dX8_set_18 : decode cX8_set 18 = .ok (.invokevirtual 87, 3) := by decide +kernel
theorem dX8_set_21 : decode cX8_set 21 = .ok (.invokevirtual 54, 3) := by decide +kernel
theorem dX8_set_24 : decode cX8_set 24 = .ok (.ireturn, 1) := by decide +kernel
theorem dX8_undo_0 : decode cX8_undo 0 = .ok (.aload_n 0, 1) := by decide +kernel
theorem dX8_undo_1 : decode cX8_undo 1 = .ok (.getfield 28, 3) := by decide +kernel
theorem dX8_undo_4 : decode cX8_undo 4 = .ok (.aload_n 0, 1) := by decide +kernel
theorem dX8_undo_5 : decode cX8_undo 5 = .ok (.getfield 10, 3) := by decide +kernel
theorem dX8_undo_8 : decode cX8_undo 8 = .ok (.invokevirtual 138, 3) := by decide +kernel
theorem dX8_undo_11 : decode cX8_undo 11 = .ok (.ifCond .eq 13, 3) := by decide +kernel
theorem dX8_undo_14 : decode cX8_undo 14 = .ok (.aload_n 0, 1) := by decide +kernel
theorem dX8_undo_15 : decode cX8_undo 15 = .ok (.getfield 28, 3) := by decide +kernel
theorem dX8_undo_18 : decode cX8_undo 18 = .ok (.getfield 142, 3) := by decide +kernel
theorem dX8_undo_21 : decode cX8_undo 21 = .ok (.goto 6, 3) := by decide +kernel
theorem dX8_undo_24 : decode cX8_undo 24 = .ok (.sipush (-1005), 3) := by decide +kernel
theorem dX8_undo_27 : decode cX8_undo 27 = .ok (.ireturn, 1) := by decide +kernel
theorem dX8_bottle_0 : decode cX8_bottle 0 = .ok (.aload_n 0, 1) := by decide +kernel
theorem dX8_bottle_1 : decode cX8_bottle 1 = .ok (.getfield 10, 3) := by decide +kernel
theorem dX8_bottle_4 : decode cX8_bottle 4 = .ok (.iload_n 1, 1) := by decide +kernel
theorem dX8_bottle_5 : decode cX8_bottle 5 = .ok (.invokevirtual 151, 3) := by decide +kernel
theorem dX8_bottle_8 : decode cX8_bottle 8 = .ok (.astore_n 3, 1) := by decide +kernel
theorem dX8_bottle_9 : decode cX8_bottle 9 = .ok (.aload_n 3, 1) := by decide +kernel
theorem dX8_bottle_10 : decode cX8_bottle 10 = .ok (.ifnonnull 7, 3) := by decide +kernel
theorem dX8_bottle_13 : decode cX8_bottle 13 = .ok (.sipush (-1001), 3) := by decide +kernel
theorem dX8_bottle_16 : decode cX8_bottle 16 = .ok (.ireturn, 1) := by decide +kernel
theorem dX8_bottle_17 : decode cX8_bottle 17 = .ok (.iload_n 2, 1) := by decide +kernel
theorem dX8_bottle_18 : decode cX8_bottle 18 = .ok (.ifCond .lt 9, 3) := by decide +kernel
theorem dX8_bottle_21 : decode cX8_bottle 21 = .ok (.iload_n 2, 1) := by decide +kernel
theorem dX8_bottle_22 : decode cX8_bottle 22 = .ok (.bipush 13, 2) := by decide +kernel
theorem dX8_bottle_24 : decode cX8_bottle 24 = .ok (.if_icmp .le 7, 3) := by decide +kernel
theorem dX8_bottle_27 : decode cX8_bottle 27 = .ok (.sipush (-1002), 3) := by decide +kernel
theorem dX8_bottle_30 : decode cX8_bottle 30 = .ok (.ireturn, 1) := by decide +kernel
theorem dX8_bottle_31 : decode cX8_bottle 31 = .ok (.iload_n 2, 1) := by decide +kernel
theorem dX8_bottle_32 : decode cX8_bottle 32 = .ok (.bipush 6, 2) := by decide +kernel
theorem dX8_bottle_34 : decode cX8_bottle 34 = .ok (.if_icmp .lt 18, 3) := by decide +kernel
theorem dX8_bottle_37 : decode cX8_bottle 37 = .ok (.iload_n 2, 1) := by decide +kernel
theorem dX8_bottle_38 : decode cX8_bottle 38 = .ok (.bipush 12, 2) := by decide +kernel
theorem dX8_bottle_40 : decode cX8_bottle 40 = .ok (.if_icmp .gt 12, 3) := by decide +kernel
theorem dX8_bottle_43 : decode cX8_bottle 43 = .ok (.aload_n 0, 1) := by decide +kernel
theorem dX8_bottle_44 : decode cX8_bottle 44 = .ok (.aload_n 3, 1) := by decide +kernel
theorem dX8_bottle_45 : decode cX8_bottle 45 = .ok (.iload_n 2, 1) := by decide +kernel
theorem dX8_bottle_46 : decode cX8_bottle 46 = .ok (.invokevirtual 155, 3) := by decide +kernel
theorem dX8_bottle_49 : decode cX8_bottle 49 = .ok (.goto 9, 3) := by decide +kernel
theorem dX8_bottle_52 : decode cX8_bottle 52 = .ok (.aload_n 0, 1) := by decide +kernel
theorem dX8_bottle_53 : decode cX8_bottle 53 = .ok (.aload_n 3, 1) := by decide +kernel
theorem dX8_bottle_54 : decode cX8_bottle 54 = .ok (.iload_n 2, 1) := by decide +kernel
theorem dX8_bottle_55 : decode cX8_bottle 55 = .ok (.invokevirtual 159, 3) := by decide +kernel
theorem dX8_bottle_58 : decode cX8_bottle 58 = .ok (.ireturn, 1) := by decide +kernel
theorem dX8_messenger_0 : decode cX8_messenger 0 = .ok (.iload_n 1, 1) := by decide +kernel
theorem dX8_messenger_1 : decode cX8_messenger 1 = .ok (.ifCond .lt 12, 3) := by decide +kernel
theorem dX8_messenger_4 : decode cX8_messenger 4 = .ok (.iload_n 2, 1) := by decide +kernel
theorem dX8_messenger_5 : decode cX8_messenger 5 = .ok (.ifCond .lt 8, 3) := by decide +kernel
theorem dX8_messenger_8 : decode cX8_messenger 8 = .ok (.iload_n 2, 1) := by decide +kernel
theorem dX8_messenger_9 : decode cX8_messenger 9 = .ok (.iconst 1, 1) := by decide +kernel
theorem dX8_messenger_10 : decode cX8_messenger 10 = .ok (.if_icmp .le 7, 3) := by decide +kernel
theorem dX8_messenger_13 : decode cX8_messenger 13 = .ok (.sipush (-1002), 3) := by decide +kernel
theorem dX8_messenger_16 : decode cX8_messenger 16 = .ok (.ireturn, 1) := by decide +kernel
theorem dX8_messenger_17 : decode cX8_messenger 17 = .ok (.iload_n 1, 1) := by decide +kernel
theorem dX8_messenger_18 : decode cX8_messenger 18 = .ok (.aload_n 0, 1) := by decide +kernel
theorem dX8_messenger_19 : decode cX8_messenger 19 = .ok (.getfield 10, 3) := by decide +kernel
theorem dX8_messenger_22 : decode cX8_messenger 22 = .ok (.getfield 162, 3) := by decide +kernel
theorem dX8_messenger_25 : decode cX8_messenger 25 = .ok (.getfield 166, 3) := by decide +kernel
theorem dX8_messenger_28 : decode cX8_messenger 28 = .ok (.if_icmp .lt 7, 3) := by decide +kernel
theorem dX8_messenger_31 : decode cX8_messenger 31 = .ok (.sipush (-1005), 3) := by decide +kernel
theorem dX8_messenger_34 : decode cX8_messenger 34 = .ok (.ireturn, 1) := by decide +kernel
theorem dX8_messenger_35 : decode cX8_messenger 35 = .ok (.aload_n 0, 1) := by decide +kernel
theorem dX8_messenger_36 : decode cX8_messenger 36 = .ok (.getfield 10, 3) := by decide +kernel
theorem dX8_messenger_39 : decode cX8_messenger 39 = .ok (.getfield 162, 3) := by decide +kernel
theorem dX8_messenger_42 : decode cX8_messenger 42 = .ok (.iload_n 1, 1) := by decide +kernel
theorem dX8_messenger_43 : decode cX8_messenger 43 = .ok (.invokevirtual 171, 3) := by decide +kernel
theorem dX8_messenger_46 : decode cX8_messenger 46 = .ok (.istore_n 3, 1) := by decide +kernel
theorem dX8_messenger_47 : decode cX8_messenger 47 = .ok (.iload_n 2, 1) := by decide +kernel
theorem dX8_messenger_48 : decode cX8_messenger 48 = .ok (.ifCond .ne 7, 3) := by decide +kernel
theorem dX8_messenger_51 : decode cX8_messenger 51 = .ok (.iload_n 3, 1) := by decide +kernel
theorem dX8_messenger_52 : decode cX8_messenger 52 = .ok (.goto 14, 3) := by decide +kernel
theorem dX8_messenger_55 : decode cX8_messenger 55 = .ok (.aload_n 0, 1) := by decide +kernel
theorem dX8_messenger_56 : decode cX8_messenger 56 = .ok (.getfield 10, 3) := by decide +kernel
theorem dX8_messenger_59 : decode cX8_messenger 59 = .ok (.getfield 174, 3) := by decide +kernel
theorem dX8_messenger_62 : decode cX8_messenger 62 = .ok (.iload_n 3, 1) := by decide +kernel
theorem dX8_messenger_63 : decode cX8_messenger 63 = .ok (.invokevirtual 178, 3) := by decide +kernel
theorem dX8_messenger_66 : decode cX8_messenger 66 = .ok (.ireturn, 1) := by decide +kernel
theorem dX8_layer_0 : decode cX8_layer 0 = .ok (.aload_n 0, 1) := by decide +kernel
theorem dX8_layer_1 : decode cX8_layer 1 = .ok (.getfield 10, 3) := by decide +kernel
theorem dX8_layer_4 : decode cX8_layer 4 = .ok (.getfield 77, 3) := by decide +kernel
theorem dX8_layer_7 : decode cX8_layer 7 = .ok (.iload_n 1, 1) := by decide +kernel
theorem dX8_layer_8 : decode cX8_layer 8 = .ok (.invokevirtual 183, 3) := by decide +kernel
theorem dX8_layer_11 : decode cX8_layer 11 = .ok (.ifCond .ne 7, 3) := by decide +kernel
theorem dX8_layer_14 : decode cX8_layer 14 = .ok (.sipush (-1001), 3) := by decide +kernel
theorem dX8_layer_17 : decode cX8_layer 17 = .ok (.ireturn, 1) := by decide +kernel
theorem dX8_layer_18 : decode cX8_layer 18 = .ok (.iload_n 2, 1) := by decide +kernel
theorem dX8_layer_19 : decode cX8_layer 19 = .ok (.tableswitch 71 0 3 #[29, 41, 53, 62], 29) := by decide +kernel
theorem dX8_layer_48 : decode cX8_layer 48 = .ok (.aload_n 0, 1) := by decide +kernel
theorem dX8_layer_49 : decode cX8_layer 49 = .ok (.getfield 10, 3) := by decide +kernel
theorem dX8_layer_52 : decode cX8_layer 52 = .ok (.getfield 77, 3) := by decide +kernel
theorem dX8_layer_55 : decode cX8_layer 55 = .ok (.iload_n 1, 1) := by decide +kernel
theorem dX8_layer_56 : decode cX8_layer 56 = .ok (.invokevirtual 186, 3) := by decide +kernel
theorem dX8_layer_59 : decode cX8_layer 59 = .ok (.ireturn, 1) := by decide +kernel
theorem dX8_layer_60 : decode cX8_layer 60 = .ok (.aload_n 0, 1) := by decide +kernel
theorem dX8_layer_61 : decode cX8_layer 61 = .ok (.getfield 10, 3) := by decide +kernel
theorem dX8_layer_64 : decode cX8_layer 64 = .ok (.getfield 77, 3) := by decide +kernel
theorem dX8_layer_67 : decode cX8_layer 67 = .ok (.iload_n 1, 1) := by decide +kernel
theorem dX8_layer_68 : decode cX8_layer 68 = .ok (.invokevirtual 189, 3) := by decide +kernel
theorem dX8_layer_71 : decode cX8_layer 71 = .ok (.ireturn, 1) := by decide +kernel
theorem dX8_layer_72 : decode cX8_layer 72 = .ok (.aload_n 0, 1) := by decide +kernel
theorem dX8_layer_73 : decode cX8_layer 73 = .ok (.getfield 10, 3) := by decide +kernel
theorem dX8_layer_76 : decode cX8_layer 76 = .ok (.iload_n 1, 1) := by decide +kernel
theorem dX8_layer_77 : decode cX8_layer 77 = .ok (.invokevirtual 192, 3) := by decide +kernel
theorem dX8_layer_80 : decode cX8_layer 80 = .ok (.ireturn, 1) := by decide +kernel
theorem dX8_layer_81 : decode cX8_layer 81 = .ok (.aload_n 0, 1) := by decide +kernel
theorem dX8_layer_82 : decode cX8_layer 82 = .ok (.getfield 10, 3) := by decide +kernel
theorem dX8_layer_85 : decode cX8_layer 85 = .ok (.iload_n 1, 1) := by decide +kernel
theorem dX8_layer_86 : decode cX8_layer 86 = .ok (.invokevirtual 195, 3) := by decide +kernel
theorem dX8_layer_89 : decode cX8_layer 89 = .ok (.ireturn, 1) := by decide +kernel
theorem dX8_layer_90 : decode cX8_layer 90 = .ok (.sipush (-1002), 3) := by decide +kernel
theorem dX8_layer_93 : decode cX8_layer 93 = .ok (.ireturn, 1) := by decide +kernel
theorem dX8_depth_0 : decode cX8_depth 0 = .ok (.iload_n 1, 1) := by decide +kernel
theorem dX8_depth_1 : decode cX8_depth 1 = .ok (.ifCond .lt 20, 3) := by decide +kernel
theorem dX8_depth_4 : decode cX8_depth 4 = .ok (.iload_n 1, 1) := by decide +kernel
theorem dX8_depth_5 : decode cX8_depth 5 = .ok (.sipush 999, 3) := by decide +kernel
theorem dX8_depth_8 : decode cX8_depth 8 = .ok (.if_icmp .gt 13, 3) := by decide +kernel
theorem dX8_depth_11 : decode cX8_depth 11 = .ok (.iload_n 2, 1) := by decide +kernel
theorem dX8_depth_12 : decode cX8_depth 12 = .ok (.ifCond .lt 9, 3) := by decide +kernel
theorem dX8_depth_15 : decode cX8_depth 15 = .ok (.iload_n 2, 1) := by decide +kernel
theorem dX8_depth_16 : decode cX8_depth 16 = .ok (.bipush 6, 2) := by decide +kernel
theorem dX8_depth_18 : decode cX8_depth 18 = .ok (.if_icmp .le 7, 3) := by decide +kernel
theorem dX8_depth_21 : decode cX8_depth 21 = .ok (.sipush (-1002), 3) := by decide +kernel
theorem dX8_depth_24 : decode cX8_depth 24 = .ok (.ireturn, 1) := by decide +kernel
theorem dX8_depth_25 : decode cX8_depth 25 = .ok (.iload_n 1, 1) := by decide +kernel
theorem dX8_depth_26 : decode cX8_depth 26 = .ok (.iload_n 2, 1) := by decide +kernel
theorem dX8_depth_27 : decode cX8_depth 27 = .ok (.invokestatic 198, 3) := by decide +kernel
theorem dX8_depth_30 : decode cX8_depth 30 = .ok (.ireturn, 1) := by decide +kernel
theorem dX8_reason_0 : decode cX8_reason 0 = .ok (.aload_n 0, 1) := by decide +kernel
theorem dX8_reason_1 : decode cX8_reason 1 = .ok (.getfield 10, 3) := by decide +kernel
theorem dX8_reason_4 : decode cX8_reason 4 = .ok (.iload_n 1, 1) := by decide +kernel
theorem dX8_reason_5 : decode cX8_reason 5 = .ok (.invokevirtual 151, 3) := by decide +kernel
theorem dX8_reason_8 : decode cX8_reason 8 = .ok (.astore_n 2, 1) := by decide +kernel
theorem dX8_reason_9 : decode cX8_reason 9 = .ok (.aload_n 2, 1) := by decide +kernel
theorem dX8_reason_10 : decode cX8_reason 10 = .ok (.ifnonnull 7, 3) := by decide +kernel
theorem dX8_reason_13 : decode cX8_reason 13 = .ok (.sipush (-1001), 3) := by decide +kernel
theorem dX8_reason_16 : decode cX8_reason 16 = .ok (.ireturn, 1) := by decide +kernel
theorem dX8_reason_17 : decode cX8_reason 17 = .ok (.aload_n 2, 1) := by decide +kernel
theorem dX8_reason_18 : decode cX8_reason 18 = .ok (.getfield 201, 3) := by decide +kernel
theorem dX8_reason_21 : decode cX8_reason 21 = .ok (.ifCond .eq 5, 3) := by decide +kernel
theorem dX8_reason_24 : decode cX8_reason 24 = .ok (.iconst 1, 1) := by decide +kernel
theorem dX8_reason_25 : decode cX8_reason 25 = .ok (.ireturn, 1) := by decide +kernel
theorem dX8_reason_26 : decode cX8_reason 26 = .ok (.aload_n 0, 1) := by decide +kernel
theorem dX8_reason_27 : decode cX8_reason 27 = .ok (.getfield 10, 3) := by decide +kernel
theorem dX8_reason_30 : decode cX8_reason 30 = .ok (.getfield 174, 3) := by decide +kernel
theorem dX8_reason_33 : decode cX8_reason 33 = .ok (.aload_n 2, 1) := by decide +kernel
theorem dX8_reason_34 : decode cX8_reason 34 = .ok (.getfield 206, 3) := by decide +kernel
theorem dX8_reason_37 : decode cX8_reason 37 = .ok (.invokevirtual 209, 3) := by decide +kernel
theorem dX8_reason_40 : decode cX8_reason 40 = .ok (.ifCond .ne 5, 3) := by decide +kernel
theorem dX8_reason_43 : decode cX8_reason 43 = .ok (.iconst 2, 1) := by decide +kernel
theorem dX8_reason_44 : decode cX8_reason 44 = .ok (.ireturn, 1) := by decide +kernel
theorem dX8_reason_45 : decode cX8_reason 45 = .ok (.aload_n 0, 1) := by decide +kernel
theorem dX8_reason_46 : decode cX8_reason 46 = .ok (.getfield 10, 3) := by decide +kernel
theorem dX8_reason_49 : decode cX8_reason 49 = .ok (.getfield 174, 3) := by decide +kernel
theorem dX8_reason_52 : decode cX8_reason 52 = .ok (.invokevirtual 212, 3) := by decide +kernel
theorem dX8_reason_55 : decode cX8_reason 55 = .ok (.ifCond .eq 5, 3) := by decide +kernel
theorem dX8_reason_58 : decode cX8_reason 58 = .ok (.iconst 3, 1) := by decide +kernel
theorem dX8_reason_59 : decode cX8_reason 59 = .ok (.ireturn, 1) := by decide +kernel
theorem dX8_reason_60 : decode cX8_reason 60 = .ok (.aload_n 0, 1) := by decide +kernel
theorem dX8_reason_61 : decode cX8_reason 61 = .ok (.getfield 10, 3) := by decide +kernel
theorem dX8_reason_64 : decode cX8_reason 64 = .ok (.getfield 162, 3) := by decide +kernel
theorem dX8_reason_67 : decode cX8_reason 67 = .ok (.aload_n 2, 1) := by decide +kernel
theorem dX8_reason_68 : decode cX8_reason 68 = .ok (.getfield 206, 3) := by decide +kernel
theorem dX8_reason_71 : decode cX8_reason 71 = .ok (.invokevirtual 216, 3) := by decide +kernel
theorem dX8_reason_74 : decode cX8_reason 74 = .ok (.ifCond .ne 5, 3) := by decide +kernel
theorem dX8_reason_77 : decode cX8_reason 77 = .ok (.iconst 4, 1) := by decide +kernel
theorem dX8_reason_78 : decode cX8_reason 78 = .ok (.ireturn, 1) := by decide +kernel
theorem dX8_reason_79 : decode cX8_reason 79 = .ok (.aload_n 0, 1) := by decide +kernel
theorem dX8_reason_80 : decode cX8_reason 80 = .ok (.iload_n 1, 1) := by decide +kernel
theorem dX8_reason_81 : decode cX8_reason 81 = .ok (.invokevirtual 219, 3) := by decide +kernel
theorem dX8_reason_84 : decode cX8_reason 84 = .ok (.sipush (-1005), 3) := by decide +kernel
theorem dX8_reason_87 : decode cX8_reason 87 = .ok (.if_icmp .ne 7, 3) := by decide +kernel
theorem dX8_reason_90 : decode cX8_reason 90 = .ok (.iconst 5, 1) := by decide +kernel
theorem dX8_reason_91 : decode cX8_reason 91 = .ok (.goto 4, 3) := by decide +kernel
theorem dX8_reason_94 : decode cX8_reason 94 = .ok (.iconst 0, 1) := by decide +kernel
theorem dX8_reason_95 : decode cX8_reason 95 = .ok (.ireturn, 1) := by decide +kernel
theorem dX8_shutIn_0 : decode cX8_shutIn 0 = .ok (.aload_n 0, 1) := by decide +kernel
theorem dX8_shutIn_1 : decode cX8_shutIn 1 = .ok (.getfield 10, 3) := by decide +kernel
theorem dX8_shutIn_4 : decode cX8_shutIn 4 = .ok (.iload_n 1, 1) := by decide +kernel
theorem dX8_shutIn_5 : decode cX8_shutIn 5 = .ok (.invokevirtual 151, 3) := by decide +kernel
theorem dX8_shutIn_8 : decode cX8_shutIn 8 = .ok (.astore_n 2, 1) := by decide +kernel
theorem dX8_shutIn_9 : decode cX8_shutIn 9 = .ok (.aload_n 2, 1) := by decide +kernel
theorem dX8_shutIn_10 : decode cX8_shutIn 10 = .ok (.ifnonnull 7, 3) := by decide +kernel
theorem dX8_shutIn_13 : decode cX8_shutIn 13 = .ok (.sipush (-1001), 3) := by decide +kernel
theorem dX8_shutIn_16 : decode cX8_shutIn 16 = .ok (.ireturn, 1) := by decide +kernel
theorem dX8_shutIn_17 : decode cX8_shutIn 17 = .ok (.aload_n 2, 1) := by decide +kernel
theorem dX8_shutIn_18 : decode cX8_shutIn 18 = .ok (.getfield 201, 3) := by decide +kernel
theorem dX8_shutIn_21 : decode cX8_shutIn 21 = .ok (.ifCond .eq 9, 3) := by decide +kernel
theorem dX8_shutIn_24 : decode cX8_shutIn 24 = .ok (.sipush (-1005), 3) := by decide +kernel
theorem dX8_shutIn_27 : decode cX8_shutIn 27 = .ok (.goto 8, 3) := by decide +kernel
theorem dX8_shutIn_30 : decode cX8_shutIn 30 = .ok (.aload_n 0, 1) := by decide +kernel
theorem dX8_shutIn_31 : decode cX8_shutIn 31 = .ok (.iload_n 1, 1) := by decide +kernel
theorem dX8_shutIn_32 : decode cX8_shutIn 32 = .ok (.invokevirtual 219, 3) := by decide +kernel
theorem dX8_shutIn_35 : decode cX8_shutIn 35 = .ok (.ireturn, 1) := by decide +kernel
theorem dX8_quietIn_0 : decode cX8_quietIn 0 = .ok (.aload_n 0, 1) := by decide +kernel
theorem dX8_quietIn_1 : decode cX8_quietIn 1 = .ok (.getfield 10, 3) := by decide +kernel
theorem dX8_quietIn_4 : decode cX8_quietIn 4 = .ok (.getfield 162, 3) := by decide +kernel
theorem dX8_quietIn_7 : decode cX8_quietIn 7 = .ok (.getfield 166, 3) := by decide +kernel
theorem dX8_quietIn_10 : decode cX8_quietIn 10 = .ok (.ifCond .ne 5, 3) := by decide +kernel
theorem dX8_quietIn_13 : decode cX8_quietIn 13 = .ok (.iconst 0, 1) := by decide +kernel
theorem dX8_quietIn_14 : decode cX8_quietIn 14 = .ok (.ireturn, 1) := by decide +kernel
theorem dX8_quietIn_15 : decode cX8_quietIn 15 = .ok (.aload_n 0, 1) := by decide +kernel
theorem dX8_quietIn_16 : decode cX8_quietIn 16 = .ok (.getfield 10, 3) := by decide +kernel
theorem dX8_quietIn_19 : decode cX8_quietIn 19 = .ok (.getfield 174, 3) := by decide +kernel
theorem dX8_quietIn_22 : decode cX8_quietIn 22 = .ok (.invokevirtual 212, 3) := by decide +kernel
theorem dX8_quietIn_25 : decode cX8_quietIn 25 = .ok (.ifCond .eq 7, 3) := by decide +kernel
theorem dX8_quietIn_28 : decode cX8_quietIn 28 = .ok (.sipush (-1005), 3) := by decide +kernel
theorem dX8_quietIn_31 : decode cX8_quietIn 31 = .ok (.ireturn, 1) := by decide +kernel
theorem dX8_quietIn_32 : decode cX8_quietIn 32 = .ok (.aload_n 0, 1) := by decide +kernel
theorem dX8_quietIn_33 : decode cX8_quietIn 33 = .ok (.getfield 19, 3) := by decide +kernel
theorem dX8_quietIn_36 : decode cX8_quietIn 36 = .ok (.aload_n 0, 1) := by decide +kernel
theorem dX8_quietIn_37 : decode cX8_quietIn 37 = .ok (.getfield 10, 3) := by decide +kernel
theorem dX8_quietIn_40 : decode cX8_quietIn 40 = .ok (.invokevirtual 46, 3) := by decide +kernel
theorem dX8_quietIn_43 : decode cX8_quietIn 43 = .ok (.aload_n 0, 1) := by decide +kernel
theorem dX8_quietIn_44 : decode cX8_quietIn 44 = .ok (.getfield 19, 3) := by decide +kernel
theorem dX8_quietIn_47 : decode cX8_quietIn 47 = .ok (.invokevirtual 222, 3) := by decide +kernel
theorem dX8_quietIn_50 : decode cX8_quietIn 50 = .ok (.ireturn, 1) := by decide +kernel
theorem dX8_worst_0 : decode cX8_worst 0 = .ok (.sipush (-1005), 3) := by decide +kernel
theorem dX8_worst_3 : decode cX8_worst 3 = .ok (.istore_n 1, 1) := by decide +kernel
theorem dX8_worst_4 : decode cX8_worst 4 = .ok (.iconst (-1), 1) := by decide +kernel
theorem dX8_worst_5 : decode cX8_worst 5 = .ok (.istore_n 2, 1) := by decide +kernel
theorem dX8_worst_6 : decode cX8_worst 6 = .ok (.iconst 0, 1) := by decide +kernel
theorem dX8_worst_7 : decode cX8_worst 7 = .ok (.istore_n 3, 1) := by decide +kernel
theorem dX8_worst_8 : decode cX8_worst 8 = .ok (.iload_n 3, 1) := by decide +kernel
theorem dX8_worst_9 : decode cX8_worst 9 = .ok (.aload_n 0, 1) := by decide +kernel
theorem dX8_worst_10 : decode cX8_worst 10 = .ok (.getfield 10, 3) := by decide +kernel
theorem dX8_worst_13 : decode cX8_worst 13 = .ok (.getfield 148, 3) := by decide +kernel
theorem dX8_worst_16 : decode cX8_worst 16 = .ok (.if_icmp .ge 49, 3) := by decide +kernel
theorem dX8_worst_19 : decode cX8_worst 19 = .ok (.aload_n 0, 1) := by decide +kernel
theorem dX8_worst_20 : decode cX8_worst 20 = .ok (.getfield 10, 3) := by decide +kernel
theorem dX8_worst_23 : decode cX8_worst 23 = .ok (.iload_n 3, 1) := by decide +kernel
theorem dX8_worst_24 : decode cX8_worst 24 = .ok (.invokevirtual 151, 3) := by decide +kernel
theorem dX8_worst_27 : decode cX8_worst 27 = .ok (.astore 4, 2) := by decide +kernel
theorem dX8_worst_29 : decode cX8_worst 29 = .ok (.aload 4, 2) := by decide +kernel
theorem dX8_worst_31 : decode cX8_worst 31 = .ok (.ifnull 28, 3) := by decide +kernel
theorem dX8_worst_34 : decode cX8_worst 34 = .ok (.aload 4, 2) := by decide +kernel
theorem dX8_worst_36 : decode cX8_worst 36 = .ok (.getfield 201, 3) := by decide +kernel
theorem dX8_worst_39 : decode cX8_worst 39 = .ok (.ifCond .eq 20, 3) := by decide +kernel
theorem dX8_worst_42 : decode cX8_worst 42 = .ok (.aload 4, 2) := by decide +kernel
theorem dX8_worst_44 : decode cX8_worst 44 = .ok (.invokevirtual 225, 3) := by decide +kernel
theorem dX8_worst_47 : decode cX8_worst 47 = .ok (.iload_n 2, 1) := by decide +kernel
theorem dX8_worst_48 : decode cX8_worst 48 = .ok (.if_icmp .le 11, 3) := by decide +kernel
theorem dX8_worst_51 : decode cX8_worst 51 = .ok (.iload_n 3, 1) := by decide +kernel
theorem dX8_worst_52 : decode cX8_worst 52 = .ok (.istore_n 1, 1) := by decide +kernel
theorem dX8_worst_53 : decode cX8_worst 53 = .ok (.aload 4, 2) := by decide +kernel
theorem dX8_worst_55 : decode cX8_worst 55 = .ok (.invokevirtual 225, 3) := by decide +kernel
theorem dX8_worst_58 : decode cX8_worst 58 = .ok (.istore_n 2, 1) := by decide +kernel
theorem dX8_worst_59 : decode cX8_worst 59 = .ok (.iinc 3 1, 3) := by decide +kernel
theorem dX8_worst_62 : decode cX8_worst 62 = .ok (.goto (-54), 3) := by decide +kernel
theorem dX8_worst_65 : decode cX8_worst 65 = .ok (.iload_n 1, 1) := by decide +kernel
theorem dX8_worst_66 : decode cX8_worst 66 = .ok (.ireturn, 1) := by decide +kernel
theorem dX8_count_0 : decode cX8_count 0 = .ok (.iload_n 1, 1) := by decide +kernel
theorem dX8_count_1 : decode cX8_count 1 = .ok (.ifCond .lt 9, 3) := by decide +kernel
theorem dX8_count_4 : decode cX8_count 4 = .ok (.iload_n 1, 1) := by decide +kernel
theorem dX8_count_5 : decode cX8_count 5 = .ok (.bipush 18, 2) := by decide +kernel
theorem dX8_count_7 : decode cX8_count 7 = .ok (.if_icmp .le 7, 3) := by decide +kernel
theorem dX8_count_10 : decode cX8_count 10 = .ok (.sipush (-1002), 3) := by decide +kernel
theorem dX8_count_13 : decode cX8_count 13 = .ok (.ireturn, 1) := by decide +kernel
theorem dX8_count_14 : decode cX8_count 14 = .ok (.iload_n 1, 1) := by decide +kernel
theorem dX8_count_15 : decode cX8_count 15 = .ok (.bipush 8, 2) := by decide +kernel
theorem dX8_count_17 : decode cX8_count 17 = .ok (.if_icmp .gt 11, 3) := by decide +kernel
theorem dX8_count_20 : decode cX8_count 20 = .ok (.aload_n 0, 1) := by decide +kernel
theorem dX8_count_21 : decode cX8_count 21 = .ok (.iload_n 1, 1) := by decide +kernel
theorem dX8_count_22 : decode cX8_count 22 = .ok (.invokevirtual 228, 3) := by decide +kernel
theorem dX8_count_25 : decode cX8_count 25 = .ok (.goto 8, 3) := by decide +kernel
theorem dX8_count_28 : decode cX8_count 28 = .ok (.aload_n 0, 1) := by decide +kernel
theorem dX8_count_29 : decode cX8_count 29 = .ok (.iload_n 1, 1) := by decide +kernel
theorem dX8_count_30 : decode cX8_count 30 = .ok (.invokevirtual 231, 3) := by decide +kernel
theorem dX8_count_33 : decode cX8_count 33 = .ok (.ireturn, 1) := by decide +kernel
theorem dX8_depthAt_0 : decode cX8_depthAt 0 = .ok (.iload_n 1, 1) := by decide +kernel
theorem dX8_depthAt_1 : decode cX8_depthAt 1 = .ok (.ifCond .lt 11, 3) := by decide +kernel
theorem dX8_depthAt_4 : decode cX8_depthAt 4 = .ok (.iload_n 1, 1) := by decide +kernel
theorem dX8_depthAt_5 : decode cX8_depthAt 5 = .ok (.getstatic 234, 3) := by decide +kernel
theorem dX8_depthAt_8 : decode cX8_depthAt 8 = .ok (.arraylength, 1) := by decide +kernel
theorem dX8_depthAt_9 : decode cX8_depthAt 9 = .ok (.if_icmp .lt 5, 3) := by decide +kernel
theorem dX8_depthAt_12 : decode cX8_depthAt 12 = .ok (.iconst 0, 1) := by decide +kernel
theorem dX8_depthAt_13 : decode cX8_depthAt 13 = .ok (.ireturn, 1) := by decide +kernel
theorem dX8_depthAt_14 : decode cX8_depthAt 14 = .ok (.iload_n 0, 1) := by decide +kernel
theorem dX8_depthAt_15 : decode cX8_depthAt 15 = .ok (.getstatic 234, 3) := by decide +kernel
theorem dX8_depthAt_18 : decode cX8_depthAt 18 = .ok (.iload_n 1, 1) := by decide +kernel
theorem dX8_depthAt_19 : decode cX8_depthAt 19 = .ok (.iaload, 1) := by decide +kernel
theorem dX8_depthAt_20 : decode cX8_depthAt 20 = .ok (.imul, 1) := by decide +kernel
theorem dX8_depthAt_21 : decode cX8_depthAt 21 = .ok (.sipush 1000, 3) := by decide +kernel
theorem dX8_depthAt_24 : decode cX8_depthAt 24 = .ok (.idiv, 1) := by decide +kernel
theorem dX8_depthAt_25 : decode cX8_depthAt 25 = .ok (.ireturn, 1) := by decide +kernel
theorem dX8_layerAt_0 : decode cX8_layerAt 0 = .ok (.bipush 9, 2) := by decide +kernel
theorem dX8_layerAt_2 : decode cX8_layerAt 2 = .ok (.iload_n 0, 1) := by decide +kernel
theorem dX8_layerAt_3 : decode cX8_layerAt 3 = .ok (.bipush 100, 2) := by decide +kernel
theorem dX8_layerAt_5 : decode cX8_layerAt 5 = .ok (.idiv, 1) := by decide +kernel
theorem dX8_layerAt_6 : decode cX8_layerAt 6 = .ok (.invokestatic 238, 3) := by decide +kernel
theorem dX8_layerAt_9 : decode cX8_layerAt 9 = .ok (.ireturn, 1) := by decide +kernel
theorem dX8_isDone_0 : decode cX8_isDone 0 = .ok (.iload_n 0, 1) := by decide +kernel
theorem dX8_isDone_1 : decode cX8_isDone 1 = .ok (.sipush (-1001), 3) := by decide +kernel
theorem dX8_isDone_4 : decode cX8_isDone 4 = .ok (.if_icmp .le 7, 3) := by decide +kernel
theorem dX8_isDone_7 : decode cX8_isDone 7 = .ok (.iconst 1, 1) := by decide +kernel
theorem dX8_isDone_8 : decode cX8_isDone 8 = .ok (.goto 4, 3) := by decide +kernel
theorem dX8_isDone_11 : decode cX8_isDone 11 = .ok (.iconst 0, 1) := by decide +kernel
theorem dX8_isDone_12 : decode cX8_isDone 12 = .ok (.ireturn, 1) := by decide +kernel
theorem dX8_recorded_0 : decode cX8_recorded 0 = .ok (.iload_n 1, 1) := by decide +kernel
theorem dX8_recorded_1 : decode cX8_recorded 1 = .ok (.invokestatic 117, 3) := by decide +kernel
theorem dX8_recorded_4 : decode cX8_recorded 4 = .ok (.ifCond .eq 14, 3) := by decide +kernel
theorem dX8_recorded_7 : decode cX8_recorded 7 = .ok (.aload_n 0, 1) := by decide +kernel
theorem dX8_recorded_8 : decode cX8_recorded 8 = .ok (.getfield 28, 3) := by decide +kernel
theorem dX8_recorded_11 : decode cX8_recorded 11 = .ok (.aload_n 0, 1) := by decide +kernel
theorem dX8_recorded_12 : decode cX8_recorded 12 = .ok (.getfield 16, 3) := by decide +kernel
theorem dX8_recorded_15 : decode cX8_recorded 15 = .ok (.invokevirtual 125, 3) := by decide +kernel
theorem dX8_recorded_18 : decode cX8_recorded 18 = .ok (.iload_n 1, 1) := by decide +kernel
theorem dX8_recorded_19 : decode cX8_recorded 19 = .ok (.ireturn, 1) := by decide +kernel
theorem dX8_secondsToShut_0 : decode cX8_secondsToShut 0 = .ok (.aload_n 0, 1) := by decide +kernel
theorem dX8_secondsToShut_1 : decode cX8_secondsToShut 1 = .ok (.getfield 19, 3) := by decide +kernel
theorem dX8_secondsToShut_4 : decode cX8_secondsToShut 4 = .ok (.aload_n 0, 1) := by decide +kernel
theorem dX8_secondsToShut_5 : decode cX8_secondsToShut 5 = .ok (.getfield 10, 3) := by decide +kernel
theorem dX8_secondsToShut_8 : decode cX8_secondsToShut 8 = .ok (.invokevirtual 46, 3) := by decide +kernel
theorem dX8_secondsToShut_11 : decode cX8_secondsToShut 11 = .ok (.aload_n 0, 1) := by decide +kernel
theorem dX8_secondsToShut_12 : decode cX8_secondsToShut 12 = .ok (.getfield 19, 3) := by decide +kernel
theorem dX8_secondsToShut_15 : decode cX8_secondsToShut 15 = .ok (.iload_n 1, 1) := by decide +kernel
theorem dX8_secondsToShut_16 : decode cX8_secondsToShut 16 = .ok (.invokevirtual 243, 3) := by decide +kernel
theorem dX8_secondsToShut_19 : decode cX8_secondsToShut 19 = .ok (.ireturn, 1) := by decide +kernel
theorem dX8_tellOfAny_0 : decode cX8_tellOfAny 0 = .ok (.iload_n 2, 1) := by decide +kernel
theorem dX8_tellOfAny_1 : decode cX8_tellOfAny 1 = .ok (.tableswitch 105 0 5 #[39, 44, 59, 74, 87, 100], 39) := by decide +kernel
theorem dX8_tellOfAny_40 : decode cX8_tellOfAny 40 = .ok (.aload_n 1, 1) := by decide +kernel
theorem dX8_tellOfAny_41 : decode cX8_tellOfAny 41 = .ok (.getfield 206, 3) := by decide +kernel
theorem dX8_tellOfAny_44 : decode cX8_tellOfAny 44 = .ok (.ireturn, 1) := by decide +kernel
theorem dX8_tellOfAny_45 : decode cX8_tellOfAny 45 = .ok (.aload_n 0, 1) := by decide +kernel
theorem dX8_tellOfAny_46 : decode cX8_tellOfAny 46 = .ok (.getfield 10, 3) := by decide +kernel
theorem dX8_tellOfAny_49 : decode cX8_tellOfAny 49 = .ok (.getfield 174, 3) := by decide +kernel
theorem dX8_tellOfAny_52 : decode cX8_tellOfAny 52 = .ok (.aload_n 1, 1) := by decide +kernel
theorem dX8_tellOfAny_53 : decode cX8_tellOfAny 53 = .ok (.getfield 206, 3) := by decide +kernel
theorem dX8_tellOfAny_56 : decode cX8_tellOfAny 56 = .ok (.invokevirtual 246, 3) := by decide +kernel
theorem dX8_tellOfAny_59 : decode cX8_tellOfAny 59 = .ok (.ireturn, 1) := by decide +kernel
theorem dX8_tellOfAny_60 : decode cX8_tellOfAny 60 = .ok (.aload_n 0, 1) := by decide +kernel
theorem dX8_tellOfAny_61 : decode cX8_tellOfAny 61 = .ok (.getfield 10, 3) := by decide +kernel
theorem dX8_tellOfAny_64 : decode cX8_tellOfAny 64 = .ok (.getfield 174, 3) := by decide +kernel
theorem dX8_tellOfAny_67 : decode cX8_tellOfAny 67 = .ok (.aload_n 1, 1) := by decide +kernel
theorem dX8_tellOfAny_68 : decode cX8_tellOfAny 68 = .ok (.getfield 206, 3) := by decide +kernel
theorem dX8_tellOfAny_71 : decode cX8_tellOfAny 71 = .ok (.invokevirtual 178, 3) := by decide +kernel
theorem dX8_tellOfAny_74 : decode cX8_tellOfAny 74 = .ok (.ireturn, 1) := by decide +kernel
theorem dX8_tellOfAny_75 : decode cX8_tellOfAny 75 = .ok (.aload_n 1, 1) := by decide +kernel
theorem dX8_tellOfAny_76 : decode cX8_tellOfAny 76 = .ok (.getfield 201, 3) := by decide +kernel
theorem dX8_tellOfAny_79 : decode cX8_tellOfAny 79 = .ok (.ifCond .eq 7, 3) := by decide +kernel
theorem dX8_tellOfAny_82 : decode cX8_tellOfAny 82 = .ok (.iconst 1, 1) := by decide +kernel
theorem dX8_tellOfAny_83 : decode cX8_tellOfAny 83 = .ok (.goto 4, 3) := by decide +kernel
theorem dX8_tellOfAny_86 : decode cX8_tellOfAny 86 = .ok (.iconst 0, 1) := by decide +kernel
theorem dX8_tellOfAny_87 : decode cX8_tellOfAny 87 = .ok (.ireturn, 1) := by decide +kernel
theorem dX8_tellOfAny_88 : decode cX8_tellOfAny 88 = .ok (.aload_n 1, 1) := by decide +kernel
theorem dX8_tellOfAny_89 : decode cX8_tellOfAny 89 = .ok (.getfield 249, 3) := by decide +kernel
theorem dX8_tellOfAny_92 : decode cX8_tellOfAny 92 = .ok (.ifCond .eq 7, 3) := by decide +kernel
theorem dX8_tellOfAny_95 : decode cX8_tellOfAny 95 = .ok (.iconst 1, 1) := by decide +kernel
theorem dX8_tellOfAny_96 : decode cX8_tellOfAny 96 = .ok (.goto 4, 3) := by decide +kernel
theorem dX8_tellOfAny_99 : decode cX8_tellOfAny 99 = .ok (.iconst 0, 1) := by decide +kernel
theorem dX8_tellOfAny_100 : decode cX8_tellOfAny 100 = .ok (.ireturn, 1) := by decide +kernel
theorem dX8_tellOfAny_101 : decode cX8_tellOfAny 101 = .ok (.aload_n 1, 1) := by decide +kernel
theorem dX8_tellOfAny_102 : decode cX8_tellOfAny 102 = .ok (.getfield 252, 3) := by decide +kernel
theorem dX8_tellOfAny_105 : decode cX8_tellOfAny 105 = .ok (.ireturn, 1) := by decide +kernel
theorem dX8_tellOfAny_106 : decode cX8_tellOfAny 106 = .ok (.aload_n 1, 1) := by decide +kernel
theorem dX8_tellOfAny_107 : decode cX8_tellOfAny 107 = .ok (.getfield 255, 3) := by decide +kernel
theorem dX8_tellOfAny_110 : decode cX8_tellOfAny 110 = .ok (.ifCond .eq 7, 3) := by decide +kernel
theorem dX8_tellOfAny_113 : decode cX8_tellOfAny 113 = .ok (.iconst 1, 1) := by decide +kernel
theorem dX8_tellOfAny_114 : decode cX8_tellOfAny 114 = .ok (.goto 4, 3) := by decide +kernel
theorem dX8_tellOfAny_117 : decode cX8_tellOfAny 117 = .ok (.iconst 0, 1) := by decide +kernel
theorem dX8_tellOfAny_118 : decode cX8_tellOfAny 118 = .ok (.ireturn, 1) := by decide +kernel
theorem dX8_tellOfShut_0 : decode cX8_tellOfShut 0 = .ok (.aload_n 1, 1) := by decide +kernel
theorem dX8_tellOfShut_1 : decode cX8_tellOfShut 1 = .ok (.getfield 201, 3) := by decide +kernel
theorem dX8_tellOfShut_4 : decode cX8_tellOfShut 4 = .ok (.ifCond .ne 7, 3) := by decide +kernel
theorem dX8_tellOfShut_7 : decode cX8_tellOfShut 7 = .ok (.sipush (-1005), 3) := by decide +kernel
theorem dX8_tellOfShut_10 : decode cX8_tellOfShut 10 = .ok (.ireturn, 1) := by decide +kernel
theorem dX8_tellOfShut_11 : decode cX8_tellOfShut 11 = .ok (.iload_n 2, 1) := by decide +kernel
theorem dX8_tellOfShut_12 : decode cX8_tellOfShut 12 = .ok (.tableswitch 70 6 11 #[40, 45, 50, 55, 60, 65], 40) := by decide +kernel
theorem dX8_tellOfShut_52 : decode cX8_tellOfShut 52 = .ok (.aload_n 1, 1) := by decide +kernel
theorem dX8_tellOfShut_53 : decode cX8_tellOfShut 53 = .ok (.getfield 258, 3) := by decide +kernel
theorem dX8_tellOfShut_56 : decode cX8_tellOfShut 56 = .ok (.ireturn, 1) := by decide +kernel
theorem dX8_tellOfShut_57 : decode cX8_tellOfShut 57 = .ok (.aload_n 1, 1) := by decide +kernel
theorem dX8_tellOfShut_58 : decode cX8_tellOfShut 58 = .ok (.getfield 261, 3) := by decide +kernel
theorem dX8_tellOfShut_61 : decode cX8_tellOfShut 61 = .ok (.ireturn, 1) := by decide +kernel
theorem dX8_tellOfShut_62 : decode cX8_tellOfShut 62 = .ok (.aload_n 1, 1) := by decide +kernel
theorem dX8_tellOfShut_63 : decode cX8_tellOfShut 63 = .ok (.getfield 264, 3) := by decide +kernel
theorem dX8_tellOfShut_66 : decode cX8_tellOfShut 66 = .ok (.ireturn, 1) := by decide +kernel
theorem dX8_tellOfShut_67 : decode cX8_tellOfShut 67 = .ok (.aload_n 1, 1) := by decide +kernel
theorem dX8_tellOfShut_68 : decode cX8_tellOfShut 68 = .ok (.getfield 267, 3) := by decide +kernel
theorem dX8_tellOfShut_71 : decode cX8_tellOfShut 71 = .ok (.ireturn, 1) := by decide +kernel
theorem dX8_tellOfShut_72 : decode cX8_tellOfShut 72 = .ok (.aload_n 1, 1) := by decide +kernel
theorem dX8_tellOfShut_73 : decode cX8_tellOfShut 73 = .ok (.invokevirtual 270, 3) := by decide +kernel
theorem dX8_tellOfShut_76 : decode cX8_tellOfShut 76 = .ok (.ireturn, 1) := by decide +kernel
theorem dX8_tellOfShut_77 : decode cX8_tellOfShut 77 = .ok (.aload_n 1, 1) := by decide +kernel
theorem dX8_tellOfShut_78 : decode cX8_tellOfShut 78 = .ok (.getfield 273, 3) := by decide +kernel
theorem dX8_tellOfShut_81 : decode cX8_tellOfShut 81 = .ok (.ireturn, 1) := by decide +kernel
theorem dX8_tellOfShut_82 : decode cX8_tellOfShut 82 = .ok (.aload_n 0, 1) := by decide +kernel
theorem dX8_tellOfShut_83 : decode cX8_tellOfShut 83 = .ok (.getfield 10, 3) := by decide +kernel
theorem dX8_tellOfShut_86 : decode cX8_tellOfShut 86 = .ok (.aload_n 1, 1) := by decide +kernel
theorem dX8_tellOfShut_87 : decode cX8_tellOfShut 87 = .ok (.invokevirtual 276, 3) := by decide +kernel
theorem dX8_tellOfShut_90 : decode cX8_tellOfShut 90 = .ok (.ifCond .eq 7, 3) := by decide +kernel
theorem dX8_tellOfShut_93 : decode cX8_tellOfShut 93 = .ok (.iconst 1, 1) := by decide +kernel
theorem dX8_tellOfShut_94 : decode cX8_tellOfShut 94 = .ok (.goto 4, 3) := by decide +kernel
theorem dX8_tellOfShut_97 : decode cX8_tellOfShut 97 = .ok (.iconst 0, 1) := by decide +kernel
theorem dX8_tellOfShut_98 : decode cX8_tellOfShut 98 = .ok (.ireturn, 1) := by decide +kernel
theorem dX8_countOnCable_0 : decode cX8_countOnCable 0 = .ok (.iload_n 1, 1) := by decide +kernel
theorem dX8_countOnCable_1 : decode cX8_countOnCable 1 = .ok (.tableswitch 131 0 7 #[47, 55, 66, 77, 88, 107, 115, 123], 47) := by decide +kernel
theorem dX8_countOnCable_48 : decode cX8_countOnCable 48 = .ok (.aload_n 0, 1) := by decide +kernel
theorem dX8_countOnCable_49 : decode cX8_countOnCable 49 = .ok (.getfield 10, 3) := by decide +kernel
theorem dX8_countOnCable_52 : decode cX8_countOnCable 52 = .ok (.getfield 280, 3) := by decide +kernel
theorem dX8_countOnCable_55 : decode cX8_countOnCable 55 = .ok (.ireturn, 1) := by decide +kernel
theorem dX8_countOnCable_56 : decode cX8_countOnCable 56 = .ok (.aload_n 0, 1) := by decide +kernel
theorem dX8_countOnCable_57 : decode cX8_countOnCable 57 = .ok (.getfield 10, 3) := by decide +kernel
theorem dX8_countOnCable_60 : decode cX8_countOnCable 60 = .ok (.getfield 174, 3) := by decide +kernel
theorem dX8_countOnCable_63 : decode cX8_countOnCable 63 = .ok (.getfield 283, 3) := by decide +kernel
theorem dX8_countOnCable_66 : decode cX8_countOnCable 66 = .ok (.ireturn, 1) := by decide +kernel
theorem dX8_countOnCable_67 : decode cX8_countOnCable 67 = .ok (.aload_n 0, 1) := by decide +kernel
theorem dX8_countOnCable_68 : decode cX8_countOnCable 68 = .ok (.getfield 10, 3) := by decide +kernel
theorem dX8_countOnCable_71 : decode cX8_countOnCable 71 = .ok (.getfield 174, 3) := by decide +kernel
theorem dX8_countOnCable_74 : decode cX8_countOnCable 74 = .ok (.getfield 286, 3) := by decide +kernel
theorem dX8_countOnCable_77 : decode cX8_countOnCable 77 = .ok (.ireturn, 1) := by decide +kernel
theorem dX8_countOnCable_78 : decode cX8_countOnCable 78 = .ok (.aload_n 0, 1) := by decide +kernel
theorem dX8_countOnCable_79 : decode cX8_countOnCable 79 = .ok (.getfield 10, 3) := by decide +kernel
theorem dX8_countOnCable_82 : decode cX8_countOnCable 82 = .ok (.getfield 174, 3) := by decide +kernel
theorem dX8_countOnCable_85 : decode cX8_countOnCable 85 = .ok (.invokevirtual 289, 3) := by decide +kernel
theorem dX8_countOnCable_88 : decode cX8_countOnCable 88 = .ok (.ireturn, 1) := by decide +kernel
theorem dX8_countOnCable_89 : decode cX8_countOnCable 89 = .ok (.aload_n 0, 1) := by decide +kernel
theorem dX8_countOnCable_90 : decode cX8_countOnCable 90 = .ok (.getfield 10, 3) := by decide +kernel
theorem dX8_countOnCable_93 : decode cX8_countOnCable 93 = .ok (.getfield 174, 3) := by decide +kernel
theorem dX8_countOnCable_96 : decode cX8_countOnCable 96 = .ok (.getfield 292, 3) := by decide +kernel
theorem dX8_countOnCable_99 : decode cX8_countOnCable 99 = .ok (.ifCond .eq 7, 3) := by decide +kernel
theorem dX8_countOnCable_102 : decode cX8_countOnCable 102 = .ok (.iconst 1, 1) := by decide +kernel
theorem dX8_countOnCable_103 : decode cX8_countOnCable 103 = .ok (.goto 4, 3) := by decide +kernel
theorem dX8_countOnCable_106 : decode cX8_countOnCable 106 = .ok (.iconst 0, 1) := by decide +kernel
theorem dX8_countOnCable_107 : decode cX8_countOnCable 107 = .ok (.ireturn, 1) := by decide +kernel
theorem dX8_countOnCable_108 : decode cX8_countOnCable 108 = .ok (.aload_n 0, 1) := by decide +kernel
theorem dX8_countOnCable_109 : decode cX8_countOnCable 109 = .ok (.getfield 10, 3) := by decide +kernel
theorem dX8_countOnCable_112 : decode cX8_countOnCable 112 = .ok (.getfield 148, 3) := by decide +kernel
theorem dX8_countOnCable_115 : decode cX8_countOnCable 115 = .ok (.ireturn, 1) := by decide +kernel
theorem dX8_countOnCable_116 : decode cX8_countOnCable 116 = .ok (.aload_n 0, 1) := by decide +kernel
theorem dX8_countOnCable_117 : decode cX8_countOnCable 117 = .ok (.getfield 10, 3) := by decide +kernel
theorem dX8_countOnCable_120 : decode cX8_countOnCable 120 = .ok (.invokevirtual 295, 3) := by decide +kernel
theorem dX8_countOnCable_123 : decode cX8_countOnCable 123 = .ok (.ireturn, 1) := by decide +kernel
theorem dX8_countOnCable_124 : decode cX8_countOnCable 124 = .ok (.aload_n 0, 1) := by decide +kernel
theorem dX8_countOnCable_125 : decode cX8_countOnCable 125 = .ok (.getfield 10, 3) := by decide +kernel
theorem dX8_countOnCable_128 : decode cX8_countOnCable 128 = .ok (.invokevirtual 298, 3) := by decide +kernel
theorem dX8_countOnCable_131 : decode cX8_countOnCable 131 = .ok (.ireturn, 1) := by decide +kernel
theorem dX8_countOnCable_132 : decode cX8_countOnCable 132 = .ok (.aload_n 0, 1) := by decide +kernel
theorem dX8_countOnCable_133 : decode cX8_countOnCable 133 = .ok (.getfield 10, 3) := by decide +kernel
theorem dX8_countOnCable_136 : decode cX8_countOnCable 136 = .ok (.invokevirtual 301, 3) := by decide +kernel
theorem dX8_countOnCable_139 : decode cX8_countOnCable 139 = .ok (.ireturn, 1) := by decide +kernel
theorem dX8_countOthers_0 : decode cX8_countOthers 0 = .ok (.iload_n 1, 1) := by decide +kernel
theorem dX8_countOthers_1 : decode cX8_countOthers 1 = .ok (.tableswitch 141 9 17 #[51, 62, 73, 84, 95, 106, 117, 125, 133], 51) := by decide +kernel
theorem dX8_countOthers_52 : decode cX8_countOthers 52 = .ok (.aload_n 0, 1) := by decide +kernel
theorem dX8_countOthers_53 : decode cX8_countOthers 53 = .ok (.getfield 10, 3) := by decide +kernel
theorem dX8_countOthers_56 : decode cX8_countOthers 56 = .ok (.getfield 162, 3) := by decide +kernel
theorem dX8_countOthers_59 : decode cX8_countOthers 59 = .ok (.getfield 166, 3) := by decide +kernel
theorem dX8_countOthers_62 : decode cX8_countOthers 62 = .ok (.ireturn, 1) := by decide +kernel
theorem dX8_countOthers_63 : decode cX8_countOthers 63 = .ok (.aload_n 0, 1) := by decide +kernel
theorem dX8_countOthers_64 : decode cX8_countOthers 64 = .ok (.getfield 10, 3) := by decide +kernel
theorem dX8_countOthers_67 : decode cX8_countOthers 67 = .ok (.getfield 162, 3) := by decide +kernel
theorem dX8_countOthers_70 : decode cX8_countOthers 70 = .ok (.getfield 304, 3) := by decide +kernel
theorem dX8_countOthers_73 : decode cX8_countOthers 73 = .ok (.ireturn, 1) := by decide +kernel
theorem dX8_countOthers_74 : decode cX8_countOthers 74 = .ok (.aload_n 0, 1) := by decide +kernel
theorem dX8_countOthers_75 : decode cX8_countOthers 75 = .ok (.getfield 10, 3) := by decide +kernel
theorem dX8_countOthers_78 : decode cX8_countOthers 78 = .ok (.getfield 162, 3) := by decide +kernel
theorem dX8_countOthers_81 : decode cX8_countOthers 81 = .ok (.getfield 306, 3) := by decide +kernel
theorem dX8_countOthers_84 : decode cX8_countOthers 84 = .ok (.ireturn, 1) := by decide +kernel
theorem dX8_countOthers_85 : decode cX8_countOthers 85 = .ok (.aload_n 0, 1) := by decide +kernel
theorem dX8_countOthers_86 : decode cX8_countOthers 86 = .ok (.getfield 10, 3) := by decide +kernel
theorem dX8_countOthers_89 : decode cX8_countOthers 89 = .ok (.getfield 162, 3) := by decide +kernel
theorem dX8_countOthers_92 : decode cX8_countOthers 92 = .ok (.getfield 309, 3) := by decide +kernel
theorem dX8_countOthers_95 : decode cX8_countOthers 95 = .ok (.ireturn, 1) := by decide +kernel
theorem dX8_countOthers_96 : decode cX8_countOthers 96 = .ok (.aload_n 0, 1) := by decide +kernel
theorem dX8_countOthers_97 : decode cX8_countOthers 97 = .ok (.getfield 10, 3) := by decide +kernel
theorem dX8_countOthers_100 : decode cX8_countOthers 100 = .ok (.getfield 162, 3) := by decide +kernel
theorem dX8_countOthers_103 : decode cX8_countOthers 103 = .ok (.getfield 312, 3) := by decide +kernel
theorem dX8_countOthers_106 : decode cX8_countOthers 106 = .ok (.ireturn, 1) := by decide +kernel
theorem dX8_countOthers_107 : decode cX8_countOthers 107 = .ok (.aload_n 0, 1) := by decide +kernel
theorem dX8_countOthers_108 : decode cX8_countOthers 108 = .ok (.getfield 10, 3) := by decide +kernel
theorem dX8_countOthers_111 : decode cX8_countOthers 111 = .ok (.getfield 162, 3) := by decide +kernel
theorem dX8_countOthers_114 : decode cX8_countOthers 114 = .ok (.getfield 315, 3) := by decide +kernel
theorem dX8_countOthers_117 : decode cX8_countOthers 117 = .ok (.ireturn, 1) := by decide +kernel
theorem dX8_countOthers_118 : decode cX8_countOthers 118 = .ok (.aload_n 0, 1) := by decide +kernel
theorem dX8_countOthers_119 : decode cX8_countOthers 119 = .ok (.getfield 10, 3) := by decide +kernel
theorem dX8_countOthers_122 : decode cX8_countOthers 122 = .ok (.getfield 318, 3) := by decide +kernel
theorem dX8_countOthers_125 : decode cX8_countOthers 125 = .ok (.ireturn, 1) := by decide +kernel
theorem dX8_countOthers_126 : decode cX8_countOthers 126 = .ok (.aload_n 0, 1) := by decide +kernel
theorem dX8_countOthers_127 : decode cX8_countOthers 127 = .ok (.getfield 10, 3) := by decide +kernel
theorem dX8_countOthers_130 : decode cX8_countOthers 130 = .ok (.getfield 321, 3) := by decide +kernel
theorem dX8_countOthers_133 : decode cX8_countOthers 133 = .ok (.ireturn, 1) := by decide +kernel
theorem dX8_countOthers_134 : decode cX8_countOthers 134 = .ok (.aload_n 0, 1) := by decide +kernel
theorem dX8_countOthers_135 : decode cX8_countOthers 135 = .ok (.getfield 28, 3) := by decide +kernel
theorem dX8_countOthers_138 : decode cX8_countOthers 138 = .ok (.getfield 142, 3) := by decide +kernel
theorem dX8_countOthers_141 : decode cX8_countOthers 141 = .ok (.ireturn, 1) := by decide +kernel
theorem dX8_countOthers_142 : decode cX8_countOthers 142 = .ok (.aload_n 0, 1) := by decide +kernel
theorem dX8_countOthers_143 : decode cX8_countOthers 143 = .ok (.getfield 35, 3) := by decide +kernel
theorem dX8_countOthers_146 : decode cX8_countOthers 146 = .ok (.getfield 95, 3) := by decide +kernel
theorem dX8_countOthers_149 : decode cX8_countOthers 149 = .ok (.ireturn, 1) := by decide +kernel
theorem dL_cell_0 : decode cL_cell 0 = .ok (.iload_n 1, 1) := by decide +kernel
theorem dL_cell_1 : decode cL_cell 1 = .ok (.aload_n 0, 1) := by decide +kernel
theorem dL_cell_2 : decode cL_cell 2 = .ok (.arraylength, 1) := by decide +kernel
theorem dL_cell_3 : decode cL_cell 3 = .ok (.if_icmp .ge 9, 3) := by decide +kernel
theorem dL_cell_6 : decode cL_cell 6 = .ok (.aload_n 0, 1) := by decide +kernel
theorem dL_cell_7 : decode cL_cell 7 = .ok (.iload_n 1, 1) := by decide +kernel
theorem dL_cell_8 : decode cL_cell 8 = .ok (.iaload, 1) := by decide +kernel
theorem dL_cell_9 : decode cL_cell 9 = .ok (.goto 12, 3) := by decide +kernel
theorem dL_cell_12 : decode cL_cell 12 = .ok (.ldc 7, 2) := by decide +kernel
theorem dL_cell_14 : decode cL_cell 14 = .ok (.iload_n 1, 1) := by decide +kernel
theorem dL_cell_15 : decode cL_cell 15 = .ok (.iconst 1, 1) := by decide +kernel
theorem dL_cell_16 : decode cL_cell 16 = .ok (.iadd, 1) := by decide +kernel
theorem dL_cell_17 : decode cL_cell 17 = .ok (.imul, 1) := by decide +kernel
theorem dL_cell_18 : decode cL_cell 18 = .ok (.ldc 8, 2) := by decide +kernel
theorem dL_cell_20 : decode cL_cell 20 = .ok (.iadd, 1) := by decide +kernel
theorem dL_cell_21 : decode cL_cell 21 = .ok (.ireturn, 1) := by decide +kernel
theorem dL_low_0 : decode cL_low 0 = .ok (.iload_n 0, 1) := by decide +kernel
theorem dL_low_1 : decode cL_low 1 = .ok (.ldc 9, 2) := by decide +kernel
theorem dL_low_3 : decode cL_low 3 = .ok (.iand, 1) := by decide +kernel
theorem dL_low_4 : decode cL_low 4 = .ok (.iload_n 1, 1) := by decide +kernel
theorem dL_low_5 : decode cL_low 5 = .ok (.irem, 1) := by decide +kernel
theorem dL_low_6 : decode cL_low 6 = .ok (.ireturn, 1) := by decide +kernel
theorem dL_bottles_0 : decode cL_bottles 0 = .ok (.aload_n 0, 1) := by decide +kernel
theorem dL_bottles_1 : decode cL_bottles 1 = .ok (.iconst 5, 1) := by decide +kernel
theorem dL_bottles_2 : decode cL_bottles 2 = .ok (.invokevirtual 10, 3) := by decide +kernel
theorem dL_bottles_5 : decode cL_bottles 5 = .ok (.istore_n 1, 1) := by decide +kernel
theorem dL_bottles_6 : decode cL_bottles 6 = .ok (.iconst 0, 1) := by decide +kernel
theorem dL_bottles_7 : decode cL_bottles 7 = .ok (.istore_n 2, 1) := by decide +kernel
theorem dL_bottles_8 : decode cL_bottles 8 = .ok (.iconst 0, 1) := by decide +kernel
theorem dL_bottles_9 : decode cL_bottles 9 = .ok (.istore_n 3, 1) := by decide +kernel
theorem dL_bottles_10 : decode cL_bottles 10 = .ok (.iconst 0, 1) := by decide +kernel
theorem dL_bottles_11 : decode cL_bottles 11 = .ok (.istore 4, 2) := by decide +kernel
theorem dL_bottles_13 : decode cL_bottles 13 = .ok (.sipush (-1005), 3) := by decide +kernel
theorem dL_bottles_16 : decode cL_bottles 16 = .ok (.istore 5, 2) := by decide +kernel
theorem dL_bottles_18 : decode cL_bottles 18 = .ok (.iconst (-1), 1) := by decide +kernel
theorem dL_bottles_19 : decode cL_bottles 19 = .ok (.istore 6, 2) := by decide +kernel
theorem dL_bottles_21 : decode cL_bottles 21 = .ok (.iconst 0, 1) := by decide +kernel
theorem dL_bottles_22 : decode cL_bottles 22 = .ok (.istore 7, 2) := by decide +kernel
theorem dL_bottles_24 : decode cL_bottles 24 = .ok (.iload 7, 2) := by decide +kernel
theorem dL_bottles_26 : decode cL_bottles 26 = .ok (.iload_n 1, 1) := by decide +kernel
theorem dL_bottles_27 : decode cL_bottles 27 = .ok (.if_icmp .ge 459, 3) := by decide +kernel
theorem dL_bottles_30 : decode cL_bottles 30 = .ok (.aload_n 0, 1) := by decide +kernel
theorem dL_bottles_31 : decode cL_bottles 31 = .ok (.iload 7, 2) := by decide +kernel
theorem dL_bottles_33 : decode cL_bottles 33 = .ok (.iconst 0, 1) := by decide +kernel
theorem dL_bottles_34 : decode cL_bottles 34 = .ok (.invokevirtual 16, 3) := by decide +kernel
theorem dL_bottles_37 : decode cL_bottles 37 = .ok (.istore 8, 2) := by decide +kernel
theorem dL_bottles_39 : decode cL_bottles 39 = .ok (.iload 8, 2) := by decide +kernel
theorem dL_bottles_41 : decode cL_bottles 41 = .ok (.aload_n 0, 1) := by decide +kernel
theorem dL_bottles_42 : decode cL_bottles 42 = .ok (.iconst 1, 1) := by decide +kernel
theorem dL_bottles_43 : decode cL_bottles 43 = .ok (.invokevirtual 10, 3) := by decide +kernel
theorem dL_bottles_46 : decode cL_bottles 46 = .ok (.if_icmp .ge 7, 3) := by decide +kernel
theorem dL_bottles_49 : decode cL_bottles 49 = .ok (.iconst 1, 1) := by decide +kernel
theorem dL_bottles_50 : decode cL_bottles 50 = .ok (.goto 4, 3) := by decide +kernel
theorem dL_bottles_53 : decode cL_bottles 53 = .ok (.iconst 0, 1) := by decide +kernel
theorem dL_bottles_54 : decode cL_bottles 54 = .ok (.istore 9, 2) := by decide +kernel
theorem dL_bottles_56 : decode cL_bottles 56 = .ok (.aload_n 0, 1) := by decide +kernel
theorem dL_bottles_57 : decode cL_bottles 57 = .ok (.iload 7, 2) := by decide +kernel
theorem dL_bottles_59 : decode cL_bottles 59 = .ok (.iconst 3, 1) := by decide +kernel
theorem dL_bottles_60 : decode cL_bottles 60 = .ok (.invokevirtual 16, 3) := by decide +kernel
theorem dL_bottles_63 : decode cL_bottles 63 = .ok (.iconst 1, 1) := by decide +kernel
theorem dL_bottles_64 : decode cL_bottles 64 = .ok (.if_icmp .ne 7, 3) := by decide +kernel
theorem dL_bottles_67 : decode cL_bottles 67 = .ok (.iconst 1, 1) := by decide +kernel
theorem dL_bottles_68 : decode cL_bottles 68 = .ok (.goto 4, 3) := by decide +kernel
theorem dL_bottles_71 : decode cL_bottles 71 = .ok (.iconst 0, 1) := by decide +kernel
theorem dL_bottles_72 : decode cL_bottles 72 = .ok (.istore 10, 2) := by decide +kernel
theorem dL_bottles_74 : decode cL_bottles 74 = .ok (.iload_n 2, 1) := by decide +kernel
theorem dL_bottles_75 : decode cL_bottles 75 = .ok (.iload 9, 2) := by decide +kernel
theorem dL_bottles_77 : decode cL_bottles 77 = .ok (.ifCond .eq 7, 3) := by decide +kernel
theorem dL_bottles_80 : decode cL_bottles 80 = .ok (.iconst 1, 1) := by decide +kernel
theorem dL_bottles_81 : decode cL_bottles 81 = .ok (.goto 4, 3) := by decide +kernel
theorem dL_bottles_84 : decode cL_bottles 84 = .ok (.iconst 0, 1) := by decide +kernel
theorem dL_bottles_85 : decode cL_bottles 85 = .ok (.iadd, 1) := by decide +kernel
theorem dL_bottles_86 : decode cL_bottles 86 = .ok (.istore_n 2, 1) := by decide +kernel
theorem dL_bottles_87 : decode cL_bottles 87 = .ok (.iload_n 3, 1) := by decide +kernel
theorem dL_bottles_88 : decode cL_bottles 88 = .ok (.iload 10, 2) := by decide +kernel
theorem dL_bottles_90 : decode cL_bottles 90 = .ok (.ifCond .eq 7, 3) := by decide +kernel
theorem dL_bottles_93 : decode cL_bottles 93 = .ok (.iconst 1, 1) := by decide +kernel
theorem dL_bottles_94 : decode cL_bottles 94 = .ok (.goto 4, 3) := by decide +kernel
theorem dL_bottles_97 : decode cL_bottles 97 = .ok (.iconst 0, 1) := by decide +kernel
theorem dL_bottles_98 : decode cL_bottles 98 = .ok (.iadd, 1) := by decide +kernel
theorem dL_bottles_99 : decode cL_bottles 99 = .ok (.istore_n 3, 1) := by decide +kernel
theorem dL_bottles_100 : decode cL_bottles 100 = .ok (.iload 7, 2) := by decide +kernel
theorem dL_bottles_102 : decode cL_bottles 102 = .ok (.ifCond .le 19, 3) := by decide +kernel
theorem dL_bottles_105 : decode cL_bottles 105 = .ok (.iload 8, 2) := by decide +kernel
theorem dL_bottles_107 : decode cL_bottles 107 = .ok (.aload_n 0, 1) := by decide +kernel
theorem dL_bottles_108 : decode cL_bottles 108 = .ok (.iload 7, 2) := by decide +kernel
theorem dL_bottles_110 : decode cL_bottles 110 = .ok (.iconst 1, 1) := by decide +kernel
theorem dL_bottles_111 : decode cL_bottles 111 = .ok (.isub, 1) := by decide +kernel
theorem dL_bottles_112 : decode cL_bottles 112 = .ok (.iconst 0, 1) := by decide +kernel
theorem dL_bottles_113 : decode cL_bottles 113 = .ok (.invokevirtual 16, 3) := by decide +kernel
theorem dL_bottles_116 : decode cL_bottles 116 = .ok (.iconst 5, 1) := by decide +kernel
theorem dL_bottles_117 : decode cL_bottles 117 = .ok (.iadd, 1) := by decide +kernel
theorem dL_bottles_118 : decode cL_bottles 118 = .ok (.if_icmp .lt 87, 3) := by decide +kernel
theorem dL_bottles_121 : decode cL_bottles 121 = .ok (.aload_n 0, 1) := by decide +kernel
theorem dL_bottles_122 : decode cL_bottles 122 = .ok (.iload 7, 2) := by decide +kernel
theorem dL_bottles_124 : decode cL_bottles 124 = .ok (.iconst 1, 1) := by decide +kernel
theorem dL_bottles_125 : decode cL_bottles 125 = .ok (.invokevirtual 16, 3) := by decide +kernel
theorem dL_bottles_128 : decode cL_bottles 128 = .ok (.iload 9, 2) := by decide +kernel
theorem dL_bottles_130 : decode cL_bottles 130 = .ok (.ifCond .eq 14, 3) := by decide +kernel
theorem dL_bottles_133 : decode cL_bottles 133 = .ok (.aload_n 0, 1) := by decide +kernel
theorem dL_bottles_134 : decode cL_bottles 134 = .ok (.iconst 1, 1) := by decide +kernel
theorem dL_bottles_135 : decode cL_bottles 135 = .ok (.invokevirtual 10, 3) := by decide +kernel
theorem dL_bottles_138 : decode cL_bottles 138 = .ok (.iload 8, 2) := by decide +kernel
theorem dL_bottles_140 : decode cL_bottles 140 = .ok (.isub, 1) := by decide +kernel
theorem dL_bottles_141 : decode cL_bottles 141 = .ok (.goto 4, 3) := by decide +kernel
theorem dL_bottles_144 : decode cL_bottles 144 = .ok (.iconst 0, 1) := by decide +kernel
theorem dL_bottles_145 : decode cL_bottles 145 = .ok (.if_icmp .ne 60, 3) := by decide +kernel
theorem dL_bottles_148 : decode cL_bottles 148 = .ok (.aload_n 0, 1) := by decide +kernel
theorem dL_bottles_149 : decode cL_bottles 149 = .ok (.iload 7, 2) := by decide +kernel
theorem dL_bottles_151 : decode cL_bottles 151 = .ok (.iconst 2, 1) := by decide +kernel
theorem dL_bottles_152 : decode cL_bottles 152 = .ok (.invokevirtual 16, 3) := by decide +kernel
theorem dL_bottles_155 : decode cL_bottles 155 = .ok (.aload_n 0, 1) := by decide +kernel
theorem dL_bottles_156 : decode cL_bottles 156 = .ok (.aload_n 0, 1) := by decide +kernel
theorem dL_bottles_157 : decode cL_bottles 157 = .ok (.iload 7, 2) := by decide +kernel
theorem dL_bottles_159 : decode cL_bottles 159 = .ok (.iconst 1, 1) := by decide +kernel
theorem dL_bottles_160 : decode cL_bottles 160 = .ok (.invokevirtual 16, 3) := by decide +kernel
theorem dL_bottles_163 : decode cL_bottles 163 = .ok (.aload_n 0, 1) := by decide +kernel
theorem dL_bottles_164 : decode cL_bottles 164 = .ok (.iconst 3, 1) := by decide +kernel
theorem dL_bottles_165 : decode cL_bottles 165 = .ok (.invokevirtual 10, 3) := by decide +kernel
theorem dL_bottles_168 : decode cL_bottles 168 = .ok (.invokevirtual 20, 3) := by decide +kernel
theorem dL_bottles_171 : decode cL_bottles 171 = .ok (.if_icmp .ne 34, 3) := by decide +kernel
theorem dL_bottles_174 : decode cL_bottles 174 = .ok (.iload 10, 2) := by decide +kernel
theorem dL_bottles_176 : decode cL_bottles 176 = .ok (.ifCond .ne 14, 3) := by decide +kernel
theorem dL_bottles_179 : decode cL_bottles 179 = .ok (.aload_n 0, 1) := by decide +kernel
theorem dL_bottles_180 : decode cL_bottles 180 = .ok (.iload 7, 2) := by decide +kernel
theorem dL_bottles_182 : decode cL_bottles 182 = .ok (.bipush 13, 2) := by decide +kernel
theorem dL_bottles_184 : decode cL_bottles 184 = .ok (.invokevirtual 16, 3) := by decide +kernel
theorem dL_bottles_187 : decode cL_bottles 187 = .ok (.ifCond .ne 18, 3) := by decide +kernel
theorem dL_bottles_190 : decode cL_bottles 190 = .ok (.iload 10, 2) := by decide +kernel
theorem dL_bottles_192 : decode cL_bottles 192 = .ok (.ifCond .ne 15, 3) := by decide +kernel
theorem dL_bottles_195 : decode cL_bottles 195 = .ok (.aload_n 0, 1) := by decide +kernel
theorem dL_bottles_196 : decode cL_bottles 196 = .ok (.iload 7, 2) := by decide +kernel
theorem dL_bottles_198 : decode cL_bottles 198 = .ok (.iconst 5, 1) := by decide +kernel
theorem dL_bottles_199 : decode cL_bottles 199 = .ok (.invokevirtual 16, 3) := by decide +kernel
theorem dL_bottles_202 : decode cL_bottles 202 = .ok (.ifCond .eq 5, 3) := by decide +kernel
theorem dL_bottles_205 : decode cL_bottles 205 = .ok (.iconst 0, 1) := by decide +kernel
theorem dL_bottles_206 : decode cL_bottles 206 = .ok (.ireturn, 1) := by decide +kernel
theorem dL_bottles_207 : decode cL_bottles 207 = .ok (.bipush 6, 2) := by decide +kernel
theorem dL_bottles_209 : decode cL_bottles 209 = .ok (.istore 11, 2) := by decide +kernel
theorem dL_bottles_211 : decode cL_bottles 211 = .ok (.iload 11, 2) := by decide +kernel
theorem dL_bottles_213 : decode cL_bottles 213 = .ok (.bipush 13, 2) := by decide +kernel
theorem dL_bottles_215 : decode cL_bottles 215 = .ok (.if_icmp .ge 35, 3) := by decide +kernel
theorem dL_bottles_218 : decode cL_bottles 218 = .ok (.iload 10, 2) := by decide +kernel
theorem dL_bottles_220 : decode cL_bottles 220 = .ok (.aload_n 0, 1) := by decide +kernel
theorem dL_bottles_221 : decode cL_bottles 221 = .ok (.iload 7, 2) := by decide +kernel
theorem dL_bottles_223 : decode cL_bottles 223 = .ok (.iload 11, 2) := by decide +kernel
theorem dL_bottles_225 : decode cL_bottles 225 = .ok (.invokevirtual 16, 3) := by decide +kernel
theorem dL_bottles_228 : decode cL_bottles 228 = .ok (.sipush (-1005), 3) := by decide +kernel
theorem dL_bottles_231 : decode cL_bottles 231 = .ok (.if_icmp .ne 7, 3) := by decide +kernel
theorem dL_bottles_234 : decode cL_bottles 234 = .ok (.iconst 1, 1) := by decide +kernel
theorem dL_bottles_235 : decode cL_bottles 235 = .ok (.goto 4, 3) := by decide +kernel
theorem dL_bottles_238 : decode cL_bottles 238 = .ok (.iconst 0, 1) := by decide +kernel
theorem dL_bottles_239 : decode cL_bottles 239 = .ok (.if_icmp .ne 5, 3) := by decide +kernel
theorem dL_bottles_242 : decode cL_bottles 242 = .ok (.iconst 0, 1) := by decide +kernel
theorem dL_bottles_243 : decode cL_bottles 243 = .ok (.ireturn, 1) := by decide +kernel
theorem dL_bottles_244 : decode cL_bottles 244 = .ok (.iinc 11 1, 3) := by decide +kernel
theorem dL_bottles_247 : decode cL_bottles 247 = .ok (.goto (-36), 3) := by decide +kernel
theorem dL_bottles_250 : decode cL_bottles 250 = .ok (.iload 10, 2) := by decide +kernel
theorem dL_bottles_252 : decode cL_bottles 252 = .ok (.ifCond .eq 228, 3) := by decide +kernel
theorem dL_bottles_255 : decode cL_bottles 255 = .ok (.aload_n 0, 1) := by decide +kernel
theorem dL_bottles_256 : decode cL_bottles 256 = .ok (.iload 7, 2) := by decide +kernel
theorem dL_bottles_258 : decode cL_bottles 258 = .ok (.bipush 10, 2) := by decide +kernel
theorem dL_bottles_260 : decode cL_bottles 260 = .ok (.invokevirtual 16, 3) := by decide +kernel
theorem dL_bottles_263 : decode cL_bottles 263 = .ok (.istore 11, 2) := by decide +kernel
theorem dL_bottles_265 : decode cL_bottles 265 = .ok (.iload 11, 2) := by decide +kernel
theorem dL_bottles_267 : decode cL_bottles 267 = .ok (.aload_n 0, 1) := by decide +kernel
theorem dL_bottles_268 : decode cL_bottles 268 = .ok (.iload 7, 2) := by decide +kernel
theorem dL_bottles_270 : decode cL_bottles 270 = .ok (.bipush 11, 2) := by decide +kernel
theorem dL_bottles_272 : decode cL_bottles 272 = .ok (.invokevirtual 16, 3) := by decide +kernel
theorem dL_bottles_275 : decode cL_bottles 275 = .ok (.if_icmp .le 17, 3) := by decide +kernel
theorem dL_bottles_278 : decode cL_bottles 278 = .ok (.iload 11, 2) := by decide +kernel
theorem dL_bottles_280 : decode cL_bottles 280 = .ok (.aload_n 0, 1) := by decide +kernel
theorem dL_bottles_281 : decode cL_bottles 281 = .ok (.iload 7, 2) := by decide +kernel
theorem dL_bottles_283 : decode cL_bottles 283 = .ok (.bipush 11, 2) := by decide +kernel
theorem dL_bottles_285 : decode cL_bottles 285 = .ok (.invokevirtual 16, 3) := by decide +kernel
theorem dL_bottles_288 : decode cL_bottles 288 = .ok (.isub, 1) := by decide +kernel
theorem dL_bottles_289 : decode cL_bottles 289 = .ok (.goto 14, 3) := by decide +kernel
theorem dL_bottles_292 : decode cL_bottles 292 = .ok (.aload_n 0, 1) := by decide +kernel
theorem dL_bottles_293 : decode cL_bottles 293 = .ok (.iload 7, 2) := by decide +kernel
theorem dL_bottles_295 : decode cL_bottles 295 = .ok (.bipush 11, 2) := by decide +kernel
theorem dL_bottles_297 : decode cL_bottles 297 = .ok (.invokevirtual 16, 3) := by decide +kernel
theorem dL_bottles_300 : decode cL_bottles 300 = .ok (.iload 11, 2) := by decide +kernel
theorem dL_bottles_302 : decode cL_bottles 302 = .ok (.isub, 1) := by decide +kernel
theorem dL_bottles_303 : decode cL_bottles 303 = .ok (.istore 12, 2) := by decide +kernel
theorem dL_bottles_305 : decode cL_bottles 305 = .ok (.iload 4, 2) := by decide +kernel
theorem dL_bottles_307 : decode cL_bottles 307 = .ok (.aload_n 0, 1) := by decide +kernel
theorem dL_bottles_308 : decode cL_bottles 308 = .ok (.iload 7, 2) := by decide +kernel
theorem dL_bottles_310 : decode cL_bottles 310 = .ok (.bipush 12, 2) := by decide +kernel
theorem dL_bottles_312 : decode cL_bottles 312 = .ok (.invokevirtual 16, 3) := by decide +kernel
theorem dL_bottles_315 : decode cL_bottles 315 = .ok (.iadd, 1) := by decide +kernel
theorem dL_bottles_316 : decode cL_bottles 316 = .ok (.istore 4, 2) := by decide +kernel
theorem dL_bottles_318 : decode cL_bottles 318 = .ok (.iload 12, 2) := by decide +kernel
theorem dL_bottles_320 : decode cL_bottles 320 = .ok (.iload 6, 2) := by decide +kernel
theorem dL_bottles_322 : decode cL_bottles 322 = .ok (.if_icmp .le 8, 3) := by decide +kernel
theorem dL_bottles_325 : decode cL_bottles 325 = .ok (.iload 7, 2) := by decide +kernel
theorem dL_bottles_327 : decode cL_bottles 327 = .ok (.goto 5, 3) := by decide +kernel
theorem dL_bottles_330 : decode cL_bottles 330 = .ok (.iload 5, 2) := by decide +kernel
theorem dL_bottles_332 : decode cL_bottles 332 = .ok (.istore 5, 2) := by decide +kernel
theorem dL_bottles_334 : decode cL_bottles 334 = .ok (.iload 12, 2) := by decide +kernel
theorem dL_bottles_336 : decode cL_bottles 336 = .ok (.iload 6, 2) := by decide +kernel
theorem dL_bottles_338 : decode cL_bottles 338 = .ok (.if_icmp .le 8, 3) := by decide +kernel
theorem dL_bottles_341 : decode cL_bottles 341 = .ok (.iload 12, 2) := by decide +kernel
theorem dL_bottles_343 : decode cL_bottles 343 = .ok (.goto 5, 3) := by decide +kernel
theorem dL_bottles_346 : decode cL_bottles 346 = .ok (.iload 6, 2) := by decide +kernel
theorem dL_bottles_348 : decode cL_bottles 348 = .ok (.istore 6, 2) := by decide +kernel
theorem dL_bottles_350 : decode cL_bottles 350 = .ok (.aload_n 0, 1) := by decide +kernel
theorem dL_bottles_351 : decode cL_bottles 351 = .ok (.iload 7, 2) := by decide +kernel
theorem dL_bottles_353 : decode cL_bottles 353 = .ok (.iconst 5, 1) := by decide +kernel
theorem dL_bottles_354 : decode cL_bottles 354 = .ok (.invokevirtual 16, 3) := by decide +kernel
theorem dL_bottles_357 : decode cL_bottles 357 = .ok (.aload_n 0, 1) := by decide +kernel
theorem dL_bottles_358 : decode cL_bottles 358 = .ok (.iload 7, 2) := by decide +kernel
theorem dL_bottles_360 : decode cL_bottles 360 = .ok (.bipush 13, 2) := by decide +kernel
theorem dL_bottles_362 : decode cL_bottles 362 = .ok (.invokevirtual 16, 3) := by decide +kernel
theorem dL_bottles_365 : decode cL_bottles 365 = .ok (.iadd, 1) := by decide +kernel
theorem dL_bottles_366 : decode cL_bottles 366 = .ok (.iconst 1, 1) := by decide +kernel
theorem dL_bottles_367 : decode cL_bottles 367 = .ok (.if_icmp .lt 111, 3) := by decide +kernel
theorem dL_bottles_370 : decode cL_bottles 370 = .ok (.aload_n 0, 1) := by decide +kernel
theorem dL_bottles_371 : decode cL_bottles 371 = .ok (.iload 7, 2) := by decide +kernel
theorem dL_bottles_373 : decode cL_bottles 373 = .ok (.iconst 4, 1) := by decide +kernel
theorem dL_bottles_374 : decode cL_bottles 374 = .ok (.invokevirtual 16, 3) := by decide +kernel
theorem dL_bottles_377 : decode cL_bottles 377 = .ok (.iconst 1, 1) := by decide +kernel
theorem dL_bottles_378 : decode cL_bottles 378 = .ok (.if_icmp .ne 14, 3) := by decide +kernel
theorem dL_bottles_381 : decode cL_bottles 381 = .ok (.aload_n 0, 1) := by decide +kernel
theorem dL_bottles_382 : decode cL_bottles 382 = .ok (.iload 7, 2) := by decide +kernel
theorem dL_bottles_384 : decode cL_bottles 384 = .ok (.bipush 13, 2) := by decide +kernel
theorem dL_bottles_386 : decode cL_bottles 386 = .ok (.invokevirtual 16, 3) := by decide +kernel
theorem dL_bottles_389 : decode cL_bottles 389 = .ok (.ifCond .eq 89, 3) := by decide +kernel
theorem dL_bottles_392 : decode cL_bottles 392 = .ok (.aload_n 0, 1) := by decide +kernel
theorem dL_bottles_393 : decode cL_bottles 393 = .ok (.iload 7, 2) := by decide +kernel
theorem dL_bottles_395 : decode cL_bottles 395 = .ok (.bipush 6, 2) := by decide +kernel
theorem dL_bottles_397 : decode cL_bottles 397 = .ok (.invokevirtual 16, 3) := by decide +kernel
theorem dL_bottles_400 : decode cL_bottles 400 = .ok (.aload_n 0, 1) := by decide +kernel
theorem dL_bottles_401 : decode cL_bottles 401 = .ok (.iconst 0, 1) := by decide +kernel
theorem dL_bottles_402 : decode cL_bottles 402 = .ok (.invokevirtual 10, 3) := by decide +kernel
theorem dL_bottles_405 : decode cL_bottles 405 = .ok (.if_icmp .gt 73, 3) := by decide +kernel
theorem dL_bottles_408 : decode cL_bottles 408 = .ok (.iload 11, 2) := by decide +kernel
theorem dL_bottles_410 : decode cL_bottles 410 = .ok (.bipush 10, 2) := by decide +kernel
theorem dL_bottles_412 : decode cL_bottles 412 = .ok (.aload_n 0, 1) := by decide +kernel
theorem dL_bottles_413 : decode cL_bottles 413 = .ok (.iload 7, 2) := by decide +kernel
theorem dL_bottles_415 : decode cL_bottles 415 = .ok (.bipush 8, 2) := by decide +kernel
theorem dL_bottles_417 : decode cL_bottles 417 = .ok (.invokevirtual 16, 3) := by decide +kernel
theorem dL_bottles_420 : decode cL_bottles 420 = .ok (.aload_n 0, 1) := by decide +kernel
theorem dL_bottles_421 : decode cL_bottles 421 = .ok (.iload 7, 2) := by decide +kernel
theorem dL_bottles_423 : decode cL_bottles 423 = .ok (.bipush 7, 2) := by decide +kernel
theorem dL_bottles_425 : decode cL_bottles 425 = .ok (.invokevirtual 16, 3) := by decide +kernel
theorem dL_bottles_428 : decode cL_bottles 428 = .ok (.isub, 1) := by decide +kernel
theorem dL_bottles_429 : decode cL_bottles 429 = .ok (.imul, 1) := by decide +kernel
theorem dL_bottles_430 : decode cL_bottles 430 = .ok (.if_icmp .ne 48, 3) := by decide +kernel
theorem dL_bottles_433 : decode cL_bottles 433 = .ok (.iload 11, 2) := by decide +kernel
theorem dL_bottles_435 : decode cL_bottles 435 = .ok (.ifCond .lt 43, 3) := by decide +kernel
theorem dL_bottles_438 : decode cL_bottles 438 = .ok (.iload 11, 2) := by decide +kernel
theorem dL_bottles_440 : decode cL_bottles 440 = .ok (.aload_n 0, 1) := by decide +kernel
theorem dL_bottles_441 : decode cL_bottles 441 = .ok (.iload 7, 2) := by decide +kernel
theorem dL_bottles_443 : decode cL_bottles 443 = .ok (.bipush 11, 2) := by decide +kernel
theorem dL_bottles_445 : decode cL_bottles 445 = .ok (.invokevirtual 16, 3) := by decide +kernel
theorem dL_bottles_448 : decode cL_bottles 448 = .ok (.if_icmp .gt 30, 3) := by decide +kernel
theorem dL_bottles_451 : decode cL_bottles 451 = .ok (.aload_n 0, 1) := by decide +kernel
theorem dL_bottles_452 : decode cL_bottles 452 = .ok (.iload 7, 2) := by decide +kernel
theorem dL_bottles_454 : decode cL_bottles 454 = .ok (.bipush 12, 2) := by decide +kernel
theorem dL_bottles_456 : decode cL_bottles 456 = .ok (.invokevirtual 16, 3) := by decide +kernel
theorem dL_bottles_459 : decode cL_bottles 459 = .ok (.iload 12, 2) := by decide +kernel
theorem dL_bottles_461 : decode cL_bottles 461 = .ok (.aload_n 0, 1) := by decide +kernel
theorem dL_bottles_462 : decode cL_bottles 462 = .ok (.bipush 15, 2) := by decide +kernel
theorem dL_bottles_464 : decode cL_bottles 464 = .ok (.invokevirtual 10, 3) := by decide +kernel
theorem dL_bottles_467 : decode cL_bottles 467 = .ok (.if_icmp .le 7, 3) := by decide +kernel
theorem dL_bottles_470 : decode cL_bottles 470 = .ok (.iconst 1, 1) := by decide +kernel
theorem dL_bottles_471 : decode cL_bottles 471 = .ok (.goto 4, 3) := by decide +kernel
theorem dL_bottles_474 : decode cL_bottles 474 = .ok (.iconst 0, 1) := by decide +kernel
theorem dL_bottles_475 : decode cL_bottles 475 = .ok (.if_icmp .eq 5, 3) := by decide +kernel
theorem dL_bottles_478 : decode cL_bottles 478 = .ok (.iconst 0, 1) := by decide +kernel
theorem dL_bottles_479 : decode cL_bottles 479 = .ok (.ireturn, 1) := by decide +kernel
theorem dL_bottles_480 : decode cL_bottles 480 = .ok (.iinc 7 1, 3) := by decide +kernel
theorem dL_bottles_483 : decode cL_bottles 483 = .ok (.goto (-459), 3) := by decide +kernel
theorem dL_bottles_486 : decode cL_bottles 486 = .ok (.aload_n 0, 1) := by decide +kernel
theorem dL_bottles_487 : decode cL_bottles 487 = .ok (.bipush 6, 2) := by decide +kernel
theorem dL_bottles_489 : decode cL_bottles 489 = .ok (.invokevirtual 10, 3) := by decide +kernel
theorem dL_bottles_492 : decode cL_bottles 492 = .ok (.iload_n 2, 1) := by decide +kernel
theorem dL_bottles_493 : decode cL_bottles 493 = .ok (.if_icmp .ne 37, 3) := by decide +kernel
theorem dL_bottles_496 : decode cL_bottles 496 = .ok (.aload_n 0, 1) := by decide +kernel
theorem dL_bottles_497 : decode cL_bottles 497 = .ok (.bipush 7, 2) := by decide +kernel
theorem dL_bottles_499 : decode cL_bottles 499 = .ok (.invokevirtual 10, 3) := by decide +kernel
theorem dL_bottles_502 : decode cL_bottles 502 = .ok (.iload_n 3, 1) := by decide +kernel
theorem dL_bottles_503 : decode cL_bottles 503 = .ok (.if_icmp .ne 27, 3) := by decide +kernel
theorem dL_bottles_506 : decode cL_bottles 506 = .ok (.aload_n 0, 1) := by decide +kernel
theorem dL_bottles_507 : decode cL_bottles 507 = .ok (.bipush 8, 2) := by decide +kernel
theorem dL_bottles_509 : decode cL_bottles 509 = .ok (.invokevirtual 10, 3) := by decide +kernel
theorem dL_bottles_512 : decode cL_bottles 512 = .ok (.iload 4, 2) := by decide +kernel
theorem dL_bottles_514 : decode cL_bottles 514 = .ok (.if_icmp .ne 16, 3) := by decide +kernel
theorem dL_bottles_517 : decode cL_bottles 517 = .ok (.aload_n 0, 1) := by decide +kernel
theorem dL_bottles_518 : decode cL_bottles 518 = .ok (.invokevirtual 23, 3) := by decide +kernel
theorem dL_bottles_521 : decode cL_bottles 521 = .ok (.iload 5, 2) := by decide +kernel
theorem dL_bottles_523 : decode cL_bottles 523 = .ok (.if_icmp .ne 7, 3) := by decide +kernel
theorem dL_bottles_526 : decode cL_bottles 526 = .ok (.iconst 1, 1) := by decide +kernel
theorem dL_bottles_527 : decode cL_bottles 527 = .ok (.goto 4, 3) := by decide +kernel
theorem dL_bottles_530 : decode cL_bottles 530 = .ok (.iconst 0, 1) := by decide +kernel
theorem dL_bottles_531 : decode cL_bottles 531 = .ok (.ireturn, 1) := by decide +kernel
theorem dL_hangs_0 : decode cL_hangs 0 = .ok (.aload_n 0, 1) := by decide +kernel
theorem dL_hangs_1 : decode cL_hangs 1 = .ok (.bipush 9, 2) := by decide +kernel
theorem dL_hangs_3 : decode cL_hangs 3 = .ok (.invokevirtual 10, 3) := by decide +kernel
theorem dL_hangs_6 : decode cL_hangs 6 = .ok (.istore_n 1, 1) := by decide +kernel
theorem dL_hangs_7 : decode cL_hangs 7 = .ok (.iconst 0, 1) := by decide +kernel
theorem dL_hangs_8 : decode cL_hangs 8 = .ok (.istore_n 2, 1) := by decide +kernel
theorem dL_hangs_9 : decode cL_hangs 9 = .ok (.iload_n 2, 1) := by decide +kernel
theorem dL_hangs_10 : decode cL_hangs 10 = .ok (.iload_n 1, 1) := by decide +kernel
theorem dL_hangs_11 : decode cL_hangs 11 = .ok (.if_icmp .ge 72, 3) := by decide +kernel
theorem dL_hangs_14 : decode cL_hangs 14 = .ok (.aload_n 0, 1) := by decide +kernel
theorem dL_hangs_15 : decode cL_hangs 15 = .ok (.iload_n 2, 1) := by decide +kernel
theorem dL_hangs_16 : decode cL_hangs 16 = .ok (.iconst 0, 1) := by decide +kernel
theorem dL_hangs_17 : decode cL_hangs 17 = .ok (.invokevirtual 27, 3) := by decide +kernel
theorem dL_hangs_20 : decode cL_hangs 20 = .ok (.istore_n 3, 1) := by decide +kernel
theorem dL_hangs_21 : decode cL_hangs 21 = .ok (.iload_n 3, 1) := by decide +kernel
theorem dL_hangs_22 : decode cL_hangs 22 = .ok (.ifCond .lt 53, 3) := by decide +kernel
theorem dL_hangs_25 : decode cL_hangs 25 = .ok (.iload_n 3, 1) := by decide +kernel
theorem dL_hangs_26 : decode cL_hangs 26 = .ok (.aload_n 0, 1) := by decide +kernel
theorem dL_hangs_27 : decode cL_hangs 27 = .ok (.iconst 1, 1) := by decide +kernel
theorem dL_hangs_28 : decode cL_hangs 28 = .ok (.invokevirtual 10, 3) := by decide +kernel
theorem dL_hangs_31 : decode cL_hangs 31 = .ok (.if_icmp .gt 44, 3) := by decide +kernel
theorem dL_hangs_34 : decode cL_hangs 34 = .ok (.iload_n 2, 1) := by decide +kernel
theorem dL_hangs_35 : decode cL_hangs 35 = .ok (.ifCond .le 15, 3) := by decide +kernel
theorem dL_hangs_38 : decode cL_hangs 38 = .ok (.iload_n 3, 1) := by decide +kernel
theorem dL_hangs_39 : decode cL_hangs 39 = .ok (.aload_n 0, 1) := by decide +kernel
theorem dL_hangs_40 : decode cL_hangs 40 = .ok (.iload_n 2, 1) := by decide +kernel
theorem dL_hangs_41 : decode cL_hangs 41 = .ok (.iconst 1, 1) := by decide +kernel
theorem dL_hangs_42 : decode cL_hangs 42 = .ok (.isub, 1) := by decide +kernel
theorem dL_hangs_43 : decode cL_hangs 43 = .ok (.iconst 0, 1) := by decide +kernel
theorem dL_hangs_44 : decode cL_hangs 44 = .ok (.invokevirtual 27, 3) := by decide +kernel
theorem dL_hangs_47 : decode cL_hangs 47 = .ok (.if_icmp .lt 28, 3) := by decide +kernel
theorem dL_hangs_50 : decode cL_hangs 50 = .ok (.aload_n 0, 1) := by decide +kernel
theorem dL_hangs_51 : decode cL_hangs 51 = .ok (.iload_n 2, 1) := by decide +kernel
theorem dL_hangs_52 : decode cL_hangs 52 = .ok (.iconst 1, 1) := by decide +kernel
theorem dL_hangs_53 : decode cL_hangs 53 = .ok (.invokevirtual 27, 3) := by decide +kernel
theorem dL_hangs_56 : decode cL_hangs 56 = .ok (.aload_n 0, 1) := by decide +kernel
theorem dL_hangs_57 : decode cL_hangs 57 = .ok (.aload_n 0, 1) := by decide +kernel
theorem dL_hangs_58 : decode cL_hangs 58 = .ok (.iconst 1, 1) := by decide +kernel
theorem dL_hangs_59 : decode cL_hangs 59 = .ok (.invokevirtual 10, 3) := by decide +kernel
theorem dL_hangs_62 : decode cL_hangs 62 = .ok (.iload_n 3, 1) := by decide +kernel
theorem dL_hangs_63 : decode cL_hangs 63 = .ok (.isub, 1) := by decide +kernel
theorem dL_hangs_64 : decode cL_hangs 64 = .ok (.aload_n 0, 1) := by decide +kernel
theorem dL_hangs_65 : decode cL_hangs 65 = .ok (.iconst 3, 1) := by decide +kernel
theorem dL_hangs_66 : decode cL_hangs 66 = .ok (.invokevirtual 10, 3) := by decide +kernel
theorem dL_hangs_69 : decode cL_hangs 69 = .ok (.invokevirtual 20, 3) := by decide +kernel
theorem dL_hangs_72 : decode cL_hangs 72 = .ok (.if_icmp .eq 5, 3) := by decide +kernel
theorem dL_hangs_75 : decode cL_hangs 75 = .ok (.iconst 0, 1) := by decide +kernel
theorem dL_hangs_76 : decode cL_hangs 76 = .ok (.ireturn, 1) := by decide +kernel
theorem dL_hangs_77 : decode cL_hangs 77 = .ok (.iinc 2 1, 3) := by decide +kernel
theorem dL_hangs_80 : decode cL_hangs 80 = .ok (.goto (-71), 3) := by decide +kernel
theorem dL_hangs_83 : decode cL_hangs 83 = .ok (.iconst 0, 1) := by decide +kernel
theorem dL_hangs_84 : decode cL_hangs 84 = .ok (.istore_n 2, 1) := by decide +kernel
theorem dL_hangs_85 : decode cL_hangs 85 = .ok (.iconst 0, 1) := by decide +kernel
theorem dL_hangs_86 : decode cL_hangs 86 = .ok (.istore_n 3, 1) := by decide +kernel
theorem dL_hangs_87 : decode cL_hangs 87 = .ok (.iconst 0, 1) := by decide +kernel
theorem dL_hangs_88 : decode cL_hangs 88 = .ok (.istore 4, 2) := by decide +kernel
theorem dL_hangs_90 : decode cL_hangs 90 = .ok (.iload 4, 2) := by decide +kernel
theorem dL_hangs_92 : decode cL_hangs 92 = .ok (.bipush 10, 2) := by decide +kernel
theorem dL_hangs_94 : decode cL_hangs 94 = .ok (.if_icmp .ge 29, 3) := by decide +kernel
theorem dL_hangs_97 : decode cL_hangs 97 = .ok (.iload_n 2, 1) := by decide +kernel
theorem dL_hangs_98 : decode cL_hangs 98 = .ok (.aload_n 0, 1) := by decide +kernel
theorem dL_hangs_99 : decode cL_hangs 99 = .ok (.iload 4, 2) := by decide +kernel
theorem dL_hangs_101 : decode cL_hangs 101 = .ok (.iconst 2, 1) := by decide +kernel
theorem dL_hangs_102 : decode cL_hangs 102 = .ok (.invokevirtual 30, 3) := by decide +kernel
theorem dL_hangs_105 : decode cL_hangs 105 = .ok (.iadd, 1) := by decide +kernel
theorem dL_hangs_106 : decode cL_hangs 106 = .ok (.istore_n 2, 1) := by decide +kernel
theorem dL_hangs_107 : decode cL_hangs 107 = .ok (.iload_n 3, 1) := by decide +kernel
theorem dL_hangs_108 : decode cL_hangs 108 = .ok (.aload_n 0, 1) := by decide +kernel
theorem dL_hangs_109 : decode cL_hangs 109 = .ok (.iload 4, 2) := by decide +kernel
theorem dL_hangs_111 : decode cL_hangs 111 = .ok (.iconst 3, 1) := by decide +kernel
theorem dL_hangs_112 : decode cL_hangs 112 = .ok (.invokevirtual 30, 3) := by decide +kernel
theorem dL_hangs_115 : decode cL_hangs 115 = .ok (.iadd, 1) := by decide +kernel
theorem dL_hangs_116 : decode cL_hangs 116 = .ok (.istore_n 3, 1) := by decide +kernel
theorem dL_hangs_117 : decode cL_hangs 117 = .ok (.iinc 4 1, 3) := by decide +kernel
theorem dL_hangs_120 : decode cL_hangs 120 = .ok (.goto (-30), 3) := by decide +kernel
theorem dL_hangs_123 : decode cL_hangs 123 = .ok (.iconst 0, 1) := by decide +kernel
theorem dL_hangs_124 : decode cL_hangs 124 = .ok (.istore 4, 2) := by decide +kernel
theorem dL_hangs_126 : decode cL_hangs 126 = .ok (.iconst 0, 1) := by decide +kernel
theorem dL_hangs_127 : decode cL_hangs 127 = .ok (.istore 5, 2) := by decide +kernel
theorem dL_hangs_129 : decode cL_hangs 129 = .ok (.iload 5, 2) := by decide +kernel
theorem dL_hangs_131 : decode cL_hangs 131 = .ok (.aload_n 0, 1) := by decide +kernel
theorem dL_hangs_132 : decode cL_hangs 132 = .ok (.iconst 5, 1) := by decide +kernel
theorem dL_hangs_133 : decode cL_hangs 133 = .ok (.invokevirtual 10, 3) := by decide +kernel
theorem dL_hangs_136 : decode cL_hangs 136 = .ok (.if_icmp .ge 39, 3) := by decide +kernel
theorem dL_hangs_139 : decode cL_hangs 139 = .ok (.iload 4, 2) := by decide +kernel
theorem dL_hangs_141 : decode cL_hangs 141 = .ok (.aload_n 0, 1) := by decide +kernel
theorem dL_hangs_142 : decode cL_hangs 142 = .ok (.iload 5, 2) := by decide +kernel
theorem dL_hangs_144 : decode cL_hangs 144 = .ok (.iconst 3, 1) := by decide +kernel
theorem dL_hangs_145 : decode cL_hangs 145 = .ok (.invokevirtual 16, 3) := by decide +kernel
theorem dL_hangs_148 : decode cL_hangs 148 = .ok (.ifCond .ne 17, 3) := by decide +kernel
theorem dL_hangs_151 : decode cL_hangs 151 = .ok (.aload_n 0, 1) := by decide +kernel
theorem dL_hangs_152 : decode cL_hangs 152 = .ok (.iload 5, 2) := by decide +kernel
theorem dL_hangs_154 : decode cL_hangs 154 = .ok (.iconst 1, 1) := by decide +kernel
theorem dL_hangs_155 : decode cL_hangs 155 = .ok (.invokevirtual 16, 3) := by decide +kernel
theorem dL_hangs_158 : decode cL_hangs 158 = .ok (.ifCond .ne 7, 3) := by decide +kernel
theorem dL_hangs_161 : decode cL_hangs 161 = .ok (.iconst 1, 1) := by decide +kernel
theorem dL_hangs_162 : decode cL_hangs 162 = .ok (.goto 4, 3) := by decide +kernel
theorem dL_hangs_165 : decode cL_hangs 165 = .ok (.iconst 0, 1) := by decide +kernel
theorem dL_hangs_166 : decode cL_hangs 166 = .ok (.iadd, 1) := by decide +kernel
theorem dL_hangs_167 : decode cL_hangs 167 = .ok (.istore 4, 2) := by decide +kernel
theorem dL_hangs_169 : decode cL_hangs 169 = .ok (.iinc 5 1, 3) := by decide +kernel
theorem dL_hangs_172 : decode cL_hangs 172 = .ok (.goto (-43), 3) := by decide +kernel
theorem dL_hangs_175 : decode cL_hangs 175 = .ok (.aload_n 0, 1) := by decide +kernel
theorem dL_hangs_176 : decode cL_hangs 176 = .ok (.bipush 10, 2) := by decide +kernel
theorem dL_hangs_178 : decode cL_hangs 178 = .ok (.invokevirtual 10, 3) := by decide +kernel
theorem dL_hangs_181 : decode cL_hangs 181 = .ok (.aload_n 0, 1) := by decide +kernel
theorem dL_hangs_182 : decode cL_hangs 182 = .ok (.bipush 11, 2) := by decide +kernel
theorem dL_hangs_184 : decode cL_hangs 184 = .ok (.invokevirtual 10, 3) := by decide +kernel
theorem dL_hangs_187 : decode cL_hangs 187 = .ok (.iadd, 1) := by decide +kernel
theorem dL_hangs_188 : decode cL_hangs 188 = .ok (.iload_n 1, 1) := by decide +kernel
theorem dL_hangs_189 : decode cL_hangs 189 = .ok (.aload_n 0, 1) := by decide +kernel
theorem dL_hangs_190 : decode cL_hangs 190 = .ok (.bipush 12, 2) := by decide +kernel
theorem dL_hangs_192 : decode cL_hangs 192 = .ok (.invokevirtual 10, 3) := by decide +kernel
theorem dL_hangs_195 : decode cL_hangs 195 = .ok (.iadd, 1) := by decide +kernel
theorem dL_hangs_196 : decode cL_hangs 196 = .ok (.aload_n 0, 1) := by decide +kernel
theorem dL_hangs_197 : decode cL_hangs 197 = .ok (.bipush 13, 2) := by decide +kernel
theorem dL_hangs_199 : decode cL_hangs 199 = .ok (.invokevirtual 10, 3) := by decide +kernel
theorem dL_hangs_202 : decode cL_hangs 202 = .ok (.iadd, 1) := by decide +kernel
theorem dL_hangs_203 : decode cL_hangs 203 = .ok (.aload_n 0, 1) := by decide +kernel
theorem dL_hangs_204 : decode cL_hangs 204 = .ok (.bipush 14, 2) := by decide +kernel
theorem dL_hangs_206 : decode cL_hangs 206 = .ok (.invokevirtual 10, 3) := by decide +kernel
theorem dL_hangs_209 : decode cL_hangs 209 = .ok (.iadd, 1) := by decide +kernel
theorem dL_hangs_210 : decode cL_hangs 210 = .ok (.if_icmp .ne 19, 3) := by decide +kernel
theorem dL_hangs_213 : decode cL_hangs 213 = .ok (.aload_n 0, 1) := by decide +kernel
theorem dL_hangs_214 : decode cL_hangs 214 = .ok (.iload_n 1, 1) := by decide +kernel
theorem dL_hangs_215 : decode cL_hangs 215 = .ok (.iconst 0, 1) := by decide +kernel
theorem dL_hangs_216 : decode cL_hangs 216 = .ok (.invokevirtual 27, 3) := by decide +kernel
theorem dL_hangs_219 : decode cL_hangs 219 = .ok (.sipush (-1005), 3) := by decide +kernel
theorem dL_hangs_222 : decode cL_hangs 222 = .ok (.if_icmp .ne 7, 3) := by decide +kernel
theorem dL_hangs_225 : decode cL_hangs 225 = .ok (.iconst 1, 1) := by decide +kernel
theorem dL_hangs_226 : decode cL_hangs 226 = .ok (.goto 4, 3) := by decide +kernel
theorem dL_hangs_229 : decode cL_hangs 229 = .ok (.iconst 0, 1) := by decide +kernel
theorem dL_hangs_230 : decode cL_hangs 230 = .ok (.istore 5, 2) := by decide +kernel
theorem dL_hangs_232 : decode cL_hangs 232 = .ok (.iload 5, 2) := by decide +kernel
theorem dL_hangs_234 : decode cL_hangs 234 = .ok (.ifCond .eq 87, 3) := by decide +kernel
theorem dL_hangs_237 : decode cL_hangs 237 = .ok (.iload_n 3, 1) := by decide +kernel
theorem dL_hangs_238 : decode cL_hangs 238 = .ok (.aload_n 0, 1) := by decide +kernel
theorem dL_hangs_239 : decode cL_hangs 239 = .ok (.bipush 7, 2) := by decide +kernel
theorem dL_hangs_241 : decode cL_hangs 241 = .ok (.invokevirtual 10, 3) := by decide +kernel
theorem dL_hangs_244 : decode cL_hangs 244 = .ok (.if_icmp .ne 77, 3) := by decide +kernel
theorem dL_hangs_247 : decode cL_hangs 247 = .ok (.iload_n 2, 1) := by decide +kernel
theorem dL_hangs_248 : decode cL_hangs 248 = .ok (.iload 4, 2) := by decide +kernel
theorem dL_hangs_250 : decode cL_hangs 250 = .ok (.iadd, 1) := by decide +kernel
theorem dL_hangs_251 : decode cL_hangs 251 = .ok (.aload_n 0, 1) := by decide +kernel
theorem dL_hangs_252 : decode cL_hangs 252 = .ok (.iconst 5, 1) := by decide +kernel
theorem dL_hangs_253 : decode cL_hangs 253 = .ok (.invokevirtual 10, 3) := by decide +kernel
theorem dL_hangs_256 : decode cL_hangs 256 = .ok (.aload_n 0, 1) := by decide +kernel
theorem dL_hangs_257 : decode cL_hangs 257 = .ok (.bipush 7, 2) := by decide +kernel
theorem dL_hangs_259 : decode cL_hangs 259 = .ok (.invokevirtual 10, 3) := by decide +kernel
theorem dL_hangs_262 : decode cL_hangs 262 = .ok (.isub, 1) := by decide +kernel
theorem dL_hangs_263 : decode cL_hangs 263 = .ok (.if_icmp .ne 58, 3) := by decide +kernel
theorem dL_hangs_266 : decode cL_hangs 266 = .ok (.aload_n 0, 1) := by decide +kernel
theorem dL_hangs_267 : decode cL_hangs 267 = .ok (.iconst 3, 1) := by decide +kernel
theorem dL_hangs_268 : decode cL_hangs 268 = .ok (.invokevirtual 10, 3) := by decide +kernel
theorem dL_hangs_271 : decode cL_hangs 271 = .ok (.aload_n 0, 1) := by decide +kernel
theorem dL_hangs_272 : decode cL_hangs 272 = .ok (.iconst 2, 1) := by decide +kernel
theorem dL_hangs_273 : decode cL_hangs 273 = .ok (.invokevirtual 10, 3) := by decide +kernel
theorem dL_hangs_276 : decode cL_hangs 276 = .ok (.iconst 2, 1) := by decide +kernel
theorem dL_hangs_277 : decode cL_hangs 277 = .ok (.aload_n 0, 1) := by decide +kernel
theorem dL_hangs_278 : decode cL_hangs 278 = .ok (.iconst 4, 1) := by decide +kernel
theorem dL_hangs_279 : decode cL_hangs 279 = .ok (.invokevirtual 10, 3) := by decide +kernel
theorem dL_hangs_282 : decode cL_hangs 282 = .ok (.imul, 1) := by decide +kernel
theorem dL_hangs_283 : decode cL_hangs 283 = .ok (.iadd, 1) := by decide +kernel
theorem dL_hangs_284 : decode cL_hangs 284 = .ok (.bipush 6, 2) := by decide +kernel
theorem dL_hangs_286 : decode cL_hangs 286 = .ok (.if_icmp .le 8, 3) := by decide +kernel
theorem dL_hangs_289 : decode cL_hangs 289 = .ok (.bipush 6, 2) := by decide +kernel
theorem dL_hangs_291 : decode cL_hangs 291 = .ok (.goto 16, 3) := by decide +kernel
theorem dL_hangs_294 : decode cL_hangs 294 = .ok (.aload_n 0, 1) := by decide +kernel
theorem dL_hangs_295 : decode cL_hangs 295 = .ok (.iconst 2, 1) := by decide +kernel
theorem dL_hangs_296 : decode cL_hangs 296 = .ok (.invokevirtual 10, 3) := by decide +kernel
theorem dL_hangs_299 : decode cL_hangs 299 = .ok (.iconst 2, 1) := by decide +kernel
theorem dL_hangs_300 : decode cL_hangs 300 = .ok (.aload_n 0, 1) := by decide +kernel
theorem dL_hangs_301 : decode cL_hangs 301 = .ok (.iconst 4, 1) := by decide +kernel
theorem dL_hangs_302 : decode cL_hangs 302 = .ok (.invokevirtual 10, 3) := by decide +kernel
theorem dL_hangs_305 : decode cL_hangs 305 = .ok (.imul, 1) := by decide +kernel
theorem dL_hangs_306 : decode cL_hangs 306 = .ok (.iadd, 1) := by decide +kernel
theorem dL_hangs_307 : decode cL_hangs 307 = .ok (.if_icmp .ne 14, 3) := by decide +kernel
theorem dL_hangs_310 : decode cL_hangs 310 = .ok (.aload_n 0, 1) := by decide +kernel
theorem dL_hangs_311 : decode cL_hangs 311 = .ok (.invokestatic 33, 3) := by decide +kernel
theorem dL_hangs_314 : decode cL_hangs 314 = .ok (.ifCond .eq 7, 3) := by decide +kernel
theorem dL_hangs_317 : decode cL_hangs 317 = .ok (.iconst 1, 1) := by decide +kernel
theorem dL_hangs_318 : decode cL_hangs 318 = .ok (.goto 4, 3) := by decide +kernel
theorem dL_hangs_321 : decode cL_hangs 321 = .ok (.iconst 0, 1) := by decide +kernel
theorem dL_hangs_322 : decode cL_hangs 322 = .ok (.ireturn, 1) := by decide +kernel
theorem dL_print_0 : decode cL_print 0 = .ok (.ldc2_w 39, 3) := by decide +kernel
theorem dL_print_3 : decode cL_print 3 = .ok (.lstore_n 1, 1) := by decide +kernel
theorem dL_print_4 : decode cL_print 4 = .ok (.iconst 0, 1) := by decide +kernel
theorem dL_print_5 : decode cL_print 5 = .ok (.istore_n 3, 1) := by decide +kernel
theorem dL_print_6 : decode cL_print 6 = .ok (.iload_n 3, 1) := by decide +kernel
theorem dL_print_7 : decode cL_print 7 = .ok (.bipush 17, 2) := by decide +kernel
theorem dL_print_9 : decode cL_print 9 = .ok (.if_icmp .ge 22, 3) := by decide +kernel
theorem dL_print_12 : decode cL_print 12 = .ok (.ldc2_w 41, 3) := by decide +kernel
theorem dL_print_15 : decode cL_print 15 = .ok (.lload_n 1, 1) := by decide +kernel
theorem dL_print_16 : decode cL_print 16 = .ok (.lmul, 1) := by decide +kernel
theorem dL_print_17 : decode cL_print 17 = .ok (.aload_n 0, 1) := by decide +kernel
theorem dL_print_18 : decode cL_print 18 = .ok (.iload_n 3, 1) := by decide +kernel
theorem dL_print_19 : decode cL_print 19 = .ok (.invokevirtual 10, 3) := by decide +kernel
theorem dL_print_22 : decode cL_print 22 = .ok (.i2l, 1) := by decide +kernel
theorem dL_print_23 : decode cL_print 23 = .ok (.ladd, 1) := by decide +kernel
theorem dL_print_24 : decode cL_print 24 = .ok (.lstore_n 1, 1) := by decide +kernel
theorem dL_print_25 : decode cL_print 25 = .ok (.iinc 3 1, 3) := by decide +kernel
theorem dL_print_28 : decode cL_print 28 = .ok (.goto (-22), 3) := by decide +kernel
theorem dL_print_31 : decode cL_print 31 = .ok (.iconst 0, 1) := by decide +kernel
theorem dL_print_32 : decode cL_print 32 = .ok (.istore_n 3, 1) := by decide +kernel
theorem dL_print_33 : decode cL_print 33 = .ok (.iload_n 3, 1) := by decide +kernel
theorem dL_print_34 : decode cL_print 34 = .ok (.bipush 14, 2) := by decide +kernel
theorem dL_print_36 : decode cL_print 36 = .ok (.aload_n 0, 1) := by decide +kernel
theorem dL_print_37 : decode cL_print 37 = .ok (.iconst 5, 1) := by decide +kernel
theorem dL_print_38 : decode cL_print 38 = .ok (.invokevirtual 10, 3) := by decide +kernel
theorem dL_print_41 : decode cL_print 41 = .ok (.imul, 1) := by decide +kernel
theorem dL_print_42 : decode cL_print 42 = .ok (.if_icmp .ge 29, 3) := by decide +kernel
theorem dL_print_45 : decode cL_print 45 = .ok (.ldc2_w 41, 3) := by decide +kernel
theorem dL_print_48 : decode cL_print 48 = .ok (.lload_n 1, 1) := by decide +kernel
theorem dL_print_49 : decode cL_print 49 = .ok (.lmul, 1) := by decide +kernel
theorem dL_print_50 : decode cL_print 50 = .ok (.aload_n 0, 1) := by decide +kernel
theorem dL_print_51 : decode cL_print 51 = .ok (.iload_n 3, 1) := by decide +kernel
theorem dL_print_52 : decode cL_print 52 = .ok (.bipush 14, 2) := by decide +kernel
theorem dL_print_54 : decode cL_print 54 = .ok (.idiv, 1) := by decide +kernel
theorem dL_print_55 : decode cL_print 55 = .ok (.iload_n 3, 1) := by decide +kernel
theorem dL_print_56 : decode cL_print 56 = .ok (.bipush 14, 2) := by decide +kernel
theorem dL_print_58 : decode cL_print 58 = .ok (.irem, 1) := by decide +kernel
theorem dL_print_59 : decode cL_print 59 = .ok (.invokevirtual 16, 3) := by decide +kernel
theorem dL_print_62 : decode cL_print 62 = .ok (.i2l, 1) := by decide +kernel
theorem dL_print_63 : decode cL_print 63 = .ok (.ladd, 1) := by decide +kernel
theorem dL_print_64 : decode cL_print 64 = .ok (.lstore_n 1, 1) := by decide +kernel
theorem dL_print_65 : decode cL_print 65 = .ok (.iinc 3 1, 3) := by decide +kernel
theorem dL_print_68 : decode cL_print 68 = .ok (.goto (-35), 3) := by decide +kernel
theorem dL_print_71 : decode cL_print 71 = .ok (.iconst 0, 1) := by decide +kernel
theorem dL_print_72 : decode cL_print 72 = .ok (.istore_n 3, 1) := by decide +kernel
theorem dL_print_73 : decode cL_print 73 = .ok (.iload_n 3, 1) := by decide +kernel
theorem dL_print_74 : decode cL_print 74 = .ok (.aload_n 0, 1) := by decide +kernel
theorem dL_print_75 : decode cL_print 75 = .ok (.bipush 9, 2) := by decide +kernel
theorem dL_print_77 : decode cL_print 77 = .ok (.invokevirtual 10, 3) := by decide +kernel
theorem dL_print_80 : decode cL_print 80 = .ok (.if_icmp .ge 23, 3) := by decide +kernel
theorem dL_print_83 : decode cL_print 83 = .ok (.ldc2_w 41, 3) := by decide +kernel
theorem dL_print_86 : decode cL_print 86 = .ok (.lload_n 1, 1) := by decide +kernel
theorem dL_print_87 : decode cL_print 87 = .ok (.lmul, 1) := by decide +kernel
theorem dL_print_88 : decode cL_print 88 = .ok (.aload_n 0, 1) := by decide +kernel
theorem dL_print_89 : decode cL_print 89 = .ok (.iload_n 3, 1) := by decide +kernel
theorem dL_print_90 : decode cL_print 90 = .ok (.iconst 0, 1) := by decide +kernel
theorem dL_print_91 : decode cL_print 91 = .ok (.invokevirtual 27, 3) := by decide +kernel
theorem dL_print_94 : decode cL_print 94 = .ok (.i2l, 1) := by decide +kernel
theorem dL_print_95 : decode cL_print 95 = .ok (.ladd, 1) := by decide +kernel
theorem dL_print_96 : decode cL_print 96 = .ok (.lstore_n 1, 1) := by decide +kernel
theorem dL_print_97 : decode cL_print 97 = .ok (.iinc 3 1, 3) := by decide +kernel
theorem dL_print_100 : decode cL_print 100 = .ok (.goto (-27), 3) := by decide +kernel
theorem dL_print_103 : decode cL_print 103 = .ok (.iconst 0, 1) := by decide +kernel
theorem dL_print_104 : decode cL_print 104 = .ok (.istore_n 3, 1) := by decide +kernel
theorem dL_print_105 : decode cL_print 105 = .ok (.iload_n 3, 1) := by decide +kernel
theorem dL_print_106 : decode cL_print 106 = .ok (.bipush 20, 2) := by decide +kernel
theorem dL_print_108 : decode cL_print 108 = .ok (.if_icmp .ge 27, 3) := by decide +kernel
theorem dL_print_111 : decode cL_print 111 = .ok (.ldc2_w 41, 3) := by decide +kernel
theorem dL_print_114 : decode cL_print 114 = .ok (.lload_n 1, 1) := by decide +kernel
theorem dL_print_115 : decode cL_print 115 = .ok (.lmul, 1) := by decide +kernel
theorem dL_print_116 : decode cL_print 116 = .ok (.aload_n 0, 1) := by decide +kernel
theorem dL_print_117 : decode cL_print 117 = .ok (.iload_n 3, 1) := by decide +kernel
theorem dL_print_118 : decode cL_print 118 = .ok (.iconst 2, 1) := by decide +kernel
theorem dL_print_119 : decode cL_print 119 = .ok (.idiv, 1) := by decide +kernel
theorem dL_print_120 : decode cL_print 120 = .ok (.iload_n 3, 1) := by decide +kernel
theorem dL_print_121 : decode cL_print 121 = .ok (.iconst 2, 1) := by decide +kernel
theorem dL_print_122 : decode cL_print 122 = .ok (.irem, 1) := by decide +kernel
theorem dL_print_123 : decode cL_print 123 = .ok (.invokevirtual 30, 3) := by decide +kernel
theorem dL_print_126 : decode cL_print 126 = .ok (.i2l, 1) := by decide +kernel
theorem dL_print_127 : decode cL_print 127 = .ok (.ladd, 1) := by decide +kernel
theorem dL_print_128 : decode cL_print 128 = .ok (.lstore_n 1, 1) := by decide +kernel
theorem dL_print_129 : decode cL_print 129 = .ok (.iinc 3 1, 3) := by decide +kernel
theorem dL_print_132 : decode cL_print 132 = .ok (.goto (-27), 3) := by decide +kernel
theorem dL_print_135 : decode cL_print 135 = .ok (.lload_n 1, 1) := by decide +kernel
theorem dL_print_136 : decode cL_print 136 = .ok (.lreturn, 1) := by decide +kernel
theorem dL_shuts_0 : decode cL_shuts 0 = .ok (.aload_n 0, 1) := by decide +kernel
theorem dL_shuts_1 : decode cL_shuts 1 = .ok (.iconst 5, 1) := by decide +kernel
theorem dL_shuts_2 : decode cL_shuts 2 = .ok (.invokevirtual 10, 3) := by decide +kernel
theorem dL_shuts_5 : decode cL_shuts 5 = .ok (.istore_n 2, 1) := by decide +kernel
theorem dL_shuts_6 : decode cL_shuts 6 = .ok (.aload_n 0, 1) := by decide +kernel
theorem dL_shuts_7 : decode cL_shuts 7 = .ok (.invokevirtual 43, 3) := by decide +kernel
theorem dL_shuts_10 : decode cL_shuts 10 = .ok (.istore_n 3, 1) := by decide +kernel
theorem dL_shuts_11 : decode cL_shuts 11 = .ok (.iconst 0, 1) := by decide +kernel
theorem dL_shuts_12 : decode cL_shuts 12 = .ok (.istore 4, 2) := by decide +kernel
theorem dL_shuts_14 : decode cL_shuts 14 = .ok (.sipush (-1005), 3) := by decide +kernel
theorem dL_shuts_17 : decode cL_shuts 17 = .ok (.istore 5, 2) := by decide +kernel
theorem dL_shuts_19 : decode cL_shuts 19 = .ok (.iconst 0, 1) := by decide +kernel
theorem dL_shuts_20 : decode cL_shuts 20 = .ok (.istore 6, 2) := by decide +kernel
theorem dL_shuts_22 : decode cL_shuts 22 = .ok (.iconst 0, 1) := by decide +kernel
theorem dL_shuts_23 : decode cL_shuts 23 = .ok (.istore 7, 2) := by decide +kernel
theorem dL_shuts_25 : decode cL_shuts 25 = .ok (.iload 7, 2) := by decide +kernel
theorem dL_shuts_27 : decode cL_shuts 27 = .ok (.iload_n 2, 1) := by decide +kernel
theorem dL_shuts_28 : decode cL_shuts 28 = .ok (.if_icmp .ge 184, 3) := by decide +kernel
theorem dL_shuts_31 : decode cL_shuts 31 = .ok (.aload_n 0, 1) := by decide +kernel
theorem dL_shuts_32 : decode cL_shuts 32 = .ok (.iload 7, 2) := by decide +kernel
theorem dL_shuts_34 : decode cL_shuts 34 = .ok (.invokevirtual 46, 3) := by decide +kernel
theorem dL_shuts_37 : decode cL_shuts 37 = .ok (.istore 8, 2) := by decide +kernel
theorem dL_shuts_39 : decode cL_shuts 39 = .ok (.aload_n 0, 1) := by decide +kernel
theorem dL_shuts_40 : decode cL_shuts 40 = .ok (.iload 7, 2) := by decide +kernel
theorem dL_shuts_42 : decode cL_shuts 42 = .ok (.invokevirtual 49, 3) := by decide +kernel
theorem dL_shuts_45 : decode cL_shuts 45 = .ok (.istore 9, 2) := by decide +kernel
theorem dL_shuts_47 : decode cL_shuts 47 = .ok (.iload 9, 2) := by decide +kernel
theorem dL_shuts_49 : decode cL_shuts 49 = .ok (.ifCond .ne 7, 3) := by decide +kernel
theorem dL_shuts_52 : decode cL_shuts 52 = .ok (.iconst 1, 1) := by decide +kernel
theorem dL_shuts_53 : decode cL_shuts 53 = .ok (.goto 4, 3) := by decide +kernel
theorem dL_shuts_56 : decode cL_shuts 56 = .ok (.iconst 0, 1) := by decide +kernel
theorem dL_shuts_57 : decode cL_shuts 57 = .ok (.iload 8, 2) := by decide +kernel
theorem dL_shuts_59 : decode cL_shuts 59 = .ok (.sipush (-1005), 3) := by decide +kernel
theorem dL_shuts_62 : decode cL_shuts 62 = .ok (.if_icmp .eq 7, 3) := by decide +kernel
theorem dL_shuts_65 : decode cL_shuts 65 = .ok (.iconst 1, 1) := by decide +kernel
theorem dL_shuts_66 : decode cL_shuts 66 = .ok (.goto 4, 3) := by decide +kernel
theorem dL_shuts_69 : decode cL_shuts 69 = .ok (.iconst 0, 1) := by decide +kernel
theorem dL_shuts_70 : decode cL_shuts 70 = .ok (.if_icmp .ne 71, 3) := by decide +kernel
theorem dL_shuts_73 : decode cL_shuts 73 = .ok (.iload 9, 2) := by decide +kernel
theorem dL_shuts_75 : decode cL_shuts 75 = .ok (.ifCond .lt 66, 3) := by decide +kernel
theorem dL_shuts_78 : decode cL_shuts 78 = .ok (.iload 9, 2) := by decide +kernel
theorem dL_shuts_80 : decode cL_shuts 80 = .ok (.iconst 5, 1) := by decide +kernel
theorem dL_shuts_81 : decode cL_shuts 81 = .ok (.if_icmp .gt 60, 3) := by decide +kernel
theorem dL_shuts_84 : decode cL_shuts 84 = .ok (.iload 8, 2) := by decide +kernel
theorem dL_shuts_86 : decode cL_shuts 86 = .ok (.sipush (-1005), 3) := by decide +kernel
theorem dL_shuts_89 : decode cL_shuts 89 = .ok (.if_icmp .eq 22, 3) := by decide +kernel
theorem dL_shuts_92 : decode cL_shuts 92 = .ok (.iload 8, 2) := by decide +kernel
theorem dL_shuts_94 : decode cL_shuts 94 = .ok (.iconst 1, 1) := by decide +kernel
theorem dL_shuts_95 : decode cL_shuts 95 = .ok (.if_icmp .lt 46, 3) := by decide +kernel
theorem dL_shuts_98 : decode cL_shuts 98 = .ok (.iload_n 3, 1) := by decide +kernel
theorem dL_shuts_99 : decode cL_shuts 99 = .ok (.sipush (-1005), 3) := by decide +kernel
theorem dL_shuts_102 : decode cL_shuts 102 = .ok (.if_icmp .eq 39, 3) := by decide +kernel
theorem dL_shuts_105 : decode cL_shuts 105 = .ok (.iload 8, 2) := by decide +kernel
theorem dL_shuts_107 : decode cL_shuts 107 = .ok (.iload_n 3, 1) := by decide +kernel
theorem dL_shuts_108 : decode cL_shuts 108 = .ok (.if_icmp .gt 33, 3) := by decide +kernel
theorem dL_shuts_111 : decode cL_shuts 111 = .ok (.iload 9, 2) := by decide +kernel
theorem dL_shuts_113 : decode cL_shuts 113 = .ok (.iconst 1, 1) := by decide +kernel
theorem dL_shuts_114 : decode cL_shuts 114 = .ok (.if_icmp .ne 7, 3) := by decide +kernel
theorem dL_shuts_117 : decode cL_shuts 117 = .ok (.iconst 1, 1) := by decide +kernel
theorem dL_shuts_118 : decode cL_shuts 118 = .ok (.goto 4, 3) := by decide +kernel
theorem dL_shuts_121 : decode cL_shuts 121 = .ok (.iconst 0, 1) := by decide +kernel
theorem dL_shuts_122 : decode cL_shuts 122 = .ok (.aload_n 0, 1) := by decide +kernel
theorem dL_shuts_123 : decode cL_shuts 123 = .ok (.iload 7, 2) := by decide +kernel
theorem dL_shuts_125 : decode cL_shuts 125 = .ok (.iconst 3, 1) := by decide +kernel
theorem dL_shuts_126 : decode cL_shuts 126 = .ok (.invokevirtual 16, 3) := by decide +kernel
theorem dL_shuts_129 : decode cL_shuts 129 = .ok (.iconst 1, 1) := by decide +kernel
theorem dL_shuts_130 : decode cL_shuts 130 = .ok (.if_icmp .ne 7, 3) := by decide +kernel
theorem dL_shuts_133 : decode cL_shuts 133 = .ok (.iconst 1, 1) := by decide +kernel
theorem dL_shuts_134 : decode cL_shuts 134 = .ok (.goto 4, 3) := by decide +kernel
theorem dL_shuts_137 : decode cL_shuts 137 = .ok (.iconst 0, 1) := by decide +kernel
theorem dL_shuts_138 : decode cL_shuts 138 = .ok (.if_icmp .eq 5, 3) := by decide +kernel
theorem dL_shuts_141 : decode cL_shuts 141 = .ok (.iconst 0, 1) := by decide +kernel
theorem dL_shuts_142 : decode cL_shuts 142 = .ok (.ireturn, 1) := by decide +kernel
theorem dL_shuts_143 : decode cL_shuts 143 = .ok (.iload 4, 2) := by decide +kernel
theorem dL_shuts_145 : decode cL_shuts 145 = .ok (.iload 9, 2) := by decide +kernel
theorem dL_shuts_147 : decode cL_shuts 147 = .ok (.ifCond .ne 13, 3) := by decide +kernel
theorem dL_shuts_150 : decode cL_shuts 150 = .ok (.iload 8, 2) := by decide +kernel
theorem dL_shuts_152 : decode cL_shuts 152 = .ok (.iload_n 1, 1) := by decide +kernel
theorem dL_shuts_153 : decode cL_shuts 153 = .ok (.if_icmp .gt 7, 3) := by decide +kernel
theorem dL_shuts_156 : decode cL_shuts 156 = .ok (.iconst 1, 1) := by decide +kernel
theorem dL_shuts_157 : decode cL_shuts 157 = .ok (.goto 4, 3) := by decide +kernel
theorem dL_shuts_160 : decode cL_shuts 160 = .ok (.iconst 0, 1) := by decide +kernel
theorem dL_shuts_161 : decode cL_shuts 161 = .ok (.iadd, 1) := by decide +kernel
theorem dL_shuts_162 : decode cL_shuts 162 = .ok (.istore 4, 2) := by decide +kernel
theorem dL_shuts_164 : decode cL_shuts 164 = .ok (.iload 9, 2) := by decide +kernel
theorem dL_shuts_166 : decode cL_shuts 166 = .ok (.ifCond .ne 14, 3) := by decide +kernel
theorem dL_shuts_169 : decode cL_shuts 169 = .ok (.iload 8, 2) := by decide +kernel
theorem dL_shuts_171 : decode cL_shuts 171 = .ok (.iload_n 1, 1) := by decide +kernel
theorem dL_shuts_172 : decode cL_shuts 172 = .ok (.if_icmp .gt 8, 3) := by decide +kernel
theorem dL_shuts_175 : decode cL_shuts 175 = .ok (.iload 7, 2) := by decide +kernel
theorem dL_shuts_177 : decode cL_shuts 177 = .ok (.goto 5, 3) := by decide +kernel
theorem dL_shuts_180 : decode cL_shuts 180 = .ok (.iload 5, 2) := by decide +kernel
theorem dL_shuts_182 : decode cL_shuts 182 = .ok (.istore 5, 2) := by decide +kernel
theorem dL_shuts_184 : decode cL_shuts 184 = .ok (.iload 5, 2) := by decide +kernel
theorem dL_shuts_186 : decode cL_shuts 186 = .ok (.iload 7, 2) := by decide +kernel
theorem dL_shuts_188 : decode cL_shuts 188 = .ok (.if_icmp .ne 14, 3) := by decide +kernel
theorem dL_shuts_191 : decode cL_shuts 191 = .ok (.aload_n 0, 1) := by decide +kernel
theorem dL_shuts_192 : decode cL_shuts 192 = .ok (.iconst 0, 1) := by decide +kernel
theorem dL_shuts_193 : decode cL_shuts 193 = .ok (.invokevirtual 10, 3) := by decide +kernel
theorem dL_shuts_196 : decode cL_shuts 196 = .ok (.iload 8, 2) := by decide +kernel
theorem dL_shuts_198 : decode cL_shuts 198 = .ok (.iadd, 1) := by decide +kernel
theorem dL_shuts_199 : decode cL_shuts 199 = .ok (.goto 5, 3) := by decide +kernel
theorem dL_shuts_202 : decode cL_shuts 202 = .ok (.iload 6, 2) := by decide +kernel
theorem dL_shuts_204 : decode cL_shuts 204 = .ok (.istore 6, 2) := by decide +kernel
theorem dL_shuts_206 : decode cL_shuts 206 = .ok (.iinc 7 1, 3) := by decide +kernel
theorem dL_shuts_209 : decode cL_shuts 209 = .ok (.goto (-184), 3) := by decide +kernel
theorem dL_shuts_212 : decode cL_shuts 212 = .ok (.aload_n 0, 1) := by decide +kernel
theorem dL_shuts_213 : decode cL_shuts 213 = .ok (.invokestatic 52, 3) := by decide +kernel
theorem dL_shuts_216 : decode cL_shuts 216 = .ok (.lstore 7, 2) := by decide +kernel
theorem dL_shuts_218 : decode cL_shuts 218 = .ok (.aload_n 0, 1) := by decide +kernel
theorem dL_shuts_219 : decode cL_shuts 219 = .ok (.iload_n 1, 1) := by decide +kernel
theorem dL_shuts_220 : decode cL_shuts 220 = .ok (.invokevirtual 56, 3) := by decide +kernel
theorem dL_shuts_223 : decode cL_shuts 223 = .ok (.istore 9, 2) := by decide +kernel
theorem dL_shuts_225 : decode cL_shuts 225 = .ok (.iload 9, 2) := by decide +kernel
theorem dL_shuts_227 : decode cL_shuts 227 = .ok (.ifCond .ge 27, 3) := by decide +kernel
theorem dL_shuts_230 : decode cL_shuts 230 = .ok (.iload 9, 2) := by decide +kernel
theorem dL_shuts_232 : decode cL_shuts 232 = .ok (.sipush (-1003), 3) := by decide +kernel
theorem dL_shuts_235 : decode cL_shuts 235 = .ok (.if_icmp .ne 17, 3) := by decide +kernel
theorem dL_shuts_238 : decode cL_shuts 238 = .ok (.aload_n 0, 1) := by decide +kernel
theorem dL_shuts_239 : decode cL_shuts 239 = .ok (.invokestatic 52, 3) := by decide +kernel
theorem dL_shuts_242 : decode cL_shuts 242 = .ok (.lload 7, 2) := by decide +kernel
theorem dL_shuts_244 : decode cL_shuts 244 = .ok (.lcmp, 1) := by decide +kernel
theorem dL_shuts_245 : decode cL_shuts 245 = .ok (.ifCond .ne 7, 3) := by decide +kernel
theorem dL_shuts_248 : decode cL_shuts 248 = .ok (.iconst 1, 1) := by decide +kernel
theorem dL_shuts_249 : decode cL_shuts 249 = .ok (.goto 4, 3) := by decide +kernel
theorem dL_shuts_252 : decode cL_shuts 252 = .ok (.iconst 0, 1) := by decide +kernel
theorem dL_shuts_253 : decode cL_shuts 253 = .ok (.ireturn, 1) := by decide +kernel
theorem dL_shuts_254 : decode cL_shuts 254 = .ok (.iload 9, 2) := by decide +kernel
theorem dL_shuts_256 : decode cL_shuts 256 = .ok (.iload 4, 2) := by decide +kernel
theorem dL_shuts_258 : decode cL_shuts 258 = .ok (.if_icmp .ne 76, 3) := by decide +kernel
theorem dL_shuts_261 : decode cL_shuts 261 = .ok (.iload 5, 2) := by decide +kernel
theorem dL_shuts_263 : decode cL_shuts 263 = .ok (.sipush (-1005), 3) := by decide +kernel
theorem dL_shuts_266 : decode cL_shuts 266 = .ok (.if_icmp .eq 27, 3) := by decide +kernel
theorem dL_shuts_269 : decode cL_shuts 269 = .ok (.aload_n 0, 1) := by decide +kernel
theorem dL_shuts_270 : decode cL_shuts 270 = .ok (.iload 5, 2) := by decide +kernel
theorem dL_shuts_272 : decode cL_shuts 272 = .ok (.bipush 6, 2) := by decide +kernel
theorem dL_shuts_274 : decode cL_shuts 274 = .ok (.invokevirtual 16, 3) := by decide +kernel
theorem dL_shuts_277 : decode cL_shuts 277 = .ok (.iload 6, 2) := by decide +kernel
theorem dL_shuts_279 : decode cL_shuts 279 = .ok (.if_icmp .ne 55, 3) := by decide +kernel
theorem dL_shuts_282 : decode cL_shuts 282 = .ok (.aload_n 0, 1) := by decide +kernel
theorem dL_shuts_283 : decode cL_shuts 283 = .ok (.iload 5, 2) := by decide +kernel
theorem dL_shuts_285 : decode cL_shuts 285 = .ok (.bipush 13, 2) := by decide +kernel
theorem dL_shuts_287 : decode cL_shuts 287 = .ok (.invokevirtual 16, 3) := by decide +kernel
theorem dL_shuts_290 : decode cL_shuts 290 = .ok (.ifCond .ne 44, 3) := by decide +kernel
theorem dL_shuts_293 : decode cL_shuts 293 = .ok (.aload_n 0, 1) := by decide +kernel
theorem dL_shuts_294 : decode cL_shuts 294 = .ok (.invokevirtual 43, 3) := by decide +kernel
theorem dL_shuts_297 : decode cL_shuts 297 = .ok (.iload_n 3, 1) := by decide +kernel
theorem dL_shuts_298 : decode cL_shuts 298 = .ok (.sipush (-1005), 3) := by decide +kernel
theorem dL_shuts_301 : decode cL_shuts 301 = .ok (.if_icmp .ne 7, 3) := by decide +kernel
theorem dL_shuts_304 : decode cL_shuts 304 = .ok (.iload_n 3, 1) := by decide +kernel
theorem dL_shuts_305 : decode cL_shuts 305 = .ok (.goto 15, 3) := by decide +kernel
theorem dL_shuts_308 : decode cL_shuts 308 = .ok (.iload_n 3, 1) := by decide +kernel
theorem dL_shuts_309 : decode cL_shuts 309 = .ok (.iload_n 1, 1) := by decide +kernel
theorem dL_shuts_310 : decode cL_shuts 310 = .ok (.if_icmp .le 9, 3) := by decide +kernel
theorem dL_shuts_313 : decode cL_shuts 313 = .ok (.iload_n 3, 1) := by decide +kernel
theorem dL_shuts_314 : decode cL_shuts 314 = .ok (.iload_n 1, 1) := by decide +kernel
theorem dL_shuts_315 : decode cL_shuts 315 = .ok (.isub, 1) := by decide +kernel
theorem dL_shuts_316 : decode cL_shuts 316 = .ok (.goto 4, 3) := by decide +kernel
theorem dL_shuts_319 : decode cL_shuts 319 = .ok (.iconst 0, 1) := by decide +kernel
theorem dL_shuts_320 : decode cL_shuts 320 = .ok (.if_icmp .ne 14, 3) := by decide +kernel
theorem dL_shuts_323 : decode cL_shuts 323 = .ok (.aload_n 0, 1) := by decide +kernel
theorem dL_shuts_324 : decode cL_shuts 324 = .ok (.invokestatic 59, 3) := by decide +kernel
theorem dL_shuts_327 : decode cL_shuts 327 = .ok (.ifCond .eq 7, 3) := by decide +kernel
theorem dL_shuts_330 : decode cL_shuts 330 = .ok (.iconst 1, 1) := by decide +kernel
theorem dL_shuts_331 : decode cL_shuts 331 = .ok (.goto 4, 3) := by decide +kernel
theorem dL_shuts_334 : decode cL_shuts 334 = .ok (.iconst 0, 1) := by decide +kernel
theorem dL_shuts_335 : decode cL_shuts 335 = .ok (.istore 10, 2) := by decide +kernel
theorem dL_shuts_337 : decode cL_shuts 337 = .ok (.iload 10, 2) := by decide +kernel
theorem dL_shuts_339 : decode cL_shuts 339 = .ok (.ifCond .eq 24, 3) := by decide +kernel
theorem dL_shuts_342 : decode cL_shuts 342 = .ok (.aload_n 0, 1) := by decide +kernel
theorem dL_shuts_343 : decode cL_shuts 343 = .ok (.invokevirtual 62, 3) := by decide +kernel
theorem dL_shuts_346 : decode cL_shuts 346 = .ok (.ifCond .lt 17, 3) := by decide +kernel
theorem dL_shuts_349 : decode cL_shuts 349 = .ok (.aload_n 0, 1) := by decide +kernel
theorem dL_shuts_350 : decode cL_shuts 350 = .ok (.invokestatic 52, 3) := by decide +kernel
theorem dL_shuts_353 : decode cL_shuts 353 = .ok (.lload 7, 2) := by decide +kernel
theorem dL_shuts_355 : decode cL_shuts 355 = .ok (.lcmp, 1) := by decide +kernel
theorem dL_shuts_356 : decode cL_shuts 356 = .ok (.ifCond .ne 7, 3) := by decide +kernel
theorem dL_shuts_359 : decode cL_shuts 359 = .ok (.iconst 1, 1) := by decide +kernel
theorem dL_shuts_360 : decode cL_shuts 360 = .ok (.goto 4, 3) := by decide +kernel
theorem dL_shuts_363 : decode cL_shuts 363 = .ok (.iconst 0, 1) := by decide +kernel
theorem dL_shuts_364 : decode cL_shuts 364 = .ok (.ireturn, 1) := by decide +kernel
theorem dL_jerks_0 : decode cL_jerks 0 = .ok (.aload_n 0, 1) := by decide +kernel
theorem dL_jerks_1 : decode cL_jerks 1 = .ok (.invokestatic 52, 3) := by decide +kernel
theorem dL_jerks_4 : decode cL_jerks 4 = .ok (.lstore_n 2, 1) := by decide +kernel
theorem dL_jerks_5 : decode cL_jerks 5 = .ok (.sipush (-1005), 3) := by decide +kernel
theorem dL_jerks_8 : decode cL_jerks 8 = .ok (.istore 4, 2) := by decide +kernel
theorem dL_jerks_10 : decode cL_jerks 10 = .ok (.aload_n 0, 1) := by decide +kernel
theorem dL_jerks_11 : decode cL_jerks 11 = .ok (.iconst 1, 1) := by decide +kernel
theorem dL_jerks_12 : decode cL_jerks 12 = .ok (.invokevirtual 10, 3) := by decide +kernel
theorem dL_jerks_15 : decode cL_jerks 15 = .ok (.iload_n 1, 1) := by decide +kernel
theorem dL_jerks_16 : decode cL_jerks 16 = .ok (.iadd, 1) := by decide +kernel
theorem dL_jerks_17 : decode cL_jerks 17 = .ok (.istore 5, 2) := by decide +kernel
theorem dL_jerks_19 : decode cL_jerks 19 = .ok (.aload_n 0, 1) := by decide +kernel
theorem dL_jerks_20 : decode cL_jerks 20 = .ok (.iconst 5, 1) := by decide +kernel
theorem dL_jerks_21 : decode cL_jerks 21 = .ok (.invokevirtual 10, 3) := by decide +kernel
theorem dL_jerks_24 : decode cL_jerks 24 = .ok (.iconst 1, 1) := by decide +kernel
theorem dL_jerks_25 : decode cL_jerks 25 = .ok (.isub, 1) := by decide +kernel
theorem dL_jerks_26 : decode cL_jerks 26 = .ok (.istore 6, 2) := by decide +kernel
theorem dL_jerks_28 : decode cL_jerks 28 = .ok (.iload 6, 2) := by decide +kernel
theorem dL_jerks_30 : decode cL_jerks 30 = .ok (.ifCond .lt 40, 3) := by decide +kernel
theorem dL_jerks_33 : decode cL_jerks 33 = .ok (.aload_n 0, 1) := by decide +kernel
theorem dL_jerks_34 : decode cL_jerks 34 = .ok (.iload 6, 2) := by decide +kernel
theorem dL_jerks_36 : decode cL_jerks 36 = .ok (.iconst 0, 1) := by decide +kernel
theorem dL_jerks_37 : decode cL_jerks 37 = .ok (.invokevirtual 16, 3) := by decide +kernel
theorem dL_jerks_40 : decode cL_jerks 40 = .ok (.iload 5, 2) := by decide +kernel
theorem dL_jerks_42 : decode cL_jerks 42 = .ok (.if_icmp .ge 18, 3) := by decide +kernel
theorem dL_jerks_45 : decode cL_jerks 45 = .ok (.aload_n 0, 1) := by decide +kernel
theorem dL_jerks_46 : decode cL_jerks 46 = .ok (.iload 6, 2) := by decide +kernel
theorem dL_jerks_48 : decode cL_jerks 48 = .ok (.iconst 3, 1) := by decide +kernel
theorem dL_jerks_49 : decode cL_jerks 49 = .ok (.invokevirtual 16, 3) := by decide +kernel
theorem dL_jerks_52 : decode cL_jerks 52 = .ok (.ifCond .ne 8, 3) := by decide +kernel
theorem dL_jerks_55 : decode cL_jerks 55 = .ok (.iload 6, 2) := by decide +kernel
theorem dL_jerks_57 : decode cL_jerks 57 = .ok (.goto 5, 3) := by decide +kernel
theorem dL_jerks_60 : decode cL_jerks 60 = .ok (.iload 4, 2) := by decide +kernel
theorem dL_jerks_62 : decode cL_jerks 62 = .ok (.istore 4, 2) := by decide +kernel
theorem dL_jerks_64 : decode cL_jerks 64 = .ok (.iinc 6 (-1), 3) := by decide +kernel
theorem dL_jerks_67 : decode cL_jerks 67 = .ok (.goto (-39), 3) := by decide +kernel
theorem dL_jerks_70 : decode cL_jerks 70 = .ok (.iload 4, 2) := by decide +kernel
theorem dL_jerks_72 : decode cL_jerks 72 = .ok (.sipush (-1005), 3) := by decide +kernel
theorem dL_jerks_75 : decode cL_jerks 75 = .ok (.if_icmp .eq 28, 3) := by decide +kernel
theorem dL_jerks_78 : decode cL_jerks 78 = .ok (.iload_n 1, 1) := by decide +kernel
theorem dL_jerks_79 : decode cL_jerks 79 = .ok (.aload_n 0, 1) := by decide +kernel
theorem dL_jerks_80 : decode cL_jerks 80 = .ok (.bipush 16, 2) := by decide +kernel
theorem dL_jerks_82 : decode cL_jerks 82 = .ok (.invokevirtual 10, 3) := by decide +kernel
theorem dL_jerks_85 : decode cL_jerks 85 = .ok (.if_icmp .gt 14, 3) := by decide +kernel
theorem dL_jerks_88 : decode cL_jerks 88 = .ok (.iload_n 1, 1) := by decide +kernel
theorem dL_jerks_89 : decode cL_jerks 89 = .ok (.ineg, 1) := by decide +kernel
theorem dL_jerks_90 : decode cL_jerks 90 = .ok (.aload_n 0, 1) := by decide +kernel
theorem dL_jerks_91 : decode cL_jerks 91 = .ok (.bipush 16, 2) := by decide +kernel
theorem dL_jerks_93 : decode cL_jerks 93 = .ok (.invokevirtual 10, 3) := by decide +kernel
theorem dL_jerks_96 : decode cL_jerks 96 = .ok (.if_icmp .le 7, 3) := by decide +kernel
theorem dL_jerks_99 : decode cL_jerks 99 = .ok (.iconst 1, 1) := by decide +kernel
theorem dL_jerks_100 : decode cL_jerks 100 = .ok (.goto 4, 3) := by decide +kernel
theorem dL_jerks_103 : decode cL_jerks 103 = .ok (.iconst 0, 1) := by decide +kernel
theorem dL_jerks_104 : decode cL_jerks 104 = .ok (.istore 6, 2) := by decide +kernel
theorem dL_jerks_106 : decode cL_jerks 106 = .ok (.aload_n 0, 1) := by decide +kernel
theorem dL_jerks_107 : decode cL_jerks 107 = .ok (.bipush 7, 2) := by decide +kernel
theorem dL_jerks_109 : decode cL_jerks 109 = .ok (.invokevirtual 10, 3) := by decide +kernel
theorem dL_jerks_112 : decode cL_jerks 112 = .ok (.istore 7, 2) := by decide +kernel
theorem dL_jerks_114 : decode cL_jerks 114 = .ok (.aload_n 0, 1) := by decide +kernel
theorem dL_jerks_115 : decode cL_jerks 115 = .ok (.bipush 11, 2) := by decide +kernel
theorem dL_jerks_117 : decode cL_jerks 117 = .ok (.invokevirtual 10, 3) := by decide +kernel
theorem dL_jerks_120 : decode cL_jerks 120 = .ok (.istore 8, 2) := by decide +kernel
theorem dL_jerks_122 : decode cL_jerks 122 = .ok (.aload_n 0, 1) := by decide +kernel
theorem dL_jerks_123 : decode cL_jerks 123 = .ok (.bipush 9, 2) := by decide +kernel
theorem dL_jerks_125 : decode cL_jerks 125 = .ok (.invokevirtual 10, 3) := by decide +kernel
theorem dL_jerks_128 : decode cL_jerks 128 = .ok (.istore 9, 2) := by decide +kernel
theorem dL_jerks_130 : decode cL_jerks 130 = .ok (.aload_n 0, 1) := by decide +kernel
theorem dL_jerks_131 : decode cL_jerks 131 = .ok (.iload_n 1, 1) := by decide +kernel
theorem dL_jerks_132 : decode cL_jerks 132 = .ok (.invokevirtual 65, 3) := by decide +kernel
theorem dL_jerks_135 : decode cL_jerks 135 = .ok (.istore 10, 2) := by decide +kernel
theorem dL_jerks_137 : decode cL_jerks 137 = .ok (.iload 10, 2) := by decide +kernel
theorem dL_jerks_139 : decode cL_jerks 139 = .ok (.ifCond .ge 35, 3) := by decide +kernel
theorem dL_jerks_142 : decode cL_jerks 142 = .ok (.aload_n 0, 1) := by decide +kernel
theorem dL_jerks_143 : decode cL_jerks 143 = .ok (.invokestatic 52, 3) := by decide +kernel
theorem dL_jerks_146 : decode cL_jerks 146 = .ok (.lload_n 2, 1) := by decide +kernel
theorem dL_jerks_147 : decode cL_jerks 147 = .ok (.lcmp, 1) := by decide +kernel
theorem dL_jerks_148 : decode cL_jerks 148 = .ok (.ifCond .ne 24, 3) := by decide +kernel
theorem dL_jerks_151 : decode cL_jerks 151 = .ok (.iload_n 1, 1) := by decide +kernel
theorem dL_jerks_152 : decode cL_jerks 152 = .ok (.ifCond .eq 16, 3) := by decide +kernel
theorem dL_jerks_155 : decode cL_jerks 155 = .ok (.iload 5, 2) := by decide +kernel
theorem dL_jerks_157 : decode cL_jerks 157 = .ok (.ifCond .lt 11, 3) := by decide +kernel
theorem dL_jerks_160 : decode cL_jerks 160 = .ok (.iload 5, 2) := by decide +kernel
theorem dL_jerks_162 : decode cL_jerks 162 = .ok (.sipush 999, 3) := by decide +kernel
theorem dL_jerks_165 : decode cL_jerks 165 = .ok (.if_icmp .le 7, 3) := by decide +kernel
theorem dL_jerks_168 : decode cL_jerks 168 = .ok (.iconst 1, 1) := by decide +kernel
theorem dL_jerks_169 : decode cL_jerks 169 = .ok (.goto 4, 3) := by decide +kernel
theorem dL_jerks_172 : decode cL_jerks 172 = .ok (.iconst 0, 1) := by decide +kernel
theorem dL_jerks_173 : decode cL_jerks 173 = .ok (.ireturn, 1) := by decide +kernel
theorem dL_jerks_174 : decode cL_jerks 174 = .ok (.aload_n 0, 1) := by decide +kernel
theorem dL_jerks_175 : decode cL_jerks 175 = .ok (.iconst 1, 1) := by decide +kernel
theorem dL_jerks_176 : decode cL_jerks 176 = .ok (.invokevirtual 10, 3) := by decide +kernel
theorem dL_jerks_179 : decode cL_jerks 179 = .ok (.iload 5, 2) := by decide +kernel
theorem dL_jerks_181 : decode cL_jerks 181 = .ok (.if_icmp .ne 108, 3) := by decide +kernel
theorem dL_jerks_184 : decode cL_jerks 184 = .ok (.aload_n 0, 1) := by decide +kernel
theorem dL_jerks_185 : decode cL_jerks 185 = .ok (.bipush 9, 2) := by decide +kernel
theorem dL_jerks_187 : decode cL_jerks 187 = .ok (.invokevirtual 10, 3) := by decide +kernel
theorem dL_jerks_190 : decode cL_jerks 190 = .ok (.iload 9, 2) := by decide +kernel
theorem dL_jerks_192 : decode cL_jerks 192 = .ok (.iload 10, 2) := by decide +kernel
theorem dL_jerks_194 : decode cL_jerks 194 = .ok (.isub, 1) := by decide +kernel
theorem dL_jerks_195 : decode cL_jerks 195 = .ok (.if_icmp .ne 94, 3) := by decide +kernel
theorem dL_jerks_198 : decode cL_jerks 198 = .ok (.aload_n 0, 1) := by decide +kernel
theorem dL_jerks_199 : decode cL_jerks 199 = .ok (.bipush 11, 2) := by decide +kernel
theorem dL_jerks_201 : decode cL_jerks 201 = .ok (.invokevirtual 10, 3) := by decide +kernel
theorem dL_jerks_204 : decode cL_jerks 204 = .ok (.iload 8, 2) := by decide +kernel
theorem dL_jerks_206 : decode cL_jerks 206 = .ok (.if_icmp .ne 83, 3) := by decide +kernel
theorem dL_jerks_209 : decode cL_jerks 209 = .ok (.aload_n 0, 1) := by decide +kernel
theorem dL_jerks_210 : decode cL_jerks 210 = .ok (.bipush 7, 2) := by decide +kernel
theorem dL_jerks_212 : decode cL_jerks 212 = .ok (.invokevirtual 10, 3) := by decide +kernel
theorem dL_jerks_215 : decode cL_jerks 215 = .ok (.iload 7, 2) := by decide +kernel
theorem dL_jerks_217 : decode cL_jerks 217 = .ok (.iload 6, 2) := by decide +kernel
theorem dL_jerks_219 : decode cL_jerks 219 = .ok (.ifCond .eq 7, 3) := by decide +kernel
theorem dL_jerks_222 : decode cL_jerks 222 = .ok (.iconst 1, 1) := by decide +kernel
theorem dL_jerks_223 : decode cL_jerks 223 = .ok (.goto 4, 3) := by decide +kernel
theorem dL_jerks_226 : decode cL_jerks 226 = .ok (.iconst 0, 1) := by decide +kernel
theorem dL_jerks_227 : decode cL_jerks 227 = .ok (.iadd, 1) := by decide +kernel
theorem dL_jerks_228 : decode cL_jerks 228 = .ok (.if_icmp .ne 61, 3) := by decide +kernel
theorem dL_jerks_231 : decode cL_jerks 231 = .ok (.iload 6, 2) := by decide +kernel
theorem dL_jerks_233 : decode cL_jerks 233 = .ok (.ifCond .eq 52, 3) := by decide +kernel
theorem dL_jerks_236 : decode cL_jerks 236 = .ok (.aload_n 0, 1) := by decide +kernel
theorem dL_jerks_237 : decode cL_jerks 237 = .ok (.iload 4, 2) := by decide +kernel
theorem dL_jerks_239 : decode cL_jerks 239 = .ok (.bipush 13, 2) := by decide +kernel
theorem dL_jerks_241 : decode cL_jerks 241 = .ok (.invokevirtual 16, 3) := by decide +kernel
theorem dL_jerks_244 : decode cL_jerks 244 = .ok (.iconst 1, 1) := by decide +kernel
theorem dL_jerks_245 : decode cL_jerks 245 = .ok (.if_icmp .ne 44, 3) := by decide +kernel
theorem dL_jerks_248 : decode cL_jerks 248 = .ok (.aload_n 0, 1) := by decide +kernel
theorem dL_jerks_249 : decode cL_jerks 249 = .ok (.iload 4, 2) := by decide +kernel
theorem dL_jerks_251 : decode cL_jerks 251 = .ok (.bipush 11, 2) := by decide +kernel
theorem dL_jerks_253 : decode cL_jerks 253 = .ok (.invokevirtual 16, 3) := by decide +kernel
theorem dL_jerks_256 : decode cL_jerks 256 = .ok (.iload 5, 2) := by decide +kernel
theorem dL_jerks_258 : decode cL_jerks 258 = .ok (.aload_n 0, 1) := by decide +kernel
theorem dL_jerks_259 : decode cL_jerks 259 = .ok (.iload 4, 2) := by decide +kernel
theorem dL_jerks_261 : decode cL_jerks 261 = .ok (.iconst 0, 1) := by decide +kernel
theorem dL_jerks_262 : decode cL_jerks 262 = .ok (.invokevirtual 16, 3) := by decide +kernel
theorem dL_jerks_265 : decode cL_jerks 265 = .ok (.isub, 1) := by decide +kernel
theorem dL_jerks_266 : decode cL_jerks 266 = .ok (.if_icmp .ne 23, 3) := by decide +kernel
theorem dL_jerks_269 : decode cL_jerks 269 = .ok (.aload_n 0, 1) := by decide +kernel
theorem dL_jerks_270 : decode cL_jerks 270 = .ok (.iload 4, 2) := by decide +kernel
theorem dL_jerks_272 : decode cL_jerks 272 = .ok (.bipush 6, 2) := by decide +kernel
theorem dL_jerks_274 : decode cL_jerks 274 = .ok (.invokevirtual 16, 3) := by decide +kernel
theorem dL_jerks_277 : decode cL_jerks 277 = .ok (.aload_n 0, 1) := by decide +kernel
theorem dL_jerks_278 : decode cL_jerks 278 = .ok (.iconst 0, 1) := by decide +kernel
theorem dL_jerks_279 : decode cL_jerks 279 = .ok (.invokevirtual 10, 3) := by decide +kernel
theorem dL_jerks_282 : decode cL_jerks 282 = .ok (.if_icmp .ne 7, 3) := by decide +kernel
theorem dL_jerks_285 : decode cL_jerks 285 = .ok (.iconst 1, 1) := by decide +kernel
theorem dL_jerks_286 : decode cL_jerks 286 = .ok (.goto 4, 3) := by decide +kernel
theorem dL_jerks_289 : decode cL_jerks 289 = .ok (.iconst 0, 1) := by decide +kernel
theorem dL_jerks_290 : decode cL_jerks 290 = .ok (.istore 11, 2) := by decide +kernel
theorem dL_jerks_292 : decode cL_jerks 292 = .ok (.iload 11, 2) := by decide +kernel
theorem dL_jerks_294 : decode cL_jerks 294 = .ok (.ifCond .eq 30, 3) := by decide +kernel
theorem dL_jerks_297 : decode cL_jerks 297 = .ok (.aload_n 0, 1) := by decide +kernel
theorem dL_jerks_298 : decode cL_jerks 298 = .ok (.invokestatic 59, 3) := by decide +kernel
theorem dL_jerks_301 : decode cL_jerks 301 = .ok (.ifCond .eq 23, 3) := by decide +kernel
theorem dL_jerks_304 : decode cL_jerks 304 = .ok (.aload_n 0, 1) := by decide +kernel
theorem dL_jerks_305 : decode cL_jerks 305 = .ok (.invokevirtual 62, 3) := by decide +kernel
theorem dL_jerks_308 : decode cL_jerks 308 = .ok (.ifCond .lt 16, 3) := by decide +kernel
theorem dL_jerks_311 : decode cL_jerks 311 = .ok (.aload_n 0, 1) := by decide +kernel
theorem dL_jerks_312 : decode cL_jerks 312 = .ok (.invokestatic 52, 3) := by decide +kernel
theorem dL_jerks_315 : decode cL_jerks 315 = .ok (.lload_n 2, 1) := by decide +kernel
theorem dL_jerks_316 : decode cL_jerks 316 = .ok (.lcmp, 1) := by decide +kernel
theorem dL_jerks_317 : decode cL_jerks 317 = .ok (.ifCond .ne 7, 3) := by decide +kernel
theorem dL_jerks_320 : decode cL_jerks 320 = .ok (.iconst 1, 1) := by decide +kernel
theorem dL_jerks_321 : decode cL_jerks 321 = .ok (.goto 4, 3) := by decide +kernel
theorem dL_jerks_324 : decode cL_jerks 324 = .ok (.iconst 0, 1) := by decide +kernel
theorem dL_jerks_325 : decode cL_jerks 325 = .ok (.ireturn, 1) := by decide +kernel
theorem dL_act_0 : decode cL_act 0 = .ok (.iload_n 1, 1) := by decide +kernel
theorem dL_act_1 : decode cL_act 1 = .ok (.bipush 15, 2) := by decide +kernel
theorem dL_act_3 : decode cL_act 3 = .ok (.invokestatic 68, 3) := by decide +kernel
theorem dL_act_6 : decode cL_act 6 = .ok (.tableswitch 244 0 12 #[66, 66, 66, 108, 108, 108, 108, 126, 126, 126, 131, 142, 182], 66) := by decide +kernel
theorem dL_act_72 : decode cL_act 72 = .ok (.aload_n 0, 1) := by decide +kernel
theorem dL_act_73 : decode cL_act 73 = .ok (.iload_n 2, 1) := by decide +kernel
theorem dL_act_74 : decode cL_act 74 = .ok (.bipush 6, 2) := by decide +kernel
theorem dL_act_76 : decode cL_act 76 = .ok (.invokestatic 68, 3) := by decide +kernel
theorem dL_act_79 : decode cL_act 79 = .ok (.ifCond .ne 19, 3) := by decide +kernel
theorem dL_act_82 : decode cL_act 82 = .ok (.iload_n 2, 1) := by decide +kernel
theorem dL_act_83 : decode cL_act 83 = .ok (.iconst 3, 1) := by decide +kernel
theorem dL_act_84 : decode cL_act 84 = .ok (.ishr, 1) := by decide +kernel
theorem dL_act_85 : decode cL_act 85 = .ok (.sipush 900, 3) := by decide +kernel
theorem dL_act_88 : decode cL_act 88 = .ok (.invokestatic 68, 3) := by decide +kernel
theorem dL_act_91 : decode cL_act 91 = .ok (.sipush 400, 3) := by decide +kernel
theorem dL_act_94 : decode cL_act 94 = .ok (.isub, 1) := by decide +kernel
theorem dL_act_95 : decode cL_act 95 = .ok (.goto 15, 3) := by decide +kernel
theorem dL_act_98 : decode cL_act 98 = .ok (.iload_n 2, 1) := by decide +kernel
theorem dL_act_99 : decode cL_act 99 = .ok (.iconst 3, 1) := by decide +kernel
theorem dL_act_100 : decode cL_act 100 = .ok (.ishr, 1) := by decide +kernel
theorem dL_act_101 : decode cL_act 101 = .ok (.sipush 170, 3) := by decide +kernel
theorem dL_act_104 : decode cL_act 104 = .ok (.invokestatic 68, 3) := by decide +kernel
theorem dL_act_107 : decode cL_act 107 = .ok (.bipush 40, 2) := by decide +kernel
theorem dL_act_109 : decode cL_act 109 = .ok (.isub, 1) := by decide +kernel
theorem dL_act_110 : decode cL_act 110 = .ok (.invokevirtual 65, 3) := by decide +kernel
theorem dL_act_113 : decode cL_act 113 = .ok (.ireturn, 1) := by decide +kernel
theorem dL_act_114 : decode cL_act 114 = .ok (.aload_n 0, 1) := by decide +kernel
theorem dL_act_115 : decode cL_act 115 = .ok (.iload_n 2, 1) := by decide +kernel
theorem dL_act_116 : decode cL_act 116 = .ok (.iconst 3, 1) := by decide +kernel
theorem dL_act_117 : decode cL_act 117 = .ok (.invokestatic 68, 3) := by decide +kernel
theorem dL_act_120 : decode cL_act 120 = .ok (.ifCond .le 7, 3) := by decide +kernel
theorem dL_act_123 : decode cL_act 123 = .ok (.iconst 1, 1) := by decide +kernel
theorem dL_act_124 : decode cL_act 124 = .ok (.goto 4, 3) := by decide +kernel
theorem dL_act_127 : decode cL_act 127 = .ok (.iconst 0, 1) := by decide +kernel
theorem dL_act_128 : decode cL_act 128 = .ok (.invokevirtual 71, 3) := by decide +kernel
theorem dL_act_131 : decode cL_act 131 = .ok (.ireturn, 1) := by decide +kernel
theorem dL_act_132 : decode cL_act 132 = .ok (.aload_n 0, 1) := by decide +kernel
theorem dL_act_133 : decode cL_act 133 = .ok (.invokevirtual 75, 3) := by decide +kernel
theorem dL_act_136 : decode cL_act 136 = .ok (.ireturn, 1) := by decide +kernel
theorem dL_act_137 : decode cL_act 137 = .ok (.aload_n 0, 1) := by decide +kernel
theorem dL_act_138 : decode cL_act 138 = .ok (.iload_n 2, 1) := by decide +kernel
theorem dL_act_139 : decode cL_act 139 = .ok (.bipush 7, 2) := by decide +kernel
theorem dL_act_141 : decode cL_act 141 = .ok (.invokestatic 68, 3) := by decide +kernel
theorem dL_act_144 : decode cL_act 144 = .ok (.invokevirtual 78, 3) := by decide +kernel
theorem dL_act_147 : decode cL_act 147 = .ok (.ireturn, 1) := by decide +kernel
theorem dL_act_148 : decode cL_act 148 = .ok (.iload_n 1, 1) := by decide +kernel
theorem dL_act_149 : decode cL_act 149 = .ok (.iconst 4, 1) := by decide +kernel
theorem dL_act_150 : decode cL_act 150 = .ok (.ishr, 1) := by decide +kernel
theorem dL_act_151 : decode cL_act 151 = .ok (.iconst 2, 1) := by decide +kernel
theorem dL_act_152 : decode cL_act 152 = .ok (.invokestatic 68, 3) := by decide +kernel
theorem dL_act_155 : decode cL_act 155 = .ok (.ifCond .ne 23, 3) := by decide +kernel
theorem dL_act_158 : decode cL_act 158 = .ok (.aload_n 0, 1) := by decide +kernel
theorem dL_act_159 : decode cL_act 159 = .ok (.iload_n 2, 1) := by decide +kernel
theorem dL_act_160 : decode cL_act 160 = .ok (.iconst 2, 1) := by decide +kernel
theorem dL_act_161 : decode cL_act 161 = .ok (.invokestatic 68, 3) := by decide +kernel
theorem dL_act_164 : decode cL_act 164 = .ok (.ifCond .ne 7, 3) := by decide +kernel
theorem dL_act_167 : decode cL_act 167 = .ok (.iconst 1, 1) := by decide +kernel
theorem dL_act_168 : decode cL_act 168 = .ok (.goto 4, 3) := by decide +kernel
theorem dL_act_171 : decode cL_act 171 = .ok (.iconst 0, 1) := by decide +kernel
theorem dL_act_172 : decode cL_act 172 = .ok (.invokevirtual 81, 3) := by decide +kernel
theorem dL_act_175 : decode cL_act 175 = .ok (.goto 12, 3) := by decide +kernel
theorem dL_act_178 : decode cL_act 178 = .ok (.aload_n 0, 1) := by decide +kernel
theorem dL_act_179 : decode cL_act 179 = .ok (.iload_n 2, 1) := by decide +kernel
theorem dL_act_180 : decode cL_act 180 = .ok (.iconst 4, 1) := by decide +kernel
theorem dL_act_181 : decode cL_act 181 = .ok (.invokestatic 68, 3) := by decide +kernel
theorem dL_act_184 : decode cL_act 184 = .ok (.invokevirtual 84, 3) := by decide +kernel
theorem dL_act_187 : decode cL_act 187 = .ok (.ireturn, 1) := by decide +kernel
theorem dL_act_188 : decode cL_act 188 = .ok (.iload_n 1, 1) := by decide +kernel
theorem dL_act_189 : decode cL_act 189 = .ok (.iconst 4, 1) := by decide +kernel
theorem dL_act_190 : decode cL_act 190 = .ok (.ishr, 1) := by decide +kernel
theorem dL_act_191 : decode cL_act 191 = .ok (.iconst 2, 1) := by decide +kernel
theorem dL_act_192 : decode cL_act 192 = .ok (.invokestatic 68, 3) := by decide +kernel
theorem dL_act_195 : decode cL_act 195 = .ok (.ifCond .ne 37, 3) := by decide +kernel
theorem dL_act_198 : decode cL_act 198 = .ok (.aload_n 0, 1) := by decide +kernel
theorem dL_act_199 : decode cL_act 199 = .ok (.iload_n 2, 1) := by decide +kernel
theorem dL_act_200 : decode cL_act 200 = .ok (.bipush 11, 2) := by decide +kernel
theorem dL_act_202 : decode cL_act 202 = .ok (.invokestatic 68, 3) := by decide +kernel
theorem dL_act_205 : decode cL_act 205 = .ok (.iload_n 2, 1) := by decide +kernel
theorem dL_act_206 : decode cL_act 206 = .ok (.iconst 4, 1) := by decide +kernel
theorem dL_act_207 : decode cL_act 207 = .ok (.ishr, 1) := by decide +kernel
theorem dL_act_208 : decode cL_act 208 = .ok (.sipush 310, 3) := by decide +kernel
theorem dL_act_211 : decode cL_act 211 = .ok (.invokestatic 68, 3) := by decide +kernel
theorem dL_act_214 : decode cL_act 214 = .ok (.bipush 20, 2) := by decide +kernel
theorem dL_act_216 : decode cL_act 216 = .ok (.isub, 1) := by decide +kernel
theorem dL_act_217 : decode cL_act 217 = .ok (.iload_n 2, 1) := by decide +kernel
theorem dL_act_218 : decode cL_act 218 = .ok (.iconst 5, 1) := by decide +kernel
theorem dL_act_219 : decode cL_act 219 = .ok (.ishr, 1) := by decide +kernel
theorem dL_act_220 : decode cL_act 220 = .ok (.sipush 421, 3) := by decide +kernel
theorem dL_act_223 : decode cL_act 223 = .ok (.invokestatic 68, 3) := by decide +kernel
theorem dL_act_226 : decode cL_act 226 = .ok (.invokevirtual 87, 3) := by decide +kernel
theorem dL_act_229 : decode cL_act 229 = .ok (.goto 20, 3) := by decide +kernel
theorem dL_act_232 : decode cL_act 232 = .ok (.aload_n 0, 1) := by decide +kernel
theorem dL_act_233 : decode cL_act 233 = .ok (.iload_n 1, 1) := by decide +kernel
theorem dL_act_234 : decode cL_act 234 = .ok (.iconst 5, 1) := by decide +kernel
theorem dL_act_235 : decode cL_act 235 = .ok (.ishr, 1) := by decide +kernel
theorem dL_act_236 : decode cL_act 236 = .ok (.iconst 3, 1) := by decide +kernel
theorem dL_act_237 : decode cL_act 237 = .ok (.invokestatic 68, 3) := by decide +kernel
theorem dL_act_240 : decode cL_act 240 = .ok (.iload_n 2, 1) := by decide +kernel
theorem dL_act_241 : decode cL_act 241 = .ok (.bipush 90, 2) := by decide +kernel
theorem dL_act_243 : decode cL_act 243 = .ok (.invokestatic 68, 3) := by decide +kernel
theorem dL_act_246 : decode cL_act 246 = .ok (.invokevirtual 91, 3) := by decide +kernel
theorem dL_act_249 : decode cL_act 249 = .ok (.ireturn, 1) := by decide +kernel
theorem dL_act_250 : decode cL_act 250 = .ok (.aload_n 0, 1) := by decide +kernel
theorem dL_act_251 : decode cL_act 251 = .ok (.iconst 1, 1) := by decide +kernel
theorem dL_act_252 : decode cL_act 252 = .ok (.iload_n 2, 1) := by decide +kernel
theorem dL_act_253 : decode cL_act 253 = .ok (.bipush 30, 2) := by decide +kernel
theorem dL_act_255 : decode cL_act 255 = .ok (.invokestatic 68, 3) := by decide +kernel
theorem dL_act_258 : decode cL_act 258 = .ok (.iadd, 1) := by decide +kernel
theorem dL_act_259 : decode cL_act 259 = .ok (.invokevirtual 56, 3) := by decide +kernel
theorem dL_act_262 : decode cL_act 262 = .ok (.ireturn, 1) := by decide +kernel
theorem dL_law_0 : decode cL_law 0 = .ok (.new 11, 3) := by decide +kernel
theorem dL_law_3 : decode cL_law 3 = .ok (.dup, 1) := by decide +kernel
theorem dL_law_4 : decode cL_law 4 = .ok (.invokespecial 94, 3) := by decide +kernel
theorem dL_law_7 : decode cL_law 7 = .ok (.astore_n 1, 1) := by decide +kernel
theorem dL_law_8 : decode cL_law 8 = .ok (.aload_n 1, 1) := by decide +kernel
theorem dL_law_9 : decode cL_law 9 = .ok (.invokestatic 59, 3) := by decide +kernel
theorem dL_law_12 : decode cL_law 12 = .ok (.istore_n 2, 1) := by decide +kernel
theorem dL_law_13 : decode cL_law 13 = .ok (.iconst 0, 1) := by decide +kernel
theorem dL_law_14 : decode cL_law 14 = .ok (.istore_n 3, 1) := by decide +kernel
theorem dL_law_15 : decode cL_law 15 = .ok (.iload_n 3, 1) := by decide +kernel
theorem dL_law_16 : decode cL_law 16 = .ok (.bipush 44, 2) := by decide +kernel
theorem dL_law_18 : decode cL_law 18 = .ok (.if_icmp .ge 296, 3) := by decide +kernel
theorem dL_law_21 : decode cL_law 21 = .ok (.iload_n 2, 1) := by decide +kernel
theorem dL_law_22 : decode cL_law 22 = .ok (.ifCond .eq 292, 3) := by decide +kernel
theorem dL_law_25 : decode cL_law 25 = .ok (.aload_n 0, 1) := by decide +kernel
theorem dL_law_26 : decode cL_law 26 = .ok (.iconst 2, 1) := by decide +kernel
theorem dL_law_27 : decode cL_law 27 = .ok (.iload_n 3, 1) := by decide +kernel
theorem dL_law_28 : decode cL_law 28 = .ok (.imul, 1) := by decide +kernel
theorem dL_law_29 : decode cL_law 29 = .ok (.invokestatic 95, 3) := by decide +kernel
theorem dL_law_32 : decode cL_law 32 = .ok (.istore 4, 2) := by decide +kernel
theorem dL_law_34 : decode cL_law 34 = .ok (.aload_n 0, 1) := by decide +kernel
theorem dL_law_35 : decode cL_law 35 = .ok (.iconst 2, 1) := by decide +kernel
theorem dL_law_36 : decode cL_law 36 = .ok (.iload_n 3, 1) := by decide +kernel
theorem dL_law_37 : decode cL_law 37 = .ok (.imul, 1) := by decide +kernel
theorem dL_law_38 : decode cL_law 38 = .ok (.iconst 1, 1) := by decide +kernel
theorem dL_law_39 : decode cL_law 39 = .ok (.iadd, 1) := by decide +kernel
theorem dL_law_40 : decode cL_law 40 = .ok (.invokestatic 95, 3) := by decide +kernel
theorem dL_law_43 : decode cL_law 43 = .ok (.istore 5, 2) := by decide +kernel
theorem dL_law_45 : decode cL_law 45 = .ok (.aload_n 1, 1) := by decide +kernel
theorem dL_law_46 : decode cL_law 46 = .ok (.bipush 17, 2) := by decide +kernel
theorem dL_law_48 : decode cL_law 48 = .ok (.invokevirtual 10, 3) := by decide +kernel
theorem dL_law_51 : decode cL_law 51 = .ok (.istore 6, 2) := by decide +kernel
theorem dL_law_53 : decode cL_law 53 = .ok (.aload_n 1, 1) := by decide +kernel
theorem dL_law_54 : decode cL_law 54 = .ok (.invokestatic 52, 3) := by decide +kernel
theorem dL_law_57 : decode cL_law 57 = .ok (.lstore 7, 2) := by decide +kernel
theorem dL_law_59 : decode cL_law 59 = .ok (.iload_n 3, 1) := by decide +kernel
theorem dL_law_60 : decode cL_law 60 = .ok (.iconst 4, 1) := by decide +kernel
theorem dL_law_61 : decode cL_law 61 = .ok (.if_icmp .ge 33, 3) := by decide +kernel
theorem dL_law_64 : decode cL_law 64 = .ok (.iload_n 3, 1) := by decide +kernel
theorem dL_law_65 : decode cL_law 65 = .ok (.iconst 2, 1) := by decide +kernel
theorem dL_law_66 : decode cL_law 66 = .ok (.irem, 1) := by decide +kernel
theorem dL_law_67 : decode cL_law 67 = .ok (.ifCond .ne 11, 3) := by decide +kernel
theorem dL_law_70 : decode cL_law 70 = .ok (.aload_n 1, 1) := by decide +kernel
theorem dL_law_71 : decode cL_law 71 = .ok (.iconst 1, 1) := by decide +kernel
theorem dL_law_72 : decode cL_law 72 = .ok (.invokevirtual 71, 3) := by decide +kernel
theorem dL_law_75 : decode cL_law 75 = .ok (.goto 27, 3) := by decide +kernel
theorem dL_law_78 : decode cL_law 78 = .ok (.aload_n 1, 1) := by decide +kernel
theorem dL_law_79 : decode cL_law 79 = .ok (.iconst 5, 1) := by decide +kernel
theorem dL_law_80 : decode cL_law 80 = .ok (.iload 5, 2) := by decide +kernel
theorem dL_law_82 : decode cL_law 82 = .ok (.bipush 120, 2) := by decide +kernel
theorem dL_law_84 : decode cL_law 84 = .ok (.invokestatic 68, 3) := by decide +kernel
theorem dL_law_87 : decode cL_law 87 = .ok (.iadd, 1) := by decide +kernel
theorem dL_law_88 : decode cL_law 88 = .ok (.invokevirtual 65, 3) := by decide +kernel
theorem dL_law_91 : decode cL_law 91 = .ok (.goto 11, 3) := by decide +kernel
theorem dL_law_94 : decode cL_law 94 = .ok (.aload_n 1, 1) := by decide +kernel
theorem dL_law_95 : decode cL_law 95 = .ok (.iload 4, 2) := by decide +kernel
theorem dL_law_97 : decode cL_law 97 = .ok (.iload 5, 2) := by decide +kernel
theorem dL_law_99 : decode cL_law 99 = .ok (.invokestatic 99, 3) := by decide +kernel
theorem dL_law_102 : decode cL_law 102 = .ok (.istore 9, 2) := by decide +kernel
theorem dL_law_104 : decode cL_law 104 = .ok (.iload 9, 2) := by decide +kernel
theorem dL_law_106 : decode cL_law 106 = .ok (.sipush (-1000), 3) := by decide +kernel
theorem dL_law_109 : decode cL_law 109 = .ok (.if_icmp .ge 33, 3) := by decide +kernel
theorem dL_law_112 : decode cL_law 112 = .ok (.aload_n 1, 1) := by decide +kernel
theorem dL_law_113 : decode cL_law 113 = .ok (.bipush 17, 2) := by decide +kernel
theorem dL_law_115 : decode cL_law 115 = .ok (.invokevirtual 10, 3) := by decide +kernel
theorem dL_law_118 : decode cL_law 118 = .ok (.iload 6, 2) := by decide +kernel
theorem dL_law_120 : decode cL_law 120 = .ok (.if_icmp .ne 17, 3) := by decide +kernel
theorem dL_law_123 : decode cL_law 123 = .ok (.aload_n 1, 1) := by decide +kernel
theorem dL_law_124 : decode cL_law 124 = .ok (.invokestatic 52, 3) := by decide +kernel
theorem dL_law_127 : decode cL_law 127 = .ok (.lload 7, 2) := by decide +kernel
theorem dL_law_129 : decode cL_law 129 = .ok (.lcmp, 1) := by decide +kernel
theorem dL_law_130 : decode cL_law 130 = .ok (.ifCond .ne 7, 3) := by decide +kernel
theorem dL_law_133 : decode cL_law 133 = .ok (.iconst 1, 1) := by decide +kernel
theorem dL_law_134 : decode cL_law 134 = .ok (.goto 4, 3) := by decide +kernel
theorem dL_law_137 : decode cL_law 137 = .ok (.iconst 0, 1) := by decide +kernel
theorem dL_law_138 : decode cL_law 138 = .ok (.istore_n 2, 1) := by decide +kernel
theorem dL_law_139 : decode cL_law 139 = .ok (.goto 101, 3) := by decide +kernel
theorem dL_law_142 : decode cL_law 142 = .ok (.aload_n 1, 1) := by decide +kernel
theorem dL_law_143 : decode cL_law 143 = .ok (.bipush 17, 2) := by decide +kernel
theorem dL_law_145 : decode cL_law 145 = .ok (.invokevirtual 10, 3) := by decide +kernel
theorem dL_law_148 : decode cL_law 148 = .ok (.iload 6, 2) := by decide +kernel
theorem dL_law_150 : decode cL_law 150 = .ok (.iconst 4, 1) := by decide +kernel
theorem dL_law_151 : decode cL_law 151 = .ok (.if_icmp .ge 10, 3) := by decide +kernel
theorem dL_law_154 : decode cL_law 154 = .ok (.iload 6, 2) := by decide +kernel
theorem dL_law_156 : decode cL_law 156 = .ok (.iconst 1, 1) := by decide +kernel
theorem dL_law_157 : decode cL_law 157 = .ok (.iadd, 1) := by decide +kernel
theorem dL_law_158 : decode cL_law 158 = .ok (.goto 4, 3) := by decide +kernel
theorem dL_law_161 : decode cL_law 161 = .ok (.iconst 4, 1) := by decide +kernel
theorem dL_law_162 : decode cL_law 162 = .ok (.if_icmp .ne 7, 3) := by decide +kernel
theorem dL_law_165 : decode cL_law 165 = .ok (.iconst 1, 1) := by decide +kernel
theorem dL_law_166 : decode cL_law 166 = .ok (.goto 4, 3) := by decide +kernel
theorem dL_law_169 : decode cL_law 169 = .ok (.iconst 0, 1) := by decide +kernel
theorem dL_law_170 : decode cL_law 170 = .ok (.istore_n 2, 1) := by decide +kernel
theorem dL_law_171 : decode cL_law 171 = .ok (.iload_n 2, 1) := by decide +kernel
theorem dL_law_172 : decode cL_law 172 = .ok (.ifCond .eq 68, 3) := by decide +kernel
theorem dL_law_175 : decode cL_law 175 = .ok (.iload_n 3, 1) := by decide +kernel
theorem dL_law_176 : decode cL_law 176 = .ok (.iconst 4, 1) := by decide +kernel
theorem dL_law_177 : decode cL_law 177 = .ok (.if_icmp .le 63, 3) := by decide +kernel
theorem dL_law_180 : decode cL_law 180 = .ok (.iload 4, 2) := by decide +kernel
theorem dL_law_182 : decode cL_law 182 = .ok (.bipush 7, 2) := by decide +kernel
theorem dL_law_184 : decode cL_law 184 = .ok (.ishr, 1) := by decide +kernel
theorem dL_law_185 : decode cL_law 185 = .ok (.iconst 4, 1) := by decide +kernel
theorem dL_law_186 : decode cL_law 186 = .ok (.invokestatic 68, 3) := by decide +kernel
theorem dL_law_189 : decode cL_law 189 = .ok (.ifCond .ne 51, 3) := by decide +kernel
theorem dL_law_192 : decode cL_law 192 = .ok (.aload_n 1, 1) := by decide +kernel
theorem dL_law_193 : decode cL_law 193 = .ok (.invokevirtual 62, 3) := by decide +kernel
theorem dL_law_196 : decode cL_law 196 = .ok (.iload 6, 2) := by decide +kernel
theorem dL_law_198 : decode cL_law 198 = .ok (.iconst 4, 1) := by decide +kernel
theorem dL_law_199 : decode cL_law 199 = .ok (.if_icmp .ge 8, 3) := by decide +kernel
theorem dL_law_202 : decode cL_law 202 = .ok (.iload 6, 2) := by decide +kernel
theorem dL_law_204 : decode cL_law 204 = .ok (.goto 4, 3) := by decide +kernel
theorem dL_law_207 : decode cL_law 207 = .ok (.iconst 3, 1) := by decide +kernel
theorem dL_law_208 : decode cL_law 208 = .ok (.if_icmp .ne 30, 3) := by decide +kernel
theorem dL_law_211 : decode cL_law 211 = .ok (.aload_n 1, 1) := by decide +kernel
theorem dL_law_212 : decode cL_law 212 = .ok (.invokestatic 52, 3) := by decide +kernel
theorem dL_law_215 : decode cL_law 215 = .ok (.lload 7, 2) := by decide +kernel
theorem dL_law_217 : decode cL_law 217 = .ok (.lcmp, 1) := by decide +kernel
theorem dL_law_218 : decode cL_law 218 = .ok (.ifCond .ne 20, 3) := by decide +kernel
theorem dL_law_221 : decode cL_law 221 = .ok (.aload_n 1, 1) := by decide +kernel
theorem dL_law_222 : decode cL_law 222 = .ok (.iload 4, 2) := by decide +kernel
theorem dL_law_224 : decode cL_law 224 = .ok (.iload 5, 2) := by decide +kernel
theorem dL_law_226 : decode cL_law 226 = .ok (.invokestatic 99, 3) := by decide +kernel
theorem dL_law_229 : decode cL_law 229 = .ok (.iload 9, 2) := by decide +kernel
theorem dL_law_231 : decode cL_law 231 = .ok (.if_icmp .ne 7, 3) := by decide +kernel
theorem dL_law_234 : decode cL_law 234 = .ok (.iconst 1, 1) := by decide +kernel
theorem dL_law_235 : decode cL_law 235 = .ok (.goto 4, 3) := by decide +kernel
theorem dL_law_238 : decode cL_law 238 = .ok (.iconst 0, 1) := by decide +kernel
theorem dL_law_239 : decode cL_law 239 = .ok (.istore_n 2, 1) := by decide +kernel
theorem dL_law_240 : decode cL_law 240 = .ok (.iload_n 2, 1) := by decide +kernel
theorem dL_law_241 : decode cL_law 241 = .ok (.ifCond .eq 65, 3) := by decide +kernel
theorem dL_law_244 : decode cL_law 244 = .ok (.aload_n 1, 1) := by decide +kernel
theorem dL_law_245 : decode cL_law 245 = .ok (.invokestatic 59, 3) := by decide +kernel
theorem dL_law_248 : decode cL_law 248 = .ok (.ifCond .eq 58, 3) := by decide +kernel
theorem dL_law_251 : decode cL_law 251 = .ok (.iload_n 3, 1) := by decide +kernel
theorem dL_law_252 : decode cL_law 252 = .ok (.iconst 3, 1) := by decide +kernel
theorem dL_law_253 : decode cL_law 253 = .ok (.irem, 1) := by decide +kernel
theorem dL_law_254 : decode cL_law 254 = .ok (.ifCond .gt 21, 3) := by decide +kernel
theorem dL_law_257 : decode cL_law 257 = .ok (.aload_n 1, 1) := by decide +kernel
theorem dL_law_258 : decode cL_law 258 = .ok (.iconst 1, 1) := by decide +kernel
theorem dL_law_259 : decode cL_law 259 = .ok (.iload 5, 2) := by decide +kernel
theorem dL_law_261 : decode cL_law 261 = .ok (.iconst 2, 1) := by decide +kernel
theorem dL_law_262 : decode cL_law 262 = .ok (.ishr, 1) := by decide +kernel
theorem dL_law_263 : decode cL_law 263 = .ok (.bipush 60, 2) := by decide +kernel
theorem dL_law_265 : decode cL_law 265 = .ok (.invokestatic 68, 3) := by decide +kernel
theorem dL_law_268 : decode cL_law 268 = .ok (.iadd, 1) := by decide +kernel
theorem dL_law_269 : decode cL_law 269 = .ok (.invokestatic 103, 3) := by decide +kernel
theorem dL_law_272 : decode cL_law 272 = .ok (.ifCond .eq 34, 3) := by decide +kernel
theorem dL_law_275 : decode cL_law 275 = .ok (.iload_n 3, 1) := by decide +kernel
theorem dL_law_276 : decode cL_law 276 = .ok (.iconst 4, 1) := by decide +kernel
theorem dL_law_277 : decode cL_law 277 = .ok (.irem, 1) := by decide +kernel
theorem dL_law_278 : decode cL_law 278 = .ok (.ifCond .gt 24, 3) := by decide +kernel
theorem dL_law_281 : decode cL_law 281 = .ok (.aload_n 1, 1) := by decide +kernel
theorem dL_law_282 : decode cL_law 282 = .ok (.iload 5, 2) := by decide +kernel
theorem dL_law_284 : decode cL_law 284 = .ok (.iconst 5, 1) := by decide +kernel
theorem dL_law_285 : decode cL_law 285 = .ok (.ishr, 1) := by decide +kernel
theorem dL_law_286 : decode cL_law 286 = .ok (.sipush 1400, 3) := by decide +kernel
theorem dL_law_289 : decode cL_law 289 = .ok (.invokestatic 68, 3) := by decide +kernel
theorem dL_law_292 : decode cL_law 292 = .ok (.sipush 500, 3) := by decide +kernel
theorem dL_law_295 : decode cL_law 295 = .ok (.isub, 1) := by decide +kernel
theorem dL_law_296 : decode cL_law 296 = .ok (.invokestatic 107, 3) := by decide +kernel
theorem dL_law_299 : decode cL_law 299 = .ok (.ifCond .eq 7, 3) := by decide +kernel
theorem dL_law_302 : decode cL_law 302 = .ok (.iconst 1, 1) := by decide +kernel
theorem dL_law_303 : decode cL_law 303 = .ok (.goto 4, 3) := by decide +kernel
theorem dL_law_306 : decode cL_law 306 = .ok (.iconst 0, 1) := by decide +kernel
theorem dL_law_307 : decode cL_law 307 = .ok (.istore_n 2, 1) := by decide +kernel
theorem dL_law_308 : decode cL_law 308 = .ok (.iinc 3 1, 3) := by decide +kernel
theorem dL_law_311 : decode cL_law 311 = .ok (.goto (-296), 3) := by decide +kernel
theorem dL_law_314 : decode cL_law 314 = .ok (.iload_n 2, 1) := by decide +kernel
theorem dL_law_315 : decode cL_law 315 = .ok (.ifCond .eq 14, 3) := by decide +kernel
theorem dL_law_318 : decode cL_law 318 = .ok (.aload_n 1, 1) := by decide +kernel
theorem dL_law_319 : decode cL_law 319 = .ok (.invokestatic 59, 3) := by decide +kernel
theorem dL_law_322 : decode cL_law 322 = .ok (.ifCond .eq 7, 3) := by decide +kernel
theorem dL_law_325 : decode cL_law 325 = .ok (.iconst 1, 1) := by decide +kernel
theorem dL_law_326 : decode cL_law 326 = .ok (.goto 4, 3) := by decide +kernel
theorem dL_law_329 : decode cL_law 329 = .ok (.iconst 0, 1) := by decide +kernel
theorem dL_law_330 : decode cL_law 330 = .ok (.ireturn, 1) := by decide +kernel
