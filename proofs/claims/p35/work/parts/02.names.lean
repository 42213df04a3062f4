def RX0 : String := "ThrusterSelector$History"
def TX0 : u_T := fun k => match k with
  | 0 => ("ThrusterSelector$History", "states", "[LThrusterSelector$State;", true)
  | 1 => ("ThrusterSelector$History", "oldest", "I", false)
  | _ => ("ThrusterSelector$History", "count", "I", false)
def tyX0 : Nat → FieldType := fun k => match k with
  | 0 => .array (.object "ThrusterSelector$State")
  | 1 => .int
  | _ => .int
theorem nmX0 : ∀ a, a < 3 → ∀ b, b < 3 → a ≠ b → (TX0 a).2.1 ≠ (TX0 b).2.1 := by decide +kernel
theorem tyX0_ok : ∀ k, k < 3 → parseFieldDescriptor (TX0 k).2.2.1 = some (tyX0 k) := by decide +kernel
abbrev cX0_init : ByteArray := prog_2_method_1_code
def yX0_init : MethodName := ⟨RX0, "<init>", "()V"⟩
abbrev cX0_keep : ByteArray := prog_2_method_2_code
def yX0_keep : MethodName := ⟨RX0, "keep", "(LThrusterSelector$State;)V"⟩
abbrev cX0_restore : ByteArray := prog_2_method_3_code
def yX0_restore : MethodName := ⟨RX0, "restore", "(LThrusterSelector$State;)V"⟩
def RX1 : String := "ThrusterSelector$Selection"
def TX1 : u_T := fun k => match k with
  | 0 => ("ThrusterSelector$Selection", "units", "[[I", true)
  | 1 => ("ThrusterSelector$Selection", "tickPrices", "[I", true)
  | 2 => ("ThrusterSelector$Selection", "shares", "[J", true)
  | 3 => ("ThrusterSelector$Selection", "denominator", "J", false)
  | 4 => ("ThrusterSelector$Selection", "cost", "J", false)
  | 5 => ("ThrusterSelector$Selection", "mask", "I", false)
  | 6 => ("ThrusterSelector$Selection", "running", "I", false)
  | _ => ("ThrusterSelector$Selection", "found", "Z", false)
def tyX1 : Nat → FieldType := fun k => match k with
  | 0 => .array (.array .int)
  | 1 => .array .int
  | 2 => .array .long
  | 3 => .long
  | 4 => .long
  | 5 => .int
  | 6 => .int
  | _ => .boolean
theorem nmX1 : ∀ a, a < 8 → ∀ b, b < 8 → a ≠ b → (TX1 a).2.1 ≠ (TX1 b).2.1 := by decide +kernel
theorem tyX1_ok : ∀ k, k < 8 → parseFieldDescriptor (TX1 k).2.2.1 = some (tyX1 k) := by decide +kernel
abbrev cX1_init : ByteArray := prog_3_method_1_code
def yX1_init : MethodName := ⟨RX1, "<init>", "()V"⟩
abbrev cX1_readThrusters : ByteArray := prog_3_method_2_code
def yX1_readThrusters : MethodName := ⟨RX1, "readThrusters", "(LThrusterSelector$State;)V"⟩
abbrev cX1_determinantOf : ByteArray := prog_3_method_3_code
def yX1_determinantOf : MethodName := ⟨RX1, "determinantOf", "(III)J"⟩
abbrev cX1_find : ByteArray := prog_3_method_4_code
def yX1_find : MethodName := ⟨RX1, "find", "(LThrusterSelector$State;III)V"⟩
abbrev cX1_clear : ByteArray := prog_3_method_5_code
def yX1_clear : MethodName := ⟨RX1, "clear", "()V"⟩
abbrev cX1_consider : ByteArray := prog_3_method_6_code
def yX1_consider : MethodName := ⟨RX1, "consider", "(LThrusterSelector$State;III)V"⟩
abbrev cX1_isPossible : ByteArray := prog_3_method_7_code
def yX1_isPossible : MethodName := ⟨RX1, "isPossible", "(JJ)Z"⟩
abbrev cX1_bitIf : ByteArray := prog_3_method_8_code
def yX1_bitIf : MethodName := ⟨RX1, "bitIf", "(ZI)I"⟩
abbrev cX1_isBetter : ByteArray := prog_3_method_9_code
def yX1_isBetter : MethodName := ⟨RX1, "isBetter", "(JJI)Z"⟩
abbrev cX1_pulseOf : ByteArray := prog_3_method_10_code
def yX1_pulseOf : MethodName := ⟨RX1, "pulseOf", "(II)I"⟩
abbrev cX1_thousandths : ByteArray := prog_3_method_11_code
def yX1_thousandths : MethodName := ⟨RX1, "thousandths", "()I"⟩
def RX2 : String := "ThrusterSelector$State"
def TX2 : u_T := fun k => match k with
  | 0 => ("ThrusterSelector$State", "properties", "[I", true)
  | 1 => ("ThrusterSelector$State", "pulses", "[I", true)
  | 2 => ("ThrusterSelector$State", "tanks", "[I", true)
  | 3 => ("ThrusterSelector$State", "sets", "[I", true)
  | 4 => ("ThrusterSelector$State", "queue", "[I", true)
  | 5 => ("ThrusterSelector$State", "impulses", "[I", true)
  | 6 => ("ThrusterSelector$State", "sums", "[J", true)
  | 7 => ("ThrusterSelector$State", "thrusterCount", "I", false)
  | 8 => ("ThrusterSelector$State", "setCount", "I", false)
  | 9 => ("ThrusterSelector$State", "requestCount", "I", false)
  | 10 => ("ThrusterSelector$State", "cycleNumber", "I", false)
  | _ => ("ThrusterSelector$State", "soundMask", "I", false)
def tyX2 : Nat → FieldType := fun k => match k with
  | 0 => .array .int
  | 1 => .array .int
  | 2 => .array .int
  | 3 => .array .int
  | 4 => .array .int
  | 5 => .array .int
  | 6 => .array .long
  | 7 => .int
  | 8 => .int
  | 9 => .int
  | 10 => .int
  | _ => .int
theorem nmX2 : ∀ a, a < 12 → ∀ b, b < 12 → a ≠ b → (TX2 a).2.1 ≠ (TX2 b).2.1 := by decide +kernel
theorem tyX2_ok : ∀ k, k < 12 → parseFieldDescriptor (TX2 k).2.2.1 = some (tyX2 k) := by decide +kernel
abbrev cX2_init : ByteArray := prog_4_method_1_code
def yX2_init : MethodName := ⟨RX2, "<init>", "()V"⟩
abbrev cX2_copyFrom : ByteArray := prog_4_method_2_code
def yX2_copyFrom : MethodName := ⟨RX2, "copyFrom", "(LThrusterSelector$State;)V"⟩
abbrev cX2_property : ByteArray := prog_4_method_3_code
def yX2_property : MethodName := ⟨RX2, "property", "(II)I"⟩
abbrev cX2_setProperty : ByteArray := prog_4_method_4_code
def yX2_setProperty : MethodName := ⟨RX2, "setProperty", "(III)V"⟩
abbrev cX2_impulsePart : ByteArray := prog_4_method_5_code
def yX2_impulsePart : MethodName := ⟨RX2, "impulsePart", "(II)I"⟩
abbrev cX2_appendThruster : ByteArray := prog_4_method_6_code
def yX2_appendThruster : MethodName := ⟨RX2, "appendThruster", "(IIIIII)I"⟩
abbrev cX2_unitPart : ByteArray := prog_4_method_7_code
def yX2_unitPart : MethodName := ⟨RX2, "unitPart", "(II)I"⟩
abbrev cX2_fuelOf : ByteArray := prog_4_method_8_code
def yX2_fuelOf : MethodName := ⟨RX2, "fuelOf", "(I)I"⟩
abbrev cX2_isUsable : ByteArray := prog_4_method_9_code
def yX2_isUsable : MethodName := ⟨RX2, "isUsable", "(I)Z"⟩
abbrev cX2_isRunning : ByteArray := prog_4_method_10_code
def yX2_isRunning : MethodName := ⟨RX2, "isRunning", "(I)Z"⟩
abbrev cX2_runningMask : ByteArray := prog_4_method_11_code
def yX2_runningMask : MethodName := ⟨RX2, "runningMask", "()I"⟩
abbrev cX2_priceOfTick : ByteArray := prog_4_method_12_code
def yX2_priceOfTick : MethodName := ⟨RX2, "priceOfTick", "(I)I"⟩
abbrev cX2_placeOfSet : ByteArray := prog_4_method_13_code
def yX2_placeOfSet : MethodName := ⟨RX2, "placeOfSet", "(I)I"⟩
abbrev cX2_appendSet : ByteArray := prog_4_method_14_code
def yX2_appendSet : MethodName := ⟨RX2, "appendSet", "(I)I"⟩
abbrev cX2_removeSet : ByteArray := prog_4_method_15_code
def yX2_removeSet : MethodName := ⟨RX2, "removeSet", "(I)I"⟩
abbrev cX2_forbids : ByteArray := prog_4_method_16_code
def yX2_forbids : MethodName := ⟨RX2, "forbids", "(I)Z"⟩
abbrev cX2_insertRequest : ByteArray := prog_4_method_17_code
def yX2_insertRequest : MethodName := ⟨RX2, "insertRequest", "(IIIZ)V"⟩
abbrev cX2_removeRequest : ByteArray := prog_4_method_18_code
def yX2_removeRequest : MethodName := ⟨RX2, "removeRequest", "(I)V"⟩
abbrev cX2_takeTarget : ByteArray := prog_4_method_19_code
def yX2_takeTarget : MethodName := ⟨RX2, "takeTarget", "(I)V"⟩
abbrev cX2_ranTicks : ByteArray := prog_4_method_20_code
def yX2_ranTicks : MethodName := ⟨RX2, "ranTicks", "(II)I"⟩
abbrev cX2_setPulses : ByteArray := prog_4_method_21_code
def yX2_setPulses : MethodName := ⟨RX2, "setPulses", "(LThrusterSelector$Selection;)I"⟩
abbrev cX2_deliver : ByteArray := prog_4_method_22_code
def yX2_deliver : MethodName := ⟨RX2, "deliver", "(I)V"⟩
abbrev cX2_burn : ByteArray := prog_4_method_23_code
def yX2_burn : MethodName := ⟨RX2, "burn", "(I)V"⟩
abbrev cX2_wasSound : ByteArray := prog_4_method_24_code
def yX2_wasSound : MethodName := ⟨RX2, "wasSound", "(I)Z"⟩
abbrev cX2_isImpulse : ByteArray := prog_4_method_25_code
def yX2_isImpulse : MethodName := ⟨RX2, "isImpulse", "(IIIII)Z"⟩
abbrev cX2_firstSilent : ByteArray := prog_4_method_26_code
def yX2_firstSilent : MethodName := ⟨RX2, "firstSilent", "(III)I"⟩
abbrev cX2_firstSteady : ByteArray := prog_4_method_27_code
def yX2_firstSteady : MethodName := ⟨RX2, "firstSteady", "(III)I"⟩
def RX3 : String := "ThrusterSelector$Text"
def TX3 : u_T := fun k => match k with
  | 0 => ("ThrusterSelector$Text", "bytes", "[I", true)
  | 1 => ("ThrusterSelector$Text", "parts", "[I", true)
  | 2 => ("ThrusterSelector$Text", "urgent", "[Z", true)
  | 3 => ("ThrusterSelector$Text", "length", "I", false)
  | 4 => ("ThrusterSelector$Text", "readCount", "I", false)
  | 5 => ("ThrusterSelector$Text", "at", "I", false)
  | _ => ("ThrusterSelector$Text", "fault", "I", false)
def tyX3 : Nat → FieldType := fun k => match k with
  | 0 => .array .int
  | 1 => .array .int
  | 2 => .array .boolean
  | 3 => .int
  | 4 => .int
  | 5 => .int
  | _ => .int
theorem nmX3 : ∀ a, a < 7 → ∀ b, b < 7 → a ≠ b → (TX3 a).2.1 ≠ (TX3 b).2.1 := by decide +kernel
theorem tyX3_ok : ∀ k, k < 7 → parseFieldDescriptor (TX3 k).2.2.1 = some (tyX3 k) := by decide +kernel
abbrev cX3_init : ByteArray := prog_5_method_1_code
def yX3_init : MethodName := ⟨RX3, "<init>", "()V"⟩
abbrev cX3_read : ByteArray := prog_5_method_3_code
def yX3_read : MethodName := ⟨RX3, "read", "(I)I"⟩
abbrev cX3_readRequest : ByteArray := prog_5_method_4_code
def yX3_readRequest : MethodName := ⟨RX3, "readRequest", "(I)V"⟩
abbrev cX3_readSigned : ByteArray := prog_5_method_5_code
def yX3_readSigned : MethodName := ⟨RX3, "readSigned", "()I"⟩
abbrev cX3_readNumber : ByteArray := prog_5_method_6_code
def yX3_readNumber : MethodName := ⟨RX3, "readNumber", "()I"⟩
abbrev cX3_isDigit : ByteArray := prog_5_method_7_code
def yX3_isDigit : MethodName := ⟨RX3, "isDigit", "(I)Z"⟩
abbrev cX3_accept : ByteArray := prog_5_method_8_code
def yX3_accept : MethodName := ⟨RX3, "accept", "(C)Z"⟩
abbrev cX3_skipBlanks : ByteArray := prog_5_method_9_code
def yX3_skipBlanks : MethodName := ⟨RX3, "skipBlanks", "()V"⟩
def RX4 : String := "ThrusterSelector"
def TX4 : u_T := fun k => match k with
  | 0 => ("ThrusterSelector", "state", "LThrusterSelector$State;", true)
  | 1 => ("ThrusterSelector", "history", "LThrusterSelector$History;", true)
  | 2 => ("ThrusterSelector", "selection", "LThrusterSelector$Selection;", true)
  | _ => ("ThrusterSelector", "text", "LThrusterSelector$Text;", true)
def tyX4 : Nat → FieldType := fun k => match k with
  | 0 => .object "ThrusterSelector$State"
  | 1 => .object "ThrusterSelector$History"
  | 2 => .object "ThrusterSelector$Selection"
  | _ => .object "ThrusterSelector$Text"
theorem nmX4 : ∀ a, a < 4 → ∀ b, b < 4 → a ≠ b → (TX4 a).2.1 ≠ (TX4 b).2.1 := by decide +kernel
theorem tyX4_ok : ∀ k, k < 4 → parseFieldDescriptor (TX4 k).2.2.1 = some (tyX4 k) := by decide +kernel
abbrev cX4_init : ByteArray := prog_1_method_1_code
def yX4_init : MethodName := ⟨RX4, "<init>", "()V"⟩
abbrev cX4_addThruster : ByteArray := prog_1_method_2_code
def yX4_addThruster : MethodName := ⟨RX4, "addThruster", "(IIIIII)I"⟩
abbrev cX4_setState : ByteArray := prog_1_method_3_code
def yX4_setState : MethodName := ⟨RX4, "setState", "(II)I"⟩
abbrev cX4_thrusters : ByteArray := prog_1_method_4_code
def yX4_thrusters : MethodName := ⟨RX4, "thrusters", "()I"⟩
abbrev cX4_thruster : ByteArray := prog_1_method_5_code
def yX4_thruster : MethodName := ⟨RX4, "thruster", "(II)I"⟩
abbrev cX4_unit : ByteArray := prog_1_method_6_code
def yX4_unit : MethodName := ⟨RX4, "unit", "(II)I"⟩
abbrev cX4_determinant : ByteArray := prog_1_method_7_code
def yX4_determinant : MethodName := ⟨RX4, "determinant", "(III)I"⟩
abbrev cX4_refuel : ByteArray := prog_1_method_8_code
def yX4_refuel : MethodName := ⟨RX4, "refuel", "(II)I"⟩
abbrev cX4_fuel : ByteArray := prog_1_method_9_code
def yX4_fuel : MethodName := ⟨RX4, "fuel", "(I)I"⟩
abbrev cX4_forbid : ByteArray := prog_1_method_10_code
def yX4_forbid : MethodName := ⟨RX4, "forbid", "(I)I"⟩
abbrev cX4_allow : ByteArray := prog_1_method_11_code
def yX4_allow : MethodName := ⟨RX4, "allow", "(I)I"⟩
abbrev cX4_isForbidden : ByteArray := prog_1_method_12_code
def yX4_isForbidden : MethodName := ⟨RX4, "isForbidden", "(I)I"⟩
abbrev cX4_select : ByteArray := prog_1_method_13_code
def yX4_select : MethodName := ⟨RX4, "select", "(III)I"⟩
abbrev cX4_pulse : ByteArray := prog_1_method_14_code
def yX4_pulse : MethodName := ⟨RX4, "pulse", "(IIII)I"⟩
abbrev cX4_price : ByteArray := prog_1_method_15_code
def yX4_price : MethodName := ⟨RX4, "price", "(III)I"⟩
abbrev cX4_request : ByteArray := prog_1_method_16_code
def yX4_request : MethodName := ⟨RX4, "request", "(III)I"⟩
abbrev cX4_urge : ByteArray := prog_1_method_17_code
def yX4_urge : MethodName := ⟨RX4, "urge", "(III)I"⟩
abbrev cX4_cancel : ByteArray := prog_1_method_18_code
def yX4_cancel : MethodName := ⟨RX4, "cancel", "(I)I"⟩
abbrev cX4_queued : ByteArray := prog_1_method_19_code
def yX4_queued : MethodName := ⟨RX4, "queued", "()I"⟩
abbrev cX4_requested : ByteArray := prog_1_method_20_code
def yX4_requested : MethodName := ⟨RX4, "requested", "(II)I"⟩
abbrev cX4_cycle : ByteArray := prog_1_method_21_code
def yX4_cycle : MethodName := ⟨RX4, "cycle", "()I"⟩
abbrev cX4_cycles : ByteArray := prog_1_method_22_code
def yX4_cycles : MethodName := ⟨RX4, "cycles", "(I)I"⟩
abbrev cX4_cycleCount : ByteArray := prog_1_method_23_code
def yX4_cycleCount : MethodName := ⟨RX4, "cycleCount", "()I"⟩
abbrev cX4_fired : ByteArray := prog_1_method_24_code
def yX4_fired : MethodName := ⟨RX4, "fired", "(I)I"⟩
abbrev cX4_impulse : ByteArray := prog_1_method_25_code
def yX4_impulse : MethodName := ⟨RX4, "impulse", "(II)I"⟩
abbrev cX4_total : ByteArray := prog_1_method_26_code
def yX4_total : MethodName := ⟨RX4, "total", "(I)J"⟩
abbrev cX4_suspect : ByteArray := prog_1_method_27_code
def yX4_suspect : MethodName := ⟨RX4, "suspect", "(III)I"⟩
abbrev cX4_undo : ByteArray := prog_1_method_28_code
def yX4_undo : MethodName := ⟨RX4, "undo", "()I"⟩
abbrev cX4_load : ByteArray := prog_1_method_32_code
def yX4_load : MethodName := ⟨RX4, "load", "()I"⟩
abbrev cX4_digest : ByteArray := prog_1_method_33_code
def yX4_digest : MethodName := ⟨RX4, "digest", "()J"⟩
abbrev cX4_isWithin : ByteArray := prog_1_method_34_code
def yX4_isWithin : MethodName := ⟨RX4, "isWithin", "(III)Z"⟩
abbrev cX4_isAtMost : ByteArray := prog_1_method_35_code
def yX4_isAtMost : MethodName := ⟨RX4, "isAtMost", "(II)Z"⟩
abbrev cX4_areAtMost : ByteArray := prog_1_method_36_code
def yX4_areAtMost : MethodName := ⟨RX4, "areAtMost", "(IIII)Z"⟩
abbrev cX4_isTarget : ByteArray := prog_1_method_37_code
def yX4_isTarget : MethodName := ⟨RX4, "isTarget", "(III)Z"⟩
abbrev cX4_isTank : ByteArray := prog_1_method_38_code
def yX4_isTank : MethodName := ⟨RX4, "isTank", "(I)Z"⟩
abbrev cX4_isPart : ByteArray := prog_1_method_39_code
def yX4_isPart : MethodName := ⟨RX4, "isPart", "(I)Z"⟩
abbrev cX4_isThruster : ByteArray := prog_1_method_40_code
def yX4_isThruster : MethodName := ⟨RX4, "isThruster", "(I)Z"⟩
abbrev cX4_isPlace : ByteArray := prog_1_method_41_code
def yX4_isPlace : MethodName := ⟨RX4, "isPlace", "(I)Z"⟩
abbrev cX4_putRequest : ByteArray := prog_1_method_42_code
def yX4_putRequest : MethodName := ⟨RX4, "putRequest", "(IIIZ)I"⟩
abbrev cX4_runCycle : ByteArray := prog_1_method_43_code
def yX4_runCycle : MethodName := ⟨RX4, "runCycle", "()I"⟩
def RJ6 : String := "java/lang/Integer"
def TJ6 : u_T := fun k => match k with
  | _ => ("", "", "", false)
def tyJ6 : Nat → FieldType := fun k => match k with
  | _ => .int
theorem nmJ6 : ∀ a, a < 0 → ∀ b, b < 0 → a ≠ b → (TJ6 a).2.1 ≠ (TJ6 b).2.1 := by decide +kernel
theorem tyJ6_ok : ∀ k, k < 0 → parseFieldDescriptor (TJ6 k).2.2.1 = some (tyJ6 k) := by decide +kernel
abbrev cJ6_bitCount_0f7a4 : ByteArray := prog_8_method_49_code
def yJ6_bitCount_0f7a4 : MethodName := ⟨RJ6, "bitCount", "(I)I"⟩
def RJ9 : String := "java/lang/Math"
def TJ9 : u_T := fun k => match k with
  | _ => ("", "", "", false)
def tyJ9 : Nat → FieldType := fun k => match k with
  | _ => .int
theorem nmJ9 : ∀ a, a < 0 → ∀ b, b < 0 → a ≠ b → (TJ9 a).2.1 ≠ (TJ9 b).2.1 := by decide +kernel
theorem tyJ9_ok : ∀ k, k < 0 → parseFieldDescriptor (TJ9 k).2.2.1 = some (tyJ9 k) := by decide +kernel
abbrev cJ9_max_7cf53 : ByteArray := prog_9_method_65_code
def yJ9_max_7cf53 : MethodName := ⟨RJ9, "max", "(II)I"⟩
abbrev cJ9_min_7cf53 : ByteArray := prog_9_method_69_code
def yJ9_min_7cf53 : MethodName := ⟨RJ9, "min", "(II)I"⟩
def RJ10 : String := "java/lang/System"
def TJ10 : u_T := fun k => match k with
  | _ => ("", "", "", false)
def tyJ10 : Nat → FieldType := fun k => match k with
  | _ => .int
theorem nmJ10 : ∀ a, a < 0 → ∀ b, b < 0 → a ≠ b → (TJ10 a).2.1 ≠ (TJ10 b).2.1 := by decide +kernel
theorem tyJ10_ok : ∀ k, k < 0 → parseFieldDescriptor (TJ10 k).2.2.1 = some (tyJ10 k) := by decide +kernel
def RJ7 : String := "java/util/Arrays"
def TJ7 : u_T := fun k => match k with
  | _ => ("", "", "", false)
def tyJ7 : Nat → FieldType := fun k => match k with
  | _ => .int
theorem nmJ7 : ∀ a, a < 0 → ∀ b, b < 0 → a ≠ b → (TJ7 a).2.1 ≠ (TJ7 b).2.1 := by decide +kernel
theorem tyJ7_ok : ∀ k, k < 0 → parseFieldDescriptor (TJ7 k).2.2.1 = some (tyJ7 k) := by decide +kernel
abbrev cJ7_fill_d0a16 : ByteArray := prog_11_method_101_code
def yJ7_fill_d0a16 : MethodName := ⟨RJ7, "fill", "([JJ)V"⟩
abbrev cJ7_fill_53178 : ByteArray := prog_11_method_103_code
def yJ7_fill_53178 : MethodName := ⟨RJ7, "fill", "([II)V"⟩
def RL : String := "ThrusterSelectorLaw"
abbrev cL_cell : ByteArray := method_2_code
def yL_cell : MethodName := ⟨RL, "cell", "([II)I"⟩
abbrev cL_low : ByteArray := method_3_code
def yL_low : MethodName := ⟨RL, "low", "(II)I"⟩
abbrev cL_bits : ByteArray := method_4_code
def yL_bits : MethodName := ⟨RL, "bits", "(I)I"⟩
abbrev cL_isSelectionSound : ByteArray := method_5_code
def yL_isSelectionSound : MethodName := ⟨RL, "isSelectionSound", "(LThrusterSelector;III)Z"⟩
abbrev cL_isEnd : ByteArray := method_6_code
def yL_isEnd : MethodName := ⟨RL, "isEnd", "(I)Z"⟩
abbrev cL_isCycleSound : ByteArray := method_7_code
def yL_isCycleSound : MethodName := ⟨RL, "isCycleSound", "(LThrusterSelector;)Z"⟩
abbrev cL_changes : ByteArray := method_8_code
def yL_changes : MethodName := ⟨RL, "changes", "(LThrusterSelector;I)I"⟩
abbrev cL_law : ByteArray := code
def yL_law : MethodName := ⟨RL, "law", "([I)Z"⟩
theorem dX0_init_0 : decode cX0_init 0 = .ok (.aload_n 0, 1) := by decide +kernel
theorem dX0_init_1 : decode cX0_init 1 = .ok (.invokespecial 3, 3) := by decide +kernel
theorem dX0_init_4 : decode cX0_init 4 = .ok (.aload_n 0, 1) := by decide +kernel
theorem dX0_init_5 : decode cX0_init 5 = .ok (.iconst 5, 1) := by decide +kernel
theorem dX0_init_6 : decode cX0_init 6 = .ok (.anewarray 9, 3) := by decide +kernel
theorem dX0_init_9 : decode cX0_init 9 = .ok (.putfield 11, 3) := by decide +kernel
theorem dX0_init_12 : decode cX0_init 12 = .ok (.iconst 0, 1) := by decide +kernel
theorem dX0_init_13 : decode cX0_init 13 = .ok (.istore_n 1, 1) := by decide +kernel
theorem dX0_init_14 : decode cX0_init 14 = .ok (.iload_n 1, 1) := by decide +kernel
theorem dX0_init_15 : decode cX0_init 15 = .ok (.iconst 5, 1) := by decide +kernel
theorem dX0_init_16 : decode cX0_init 16 = .ok (.if_icmp .ge 22, 3) := by decide +kernel
theorem dX0_init_19 : decode cX0_init 19 = .ok (.aload_n 0, 1) := by decide +kernel
theorem dX0_init_20 : decode cX0_init 20 = .ok (.getfield 11, 3) := by decide +kernel
theorem dX0_init_23 : decode cX0_init 23 = .ok (.iload_n 1, 1) := by decide +kernel
theorem dX0_init_24 : decode cX0_init 24 = .ok (.new 9, 3) := by decide +kernel
theorem dX0_init_27 : decode cX0_init 27 = .ok (.dup, 1) := by decide +kernel
theorem dX0_init_28 : decode cX0_init 28 = .ok (.invokespecial 17, 3) := by decide +kernel
theorem dX0_init_31 : decode cX0_init 31 = .ok (.aastore, 1) := by decide +kernel
theorem dX0_init_32 : decode cX0_init 32 = .ok (.iinc 1 1, 3) := by decide +kernel
theorem dX0_init_35 : decode cX0_init 35 = .ok (.goto (-21), 3) := by decide +kernel
theorem dX0_init_38 : decode cX0_init 38 = .ok (.return_, 1) := by decide +kernel
theorem dX0_keep_0 : decode cX0_keep 0 = .ok (.aload_n 0, 1) := by decide +kernel
theorem dX0_keep_1 : decode cX0_keep 1 = .ok (.getfield 11, 3) := by decide +kernel
theorem dX0_keep_4 : decode cX0_keep 4 = .ok (.aload_n 0, 1) := by decide +kernel
theorem dX0_keep_5 : decode cX0_keep 5 = .ok (.getfield 18, 3) := by decide +kernel
theorem dX0_keep_8 : decode cX0_keep 8 = .ok (.aload_n 0, 1) := by decide +kernel
theorem dX0_keep_9 : decode cX0_keep 9 = .ok (.getfield 22, 3) := by decide +kernel
theorem dX0_keep_12 : decode cX0_keep 12 = .ok (.iadd, 1) := by decide +kernel
theorem dX0_keep_13 : decode cX0_keep 13 = .ok (.iconst 5, 1) := by decide +kernel
theorem dX0_keep_14 : decode cX0_keep 14 = .ok (.irem, 1) := by decide +kernel
theorem dX0_keep_15 : decode cX0_keep 15 = .ok (.aaload, 1) := by decide +kernel
theorem dX0_keep_16 : decode cX0_keep 16 = .ok (.aload_n 1, 1) := by decide +kernel
theorem dX0_keep_17 : decode cX0_keep 17 = .ok (.invokevirtual 25, 3) := by decide +kernel
theorem dX0_keep_20 : decode cX0_keep 20 = .ok (.aload_n 0, 1) := by decide +kernel
theorem dX0_keep_21 : decode cX0_keep 21 = .ok (.getfield 22, 3) := by decide +kernel
theorem dX0_keep_24 : decode cX0_keep 24 = .ok (.iconst 5, 1) := by decide +kernel
theorem dX0_keep_25 : decode cX0_keep 25 = .ok (.if_icmp .ge 16, 3) := by decide +kernel
theorem dX0_keep_28 : decode cX0_keep 28 = .ok (.aload_n 0, 1) := by decide +kernel
theorem dX0_keep_29 : decode cX0_keep 29 = .ok (.dup, 1) := by decide +kernel
theorem dX0_keep_30 : decode cX0_keep 30 = .ok (.getfield 22, 3) := by decide +kernel
theorem dX0_keep_33 : decode cX0_keep 33 = .ok (.iconst 1, 1) := by decide +kernel
theorem dX0_keep_34 : decode cX0_keep 34 = .ok (.iadd, 1) := by decide +kernel
theorem dX0_keep_35 : decode cX0_keep 35 = .ok (.putfield 22, 3) := by decide +kernel
theorem dX0_keep_38 : decode cX0_keep 38 = .ok (.goto 15, 3) := by decide +kernel
theorem dX0_keep_41 : decode cX0_keep 41 = .ok (.aload_n 0, 1) := by decide +kernel
theorem dX0_keep_42 : decode cX0_keep 42 = .ok (.aload_n 0, 1) := by decide +kernel
theorem dX0_keep_43 : decode cX0_keep 43 = .ok (.getfield 18, 3) := by decide +kernel
theorem dX0_keep_46 : decode cX0_keep 46 = .ok (.iconst 1, 1) := by decide +kernel
theorem dX0_keep_47 : decode cX0_keep 47 = .ok (.iadd, 1) := by decide +kernel
theorem dX0_keep_48 : decode cX0_keep 48 = .ok (.iconst 5, 1) := by decide +kernel
theorem dX0_keep_49 : decode cX0_keep 49 = .ok (.irem, 1) := by decide +kernel
theorem dX0_keep_50 : decode cX0_keep 50 = .ok (.putfield 18, 3) := by decide +kernel
theorem dX0_keep_53 : decode cX0_keep 53 = .ok (.return_, 1) := by decide +kernel
theorem dX0_restore_0 : decode cX0_restore 0 = .ok (.aload_n 0, 1) := by decide +kernel
theorem dX0_restore_1 : decode cX0_restore 1 = .ok (.getfield 22, 3) := by decide +kernel
theorem dX0_restore_4 : decode cX0_restore 4 = .ok (.ifCond .le 33, 3) := by decide +kernel
theorem dX0_restore_7 : decode cX0_restore 7 = .ok (.aload_n 0, 1) := by decide +kernel
theorem dX0_restore_8 : decode cX0_restore 8 = .ok (.dup, 1) := by decide +kernel
theorem dX0_restore_9 : decode cX0_restore 9 = .ok (.getfield 22, 3) := by decide +kernel
theorem dX0_restore_12 : decode cX0_restore 12 = .ok (.iconst 1, 1) := by decide +kernel
theorem dX0_restore_13 : decode cX0_restore 13 = .ok (.isub, 1) := by decide +kernel
theorem dX0_restore_14 : decode cX0_restore 14 = .ok (.putfield 22, 3) := by decide +kernel
theorem dX0_restore_17 : decode cX0_restore 17 = .ok (.aload_n 1, 1) := by decide +kernel
theorem dX0_restore_18 : decode cX0_restore 18 = .ok (.aload_n 0, 1) := by decide +kernel
theorem dX0_restore_19 : decode cX0_restore 19 = .ok (.getfield 11, 3) := by decide +kernel
theorem dX0_restore_22 : decode cX0_restore 22 = .ok (.aload_n 0, 1) := by decide +kernel
theorem dX0_restore_23 : decode cX0_restore 23 = .ok (.getfield 18, 3) := by decide +kernel
theorem dX0_restore_26 : decode cX0_restore 26 = .ok (.aload_n 0, 1) := by decide +kernel
theorem dX0_restore_27 : decode cX0_restore 27 = .ok (.getfield 22, 3) := by decide +kernel
theorem dX0_restore_30 : decode cX0_restore 30 = .ok (.iadd, 1) := by decide +kernel
theorem dX0_restore_31 : decode cX0_restore 31 = .ok (.iconst 5, 1) := by decide +kernel
theorem dX0_restore_32 : decode cX0_restore 32 = .ok (.irem, 1) := by decide +kernel
theorem dX0_restore_33 : decode cX0_restore 33 = .ok (.aaload, 1) := by decide +kernel
theorem dX0_restore_34 : decode cX0_restore 34 = .ok (.invokevirtual 25, 3) := by decide +kernel
theorem dX0_restore_37 : decode cX0_restore 37 = .ok (.return_, 1) := by decide +kernel
theorem dX1_init_0 : decode cX1_init 0 = .ok (.aload_n 0, 1) := by decide +kernel
theorem dX1_init_1 : decode cX1_init 1 = .ok (.invokespecial 3, 3) := by decide +kernel
theorem dX1_init_4 : decode cX1_init 4 = .ok (.aload_n 0, 1) := by decide +kernel
theorem dX1_init_5 : decode cX1_init 5 = .ok (.bipush 9, 2) := by decide +kernel
theorem dX1_init_7 : decode cX1_init 7 = .ok (.iconst 3, 1) := by decide +kernel
theorem dX1_init_8 : decode cX1_init 8 = .ok (.multianewarray 9 2, 4) := by decide +kernel
theorem dX1_init_12 : decode cX1_init 12 = .ok (.putfield 11, 3) := by decide +kernel
theorem dX1_init_15 : decode cX1_init 15 = .ok (.aload_n 0, 1) := by decide +kernel
theorem dX1_init_16 : decode cX1_init 16 = .ok (.bipush 8, 2) := by decide +kernel
theorem dX1_init_18 : decode cX1_init 18 = .ok (.newarray .int, 2) := by decide +kernel
theorem dX1_init_20 : decode cX1_init 20 = .ok (.putfield 16, 3) := by decide +kernel
theorem dX1_init_23 : decode cX1_init 23 = .ok (.aload_n 0, 1) := by decide +kernel
theorem dX1_init_24 : decode cX1_init 24 = .ok (.bipush 8, 2) := by decide +kernel
theorem dX1_init_26 : decode cX1_init 26 = .ok (.newarray .long, 2) := by decide +kernel
theorem dX1_init_28 : decode cX1_init 28 = .ok (.putfield 20, 3) := by decide +kernel
theorem dX1_init_31 : decode cX1_init 31 = .ok (.aload_n 0, 1) := by decide +kernel
theorem dX1_init_32 : decode cX1_init 32 = .ok (.lconst 1, 1) := by decide +kernel
theorem dX1_init_33 : decode cX1_init 33 = .ok (.putfield 24, 3) := by decide +kernel
theorem dX1_init_36 : decode cX1_init 36 = .ok (.return_, 1) := by decide +kernel
theorem dX1_readThrusters_0 : decode cX1_readThrusters 0 = .ok (.aload_n 0, 1) := by decide +kernel
theorem dX1_readThrusters_1 : decode cX1_readThrusters 1 = .ok (.aload_n 1, 1) := by decide +kernel
theorem dX1_readThrusters_2 : decode cX1_readThrusters 2 = .ok (.invokevirtual 28, 3) := by decide +kernel
theorem dX1_readThrusters_5 : decode cX1_readThrusters 5 = .ok (.putfield 34, 3) := by decide +kernel
theorem dX1_readThrusters_8 : decode cX1_readThrusters 8 = .ok (.iconst 0, 1) := by decide +kernel
theorem dX1_readThrusters_9 : decode cX1_readThrusters 9 = .ok (.istore_n 2, 1) := by decide +kernel
theorem dX1_readThrusters_10 : decode cX1_readThrusters 10 = .ok (.iload_n 2, 1) := by decide +kernel
theorem dX1_readThrusters_11 : decode cX1_readThrusters 11 = .ok (.aload_n 1, 1) := by decide +kernel
theorem dX1_readThrusters_12 : decode cX1_readThrusters 12 = .ok (.getfield 38, 3) := by decide +kernel
theorem dX1_readThrusters_15 : decode cX1_readThrusters 15 = .ok (.if_icmp .ge 47, 3) := by decide +kernel
theorem dX1_readThrusters_18 : decode cX1_readThrusters 18 = .ok (.aload_n 0, 1) := by decide +kernel
theorem dX1_readThrusters_19 : decode cX1_readThrusters 19 = .ok (.getfield 16, 3) := by decide +kernel
theorem dX1_readThrusters_22 : decode cX1_readThrusters 22 = .ok (.iload_n 2, 1) := by decide +kernel
theorem dX1_readThrusters_23 : decode cX1_readThrusters 23 = .ok (.aload_n 1, 1) := by decide +kernel
theorem dX1_readThrusters_24 : decode cX1_readThrusters 24 = .ok (.iload_n 2, 1) := by decide +kernel
theorem dX1_readThrusters_25 : decode cX1_readThrusters 25 = .ok (.invokevirtual 41, 3) := by decide +kernel
theorem dX1_readThrusters_28 : decode cX1_readThrusters 28 = .ok (.iastore, 1) := by decide +kernel
theorem dX1_readThrusters_29 : decode cX1_readThrusters 29 = .ok (.iconst 0, 1) := by decide +kernel
theorem dX1_readThrusters_30 : decode cX1_readThrusters 30 = .ok (.istore_n 3, 1) := by decide +kernel
theorem dX1_readThrusters_31 : decode cX1_readThrusters 31 = .ok (.iload_n 3, 1) := by decide +kernel
theorem dX1_readThrusters_32 : decode cX1_readThrusters 32 = .ok (.iconst 3, 1) := by decide +kernel
theorem dX1_readThrusters_33 : decode cX1_readThrusters 33 = .ok (.if_icmp .ge 23, 3) := by decide +kernel
theorem dX1_readThrusters_36 : decode cX1_readThrusters 36 = .ok (.aload_n 0, 1) := by decide +kernel
theorem dX1_readThrusters_37 : decode cX1_readThrusters 37 = .ok (.getfield 11, 3) := by decide +kernel
theorem dX1_readThrusters_40 : decode cX1_readThrusters 40 = .ok (.iload_n 2, 1) := by decide +kernel
theorem dX1_readThrusters_41 : decode cX1_readThrusters 41 = .ok (.aaload, 1) := by decide +kernel
theorem dX1_readThrusters_42 : decode cX1_readThrusters 42 = .ok (.iload_n 3, 1) := by decide +kernel
theorem dX1_readThrusters_43 : decode cX1_readThrusters 43 = .ok (.aload_n 1, 1) := by decide +kernel
theorem dX1_readThrusters_44 : decode cX1_readThrusters 44 = .ok (.iload_n 2, 1) := by decide +kernel
theorem dX1_readThrusters_45 : decode cX1_readThrusters 45 = .ok (.iload_n 3, 1) := by decide +kernel
theorem dX1_readThrusters_46 : decode cX1_readThrusters 46 = .ok (.invokevirtual 45, 3) := by decide +kernel
theorem dX1_readThrusters_49 : decode cX1_readThrusters 49 = .ok (.iastore, 1) := by decide +kernel
theorem dX1_readThrusters_50 : decode cX1_readThrusters 50 = .ok (.iinc 3 1, 3) := by decide +kernel
theorem dX1_readThrusters_53 : decode cX1_readThrusters 53 = .ok (.goto (-22), 3) := by decide +kernel
theorem dX1_readThrusters_56 : decode cX1_readThrusters 56 = .ok (.iinc 2 1, 3) := by decide +kernel
theorem dX1_readThrusters_59 : decode cX1_readThrusters 59 = .ok (.goto (-49), 3) := by decide +kernel
theorem dX1_readThrusters_62 : decode cX1_readThrusters 62 = .ok (.return_, 1) := by decide +kernel
theorem dX1_determinantOf_0 : decode cX1_determinantOf 0 = .ok (.aload_n 0, 1) := by decide +kernel
theorem dX1_determinantOf_1 : decode cX1_determinantOf 1 = .ok (.getfield 11, 3) := by decide +kernel
theorem dX1_determinantOf_4 : decode cX1_determinantOf 4 = .ok (.iload_n 1, 1) := by decide +kernel
theorem dX1_determinantOf_5 : decode cX1_determinantOf 5 = .ok (.aaload, 1) := by decide +kernel
theorem dX1_determinantOf_6 : decode cX1_determinantOf 6 = .ok (.astore 4, 2) := by decide +kernel
theorem dX1_determinantOf_8 : decode cX1_determinantOf 8 = .ok (.aload_n 0, 1) := by decide +kernel
theorem dX1_determinantOf_9 : decode cX1_determinantOf 9 = .ok (.getfield 11, 3) := by decide +kernel
theorem dX1_determinantOf_12 : decode cX1_determinantOf 12 = .ok (.iload_n 2, 1) := by decide +kernel
theorem dX1_determinantOf_13 : decode cX1_determinantOf 13 = .ok (.aaload, 1) := by decide +kernel
theorem dX1_determinantOf_14 : decode cX1_determinantOf 14 = .ok (.astore 5, 2) := by decide +kernel
theorem dX1_determinantOf_16 : decode cX1_determinantOf 16 = .ok (.aload_n 0, 1) := by decide +kernel
theorem dX1_determinantOf_17 : decode cX1_determinantOf 17 = .ok (.getfield 11, 3) := by decide +kernel
theorem dX1_determinantOf_20 : decode cX1_determinantOf 20 = .ok (.iload_n 3, 1) := by decide +kernel
theorem dX1_determinantOf_21 : decode cX1_determinantOf 21 = .ok (.aaload, 1) := by decide +kernel
theorem dX1_determinantOf_22 : decode cX1_determinantOf 22 = .ok (.astore 6, 2) := by decide +kernel
theorem dX1_determinantOf_24 : decode cX1_determinantOf 24 = .ok (.aload 5, 2) := by decide +kernel
theorem dX1_determinantOf_26 : decode cX1_determinantOf 26 = .ok (.iconst 1, 1) := by decide +kernel
theorem dX1_determinantOf_27 : decode cX1_determinantOf 27 = .ok (.iaload, 1) := by decide +kernel
theorem dX1_determinantOf_28 : decode cX1_determinantOf 28 = .ok (.i2l, 1) := by decide +kernel
theorem dX1_determinantOf_29 : decode cX1_determinantOf 29 = .ok (.aload 6, 2) := by decide +kernel
theorem dX1_determinantOf_31 : decode cX1_determinantOf 31 = .ok (.iconst 2, 1) := by decide +kernel
theorem dX1_determinantOf_32 : decode cX1_determinantOf 32 = .ok (.iaload, 1) := by decide +kernel
theorem dX1_determinantOf_33 : decode cX1_determinantOf 33 = .ok (.i2l, 1) := by decide +kernel
theorem dX1_determinantOf_34 : decode cX1_determinantOf 34 = .ok (.lmul, 1) := by decide +kernel
theorem dX1_determinantOf_35 : decode cX1_determinantOf 35 = .ok (.aload 5, 2) := by decide +kernel
theorem dX1_determinantOf_37 : decode cX1_determinantOf 37 = .ok (.iconst 2, 1) := by decide +kernel
theorem dX1_determinantOf_38 : decode cX1_determinantOf 38 = .ok (.iaload, 1) := by decide +kernel
theorem dX1_determinantOf_39 : decode cX1_determinantOf 39 = .ok (.i2l, 1) := by decide +kernel
theorem dX1_determinantOf_40 : decode cX1_determinantOf 40 = .ok (.aload 6, 2) := by decide +kernel
theorem dX1_determinantOf_42 : decode cX1_determinantOf 42 = .ok (.iconst 1, 1) := by decide +kernel
theorem dX1_determinantOf_43 : decode cX1_determinantOf 43 = .ok (.iaload, 1) := by decide +kernel
theorem dX1_determinantOf_44 : decode cX1_determinantOf 44 = .ok (.i2l, 1) := by decide +kernel
theorem dX1_determinantOf_45 : decode cX1_determinantOf 45 = .ok (.lmul, 1) := by decide +kernel
theorem dX1_determinantOf_46 : decode cX1_determinantOf 46 = .ok (.lsub, 1) := by decide +kernel
theorem dX1_determinantOf_47 : decode cX1_determinantOf 47 = .ok (.lstore 7, 2) := by decide +kernel
theorem dX1_determinantOf_49 : decode cX1_determinantOf 49 = .ok (.aload 5, 2) := by decide +kernel
theorem dX1_determinantOf_51 : decode cX1_determinantOf 51 = .ok (.iconst 0, 1) := by decide +kernel
theorem dX1_determinantOf_52 : decode cX1_determinantOf 52 = .ok (.iaload, 1) := by decide +kernel
theorem dX1_determinantOf_53 : decode cX1_determinantOf 53 = .ok (.i2l, 1) := by decide +kernel
theorem dX1_determinantOf_54 : decode cX1_determinantOf 54 = .ok (.aload 6, 2) := by decide +kernel
theorem dX1_determinantOf_56 : decode cX1_determinantOf 56 = .ok (.iconst 2, 1) := by decide +kernel
theorem dX1_determinantOf_57 : decode cX1_determinantOf 57 = .ok (.iaload, 1) := by decide +kernel
theorem dX1_determinantOf_58 : decode cX1_determinantOf 58 = .ok (.i2l, 1) := by decide +kernel
theorem dX1_determinantOf_59 : decode cX1_determinantOf 59 = .ok (.lmul, 1) := by decide +kernel
theorem dX1_determinantOf_60 : decode cX1_determinantOf 60 = .ok (.aload 5, 2) := by decide +kernel
theorem dX1_determinantOf_62 : decode cX1_determinantOf 62 = .ok (.iconst 2, 1) := by decide +kernel
theorem dX1_determinantOf_63 : decode cX1_determinantOf 63 = .ok (.iaload, 1) := by decide +kernel
theorem dX1_determinantOf_64 : decode cX1_determinantOf 64 = .ok (.i2l, 1) := by decide +kernel
theorem dX1_determinantOf_65 : decode cX1_determinantOf 65 = .ok (.aload 6, 2) := by decide +kernel
theorem dX1_determinantOf_67 : decode cX1_determinantOf 67 = .ok (.iconst 0, 1) := by decide +kernel
theorem dX1_determinantOf_68 : decode cX1_determinantOf 68 = .ok (.iaload, 1) := by decide +kernel
theorem dX1_determinantOf_69 : decode cX1_determinantOf 69 = .ok (.i2l, 1) := by decide +kernel
theorem dX1_determinantOf_70 : decode cX1_determinantOf 70 = .ok (.lmul, 1) := by decide +kernel
theorem dX1_determinantOf_71 : decode cX1_determinantOf 71 = .ok (.lsub, 1) := by decide +kernel
theorem dX1_determinantOf_72 : decode cX1_determinantOf 72 = .ok (.lstore 9, 2) := by decide +kernel
theorem dX1_determinantOf_74 : decode cX1_determinantOf 74 = .ok (.aload 5, 2) := by decide +kernel
theorem dX1_determinantOf_76 : decode cX1_determinantOf 76 = .ok (.iconst 0, 1) := by decide +kernel
theorem dX1_determinantOf_77 : decode cX1_determinantOf 77 = .ok (.iaload, 1) := by decide +kernel
theorem dX1_determinantOf_78 : decode cX1_determinantOf 78 = .ok (.i2l, 1) := by decide +kernel
theorem dX1_determinantOf_79 : decode cX1_determinantOf 79 = .ok (.aload 6, 2) := by decide +kernel
theorem dX1_determinantOf_81 : decode cX1_determinantOf 81 = .ok (.iconst 1, 1) := by decide +kernel
theorem dX1_determinantOf_82 : decode cX1_determinantOf 82 = .ok (.iaload, 1) := by decide +kernel
theorem dX1_determinantOf_83 : decode cX1_determinantOf 83 = .ok (.i2l, 1) := by decide +kernel
theorem dX1_determinantOf_84 : decode cX1_determinantOf 84 = .ok (.lmul, 1) := by decide +kernel
theorem dX1_determinantOf_85 : decode cX1_determinantOf 85 = .ok (.aload 5, 2) := by decide +kernel
theorem dX1_determinantOf_87 : decode cX1_determinantOf 87 = .ok (.iconst 1, 1) := by decide +kernel
theorem dX1_determinantOf_88 : decode cX1_determinantOf 88 = .ok (.iaload, 1) := by decide +kernel
theorem dX1_determinantOf_89 : decode cX1_determinantOf 89 = .ok (.i2l, 1) := by decide +kernel
theorem dX1_determinantOf_90 : decode cX1_determinantOf 90 = .ok (.aload 6, 2) := by decide +kernel
theorem dX1_determinantOf_92 : decode cX1_determinantOf 92 = .ok (.iconst 0, 1) := by decide +kernel
theorem dX1_determinantOf_93 : decode cX1_determinantOf 93 = .ok (.iaload, 1) := by decide +kernel
theorem dX1_determinantOf_94 : decode cX1_determinantOf 94 = .ok (.i2l, 1) := by decide +kernel
theorem dX1_determinantOf_95 : decode cX1_determinantOf 95 = .ok (.lmul, 1) := by decide +kernel
theorem dX1_determinantOf_96 : decode cX1_determinantOf 96 = .ok (.lsub, 1) := by decide +kernel
theorem dX1_determinantOf_97 : decode cX1_determinantOf 97 = .ok (.lstore 11, 2) := by decide +kernel
theorem dX1_determinantOf_99 : decode cX1_determinantOf 99 = .ok (.aload 4, 2) := by decide +kernel
theorem dX1_determinantOf_101 : decode cX1_determinantOf 101 = .ok (.iconst 0, 1) := by decide +kernel
theorem dX1_determinantOf_102 : decode cX1_determinantOf 102 = .ok (.iaload, 1) := by decide +kernel
theorem dX1_determinantOf_103 : decode cX1_determinantOf 103 = .ok (.i2l, 1) := by decide +kernel
theorem dX1_determinantOf_104 : decode cX1_determinantOf 104 = .ok (.lload 7, 2) := by decide +kernel
theorem dX1_determinantOf_106 : decode cX1_determinantOf 106 = .ok (.lmul, 1) := by decide +kernel
theorem dX1_determinantOf_107 : decode cX1_determinantOf 107 = .ok (.aload 4, 2) := by decide +kernel
theorem dX1_determinantOf_109 : decode cX1_determinantOf 109 = .ok (.iconst 1, 1) := by decide +kernel
theorem dX1_determinantOf_110 : decode cX1_determinantOf 110 = .ok (.iaload, 1) := by decide +kernel
theorem dX1_determinantOf_111 : decode cX1_determinantOf 111 = .ok (.i2l, 1) := by decide +kernel
theorem dX1_determinantOf_112 : decode cX1_determinantOf 112 = .ok (.lload 9, 2) := by decide +kernel
theorem dX1_determinantOf_114 : decode cX1_determinantOf 114 = .ok (.lmul, 1) := by decide +kernel
theorem dX1_determinantOf_115 : decode cX1_determinantOf 115 = .ok (.lsub, 1) := by decide +kernel
theorem dX1_determinantOf_116 : decode cX1_determinantOf 116 = .ok (.aload 4, 2) := by decide +kernel
theorem dX1_determinantOf_118 : decode cX1_determinantOf 118 = .ok (.iconst 2, 1) := by decide +kernel
theorem dX1_determinantOf_119 : decode cX1_determinantOf 119 = .ok (.iaload, 1) := by decide +kernel
theorem dX1_determinantOf_120 : decode cX1_determinantOf 120 = .ok (.i2l, 1) := by decide +kernel
theorem dX1_determinantOf_121 : decode cX1_determinantOf 121 = .ok (.lload 11, 2) := by decide +kernel
theorem dX1_determinantOf_123 : decode cX1_determinantOf 123 = .ok (.lmul, 1) := by decide +kernel
theorem dX1_determinantOf_124 : decode cX1_determinantOf 124 = .ok (.ladd, 1) := by decide +kernel
theorem dX1_determinantOf_125 : decode cX1_determinantOf 125 = .ok (.lreturn, 1) := by decide +kernel
theorem dX1_find_0 : decode cX1_find 0 = .ok (.aload_n 0, 1) := by decide +kernel
theorem dX1_find_1 : decode cX1_find 1 = .ok (.invokevirtual 49, 3) := by decide +kernel
theorem dX1_find_4 : decode cX1_find 4 = .ok (.iload_n 2, 1) := by decide +kernel
theorem dX1_find_5 : decode cX1_find 5 = .ok (.ifCond .ne 18, 3) := by decide +kernel
theorem dX1_find_8 : decode cX1_find 8 = .ok (.iload_n 3, 1) := by decide +kernel
theorem dX1_find_9 : decode cX1_find 9 = .ok (.ifCond .ne 14, 3) := by decide +kernel
theorem dX1_find_12 : decode cX1_find 12 = .ok (.iload 4, 2) := by decide +kernel
theorem dX1_find_14 : decode cX1_find 14 = .ok (.ifCond .ne 9, 3) := by decide +kernel
theorem dX1_find_17 : decode cX1_find 17 = .ok (.aload_n 0, 1) := by decide +kernel
theorem dX1_find_18 : decode cX1_find 18 = .ok (.iconst 1, 1) := by decide +kernel
theorem dX1_find_19 : decode cX1_find 19 = .ok (.putfield 52, 3) := by decide +kernel
theorem dX1_find_22 : decode cX1_find 22 = .ok (.return_, 1) := by decide +kernel
theorem dX1_find_23 : decode cX1_find 23 = .ok (.aload_n 0, 1) := by decide +kernel
theorem dX1_find_24 : decode cX1_find 24 = .ok (.aload_n 1, 1) := by decide +kernel
theorem dX1_find_25 : decode cX1_find 25 = .ok (.invokevirtual 56, 3) := by decide +kernel
theorem dX1_find_28 : decode cX1_find 28 = .ok (.aload_n 0, 1) := by decide +kernel
theorem dX1_find_29 : decode cX1_find 29 = .ok (.getfield 11, 3) := by decide +kernel
theorem dX1_find_32 : decode cX1_find 32 = .ok (.bipush 8, 2) := by decide +kernel
theorem dX1_find_34 : decode cX1_find 34 = .ok (.aaload, 1) := by decide +kernel
theorem dX1_find_35 : decode cX1_find 35 = .ok (.iconst 0, 1) := by decide +kernel
theorem dX1_find_36 : decode cX1_find 36 = .ok (.iload_n 2, 1) := by decide +kernel
theorem dX1_find_37 : decode cX1_find 37 = .ok (.iastore, 1) := by decide +kernel
theorem dX1_find_38 : decode cX1_find 38 = .ok (.aload_n 0, 1) := by decide +kernel
theorem dX1_find_39 : decode cX1_find 39 = .ok (.getfield 11, 3) := by decide +kernel
theorem dX1_find_42 : decode cX1_find 42 = .ok (.bipush 8, 2) := by decide +kernel
theorem dX1_find_44 : decode cX1_find 44 = .ok (.aaload, 1) := by decide +kernel
theorem dX1_find_45 : decode cX1_find 45 = .ok (.iconst 1, 1) := by decide +kernel
theorem dX1_find_46 : decode cX1_find 46 = .ok (.iload_n 3, 1) := by decide +kernel
theorem dX1_find_47 : decode cX1_find 47 = .ok (.iastore, 1) := by decide +kernel
theorem dX1_find_48 : decode cX1_find 48 = .ok (.aload_n 0, 1) := by decide +kernel
theorem dX1_find_49 : decode cX1_find 49 = .ok (.getfield 11, 3) := by decide +kernel
theorem dX1_find_52 : decode cX1_find 52 = .ok (.bipush 8, 2) := by decide +kernel
theorem dX1_find_54 : decode cX1_find 54 = .ok (.aaload, 1) := by decide +kernel
theorem dX1_find_55 : decode cX1_find 55 = .ok (.iconst 2, 1) := by decide +kernel
theorem dX1_find_56 : decode cX1_find 56 = .ok (.iload 4, 2) := by decide +kernel
theorem dX1_find_58 : decode cX1_find 58 = .ok (.iastore, 1) := by decide +kernel
theorem dX1_find_59 : decode cX1_find 59 = .ok (.iconst 0, 1) := by decide +kernel
theorem dX1_find_60 : decode cX1_find 60 = .ok (.istore 5, 2) := by decide +kernel
theorem dX1_find_62 : decode cX1_find 62 = .ok (.iload 5, 2) := by decide +kernel
theorem dX1_find_64 : decode cX1_find 64 = .ok (.aload_n 1, 1) := by decide +kernel
theorem dX1_find_65 : decode cX1_find 65 = .ok (.getfield 38, 3) := by decide +kernel
theorem dX1_find_68 : decode cX1_find 68 = .ok (.if_icmp .ge 89, 3) := by decide +kernel
theorem dX1_find_71 : decode cX1_find 71 = .ok (.iload 5, 2) := by decide +kernel
theorem dX1_find_73 : decode cX1_find 73 = .ok (.iconst 1, 1) := by decide +kernel
theorem dX1_find_74 : decode cX1_find 74 = .ok (.iadd, 1) := by decide +kernel
theorem dX1_find_75 : decode cX1_find 75 = .ok (.istore 6, 2) := by decide +kernel
theorem dX1_find_77 : decode cX1_find 77 = .ok (.iload 6, 2) := by decide +kernel
theorem dX1_find_79 : decode cX1_find 79 = .ok (.aload_n 1, 1) := by decide +kernel
theorem dX1_find_80 : decode cX1_find 80 = .ok (.getfield 38, 3) := by decide +kernel
theorem dX1_find_83 : decode cX1_find 83 = .ok (.if_icmp .ge 68, 3) := by decide +kernel
theorem dX1_find_86 : decode cX1_find 86 = .ok (.iload 6, 2) := by decide +kernel
theorem dX1_find_88 : decode cX1_find 88 = .ok (.iconst 1, 1) := by decide +kernel
theorem dX1_find_89 : decode cX1_find 89 = .ok (.iadd, 1) := by decide +kernel
theorem dX1_find_90 : decode cX1_find 90 = .ok (.istore 7, 2) := by decide +kernel
theorem dX1_find_92 : decode cX1_find 92 = .ok (.iload 7, 2) := by decide +kernel
theorem dX1_find_94 : decode cX1_find 94 = .ok (.aload_n 1, 1) := by decide +kernel
theorem dX1_find_95 : decode cX1_find 95 = .ok (.getfield 38, 3) := by decide +kernel
theorem dX1_find_98 : decode cX1_find 98 = .ok (.if_icmp .ge 47, 3) := by decide +kernel
theorem dX1_find_101 : decode cX1_find 101 = .ok (.aload_n 1, 1) := by decide +kernel
theorem dX1_find_102 : decode cX1_find 102 = .ok (.iload 5, 2) := by decide +kernel
theorem dX1_find_104 : decode cX1_find 104 = .ok (.invokevirtual 60, 3) := by decide +kernel
theorem dX1_find_107 : decode cX1_find 107 = .ok (.ifCond .eq 32, 3) := by decide +kernel
theorem dX1_find_110 : decode cX1_find 110 = .ok (.aload_n 1, 1) := by decide +kernel
theorem dX1_find_111 : decode cX1_find 111 = .ok (.iload 6, 2) := by decide +kernel
theorem dX1_find_113 : decode cX1_find 113 = .ok (.invokevirtual 60, 3) := by decide +kernel
theorem dX1_find_116 : decode cX1_find 116 = .ok (.ifCond .eq 23, 3) := by decide +kernel
theorem dX1_find_119 : decode cX1_find 119 = .ok (.aload_n 1, 1) := by decide +kernel
theorem dX1_find_120 : decode cX1_find 120 = .ok (.iload 7, 2) := by decide +kernel
theorem dX1_find_122 : decode cX1_find 122 = .ok (.invokevirtual 60, 3) := by decide +kernel
theorem dX1_find_125 : decode cX1_find 125 = .ok (.ifCond .eq 14, 3) := by decide +kernel
theorem dX1_find_128 : decode cX1_find 128 = .ok (.aload_n 0, 1) := by decide +kernel
theorem dX1_find_129 : decode cX1_find 129 = .ok (.aload_n 1, 1) := by decide +kernel
theorem dX1_find_130 : decode cX1_find 130 = .ok (.iload 5, 2) := by decide +kernel
theorem dX1_find_132 : decode cX1_find 132 = .ok (.iload 6, 2) := by decide +kernel
theorem dX1_find_134 : decode cX1_find 134 = .ok (.iload 7, 2) := by decide +kernel
theorem dX1_find_136 : decode cX1_find 136 = .ok (.invokevirtual 64, 3) := by decide +kernel
theorem dX1_find_139 : decode cX1_find 139 = .ok (.iinc 7 1, 3) := by decide +kernel
theorem dX1_find_142 : decode cX1_find 142 = .ok (.goto (-50), 3) := by decide +kernel
theorem dX1_find_145 : decode cX1_find 145 = .ok (.iinc 6 1, 3) := by decide +kernel
theorem dX1_find_148 : decode cX1_find 148 = .ok (.goto (-71), 3) := by decide +kernel
theorem dX1_find_151 : decode cX1_find 151 = .ok (.iinc 5 1, 3) := by decide +kernel
theorem dX1_find_154 : decode cX1_find 154 = .ok (.goto (-92), 3) := by decide +kernel
theorem dX1_find_157 : decode cX1_find 157 = .ok (.return_, 1) := by decide +kernel
theorem dX1_clear_0 : decode cX1_clear 0 = .ok (.aload_n 0, 1) := by decide +kernel
theorem dX1_clear_1 : decode cX1_clear 1 = .ok (.iconst 0, 1) := by decide +kernel
theorem dX1_clear_2 : decode cX1_clear 2 = .ok (.putfield 52, 3) := by decide +kernel
theorem dX1_clear_5 : decode cX1_clear 5 = .ok (.aload_n 0, 1) := by decide +kernel
theorem dX1_clear_6 : decode cX1_clear 6 = .ok (.iconst 0, 1) := by decide +kernel
theorem dX1_clear_7 : decode cX1_clear 7 = .ok (.putfield 68, 3) := by decide +kernel
theorem dX1_clear_10 : decode cX1_clear 10 = .ok (.aload_n 0, 1) := by decide +kernel
theorem dX1_clear_11 : decode cX1_clear 11 = .ok (.lconst 0, 1) := by decide +kernel
theorem dX1_clear_12 : decode cX1_clear 12 = .ok (.putfield 71, 3) := by decide +kernel
theorem dX1_clear_15 : decode cX1_clear 15 = .ok (.aload_n 0, 1) := by decide +kernel
theorem dX1_clear_16 : decode cX1_clear 16 = .ok (.lconst 1, 1) := by decide +kernel
theorem dX1_clear_17 : decode cX1_clear 17 = .ok (.putfield 24, 3) := by decide +kernel
theorem dX1_clear_20 : decode cX1_clear 20 = .ok (.aload_n 0, 1) := by decide +kernel
theorem dX1_clear_21 : decode cX1_clear 21 = .ok (.getfield 20, 3) := by decide +kernel
theorem dX1_clear_24 : decode cX1_clear 24 = .ok (.lconst 0, 1) := by decide +kernel
theorem dX1_clear_25 : decode cX1_clear 25 = .ok (.invokestatic 74, 3) := by decide +kernel
theorem dX1_clear_28 : decode cX1_clear 28 = .ok (.return_, 1) := by decide +kernel
theorem dX1_consider_0 : decode cX1_consider 0 = .ok (.aload_n 0, 1) := by decide +kernel
theorem dX1_consider_1 : decode cX1_consider 1 = .ok (.iload_n 2, 1) := by decide +kernel
theorem dX1_consider_2 : decode cX1_consider 2 = .ok (.iload_n 3, 1) := by decide +kernel
theorem dX1_consider_3 : decode cX1_consider 3 = .ok (.iload 4, 2) := by decide +kernel
theorem dX1_consider_5 : decode cX1_consider 5 = .ok (.invokevirtual 80, 3) := by decide +kernel
theorem dX1_consider_8 : decode cX1_consider 8 = .ok (.lstore 5, 2) := by decide +kernel
theorem dX1_consider_10 : decode cX1_consider 10 = .ok (.lload 5, 2) := by decide +kernel
theorem dX1_consider_12 : decode cX1_consider 12 = .ok (.lconst 0, 1) := by decide +kernel
theorem dX1_consider_13 : decode cX1_consider 13 = .ok (.lcmp, 1) := by decide +kernel
theorem dX1_consider_14 : decode cX1_consider 14 = .ok (.ifCond .ne 4, 3) := by decide +kernel
theorem dX1_consider_17 : decode cX1_consider 17 = .ok (.return_, 1) := by decide +kernel
theorem dX1_consider_18 : decode cX1_consider 18 = .ok (.lload 5, 2) := by decide +kernel
theorem dX1_consider_20 : decode cX1_consider 20 = .ok (.lconst 0, 1) := by decide +kernel
theorem dX1_consider_21 : decode cX1_consider 21 = .ok (.lcmp, 1) := by decide +kernel
theorem dX1_consider_22 : decode cX1_consider 22 = .ok (.ifCond .ge 7, 3) := by decide +kernel
theorem dX1_consider_25 : decode cX1_consider 25 = .ok (.iconst (-1), 1) := by decide +kernel
theorem dX1_consider_26 : decode cX1_consider 26 = .ok (.goto 4, 3) := by decide +kernel
theorem dX1_consider_29 : decode cX1_consider 29 = .ok (.iconst 1, 1) := by decide +kernel
theorem dX1_consider_30 : decode cX1_consider 30 = .ok (.istore 7, 2) := by decide +kernel
theorem dX1_consider_32 : decode cX1_consider 32 = .ok (.lload 5, 2) := by decide +kernel
theorem dX1_consider_34 : decode cX1_consider 34 = .ok (.iload 7, 2) := by decide +kernel
theorem dX1_consider_36 : decode cX1_consider 36 = .ok (.i2l, 1) := by decide +kernel
theorem dX1_consider_37 : decode cX1_consider 37 = .ok (.lmul, 1) := by decide +kernel
theorem dX1_consider_38 : decode cX1_consider 38 = .ok (.lstore 5, 2) := by decide +kernel
theorem dX1_consider_40 : decode cX1_consider 40 = .ok (.iload 7, 2) := by decide +kernel
theorem dX1_consider_42 : decode cX1_consider 42 = .ok (.i2l, 1) := by decide +kernel
theorem dX1_consider_43 : decode cX1_consider 43 = .ok (.aload_n 0, 1) := by decide +kernel
theorem dX1_consider_44 : decode cX1_consider 44 = .ok (.bipush 8, 2) := by decide +kernel
theorem dX1_consider_46 : decode cX1_consider 46 = .ok (.iload_n 3, 1) := by decide +kernel
theorem dX1_consider_47 : decode cX1_consider 47 = .ok (.iload 4, 2) := by decide +kernel
theorem dX1_consider_49 : decode cX1_consider 49 = .ok (.invokevirtual 80, 3) := by decide +kernel
theorem dX1_consider_52 : decode cX1_consider 52 = .ok (.lmul, 1) := by decide +kernel
theorem dX1_consider_53 : decode cX1_consider 53 = .ok (.lstore 8, 2) := by decide +kernel
theorem dX1_consider_55 : decode cX1_consider 55 = .ok (.iload 7, 2) := by decide +kernel
theorem dX1_consider_57 : decode cX1_consider 57 = .ok (.i2l, 1) := by decide +kernel
theorem dX1_consider_58 : decode cX1_consider 58 = .ok (.aload_n 0, 1) := by decide +kernel
theorem dX1_consider_59 : decode cX1_consider 59 = .ok (.iload_n 2, 1) := by decide +kernel
theorem dX1_consider_60 : decode cX1_consider 60 = .ok (.bipush 8, 2) := by decide +kernel
theorem dX1_consider_62 : decode cX1_consider 62 = .ok (.iload 4, 2) := by decide +kernel
theorem dX1_consider_64 : decode cX1_consider 64 = .ok (.invokevirtual 80, 3) := by decide +kernel
theorem dX1_consider_67 : decode cX1_consider 67 = .ok (.lmul, 1) := by decide +kernel
theorem dX1_consider_68 : decode cX1_consider 68 = .ok (.lstore 10, 2) := by decide +kernel
theorem dX1_consider_70 : decode cX1_consider 70 = .ok (.iload 7, 2) := by decide +kernel
theorem dX1_consider_72 : decode cX1_consider 72 = .ok (.i2l, 1) := by decide +kernel
theorem dX1_consider_73 : decode cX1_consider 73 = .ok (.aload_n 0, 1) := by decide +kernel
theorem dX1_consider_74 : decode cX1_consider 74 = .ok (.iload_n 2, 1) := by decide +kernel
theorem dX1_consider_75 : decode cX1_consider 75 = .ok (.iload_n 3, 1) := by decide +kernel
theorem dX1_consider_76 : decode cX1_consider 76 = .ok (.bipush 8, 2) := by decide +kernel
theorem dX1_consider_78 : decode cX1_consider 78 = .ok (.invokevirtual 80, 3) := by decide +kernel
theorem dX1_consider_81 : decode cX1_consider 81 = .ok (.lmul, 1) := by decide +kernel
theorem dX1_consider_82 : decode cX1_consider 82 = .ok (.lstore 12, 2) := by decide +kernel
theorem dX1_consider_84 : decode cX1_consider 84 = .ok (.lload 8, 2) := by decide +kernel
theorem dX1_consider_86 : decode cX1_consider 86 = .ok (.lload 5, 2) := by decide +kernel
theorem dX1_consider_88 : decode cX1_consider 88 = .ok (.invokestatic 84, 3) := by decide +kernel
theorem dX1_consider_91 : decode cX1_consider 91 = .ok (.ifCond .eq 23, 3) := by decide +kernel
theorem dX1_consider_94 : decode cX1_consider 94 = .ok (.lload 10, 2) := by decide +kernel
theorem dX1_consider_96 : decode cX1_consider 96 = .ok (.lload 5, 2) := by decide +kernel
theorem dX1_consider_98 : decode cX1_consider 98 = .ok (.invokestatic 84, 3) := by decide +kernel
theorem dX1_consider_101 : decode cX1_consider 101 = .ok (.ifCond .eq 13, 3) := by decide +kernel
theorem dX1_consider_104 : decode cX1_consider 104 = .ok (.lload 12, 2) := by decide +kernel
theorem dX1_consider_106 : decode cX1_consider 106 = .ok (.lload 5, 2) := by decide +kernel
theorem dX1_consider_108 : decode cX1_consider 108 = .ok (.invokestatic 84, 3) := by decide +kernel
theorem dX1_consider_111 : decode cX1_consider 111 = .ok (.ifCond .ne 4, 3) := by decide +kernel
theorem dX1_consider_114 : decode cX1_consider 114 = .ok (.return_, 1) := by decide +kernel
theorem dX1_consider_115 : decode cX1_consider 115 = .ok (.lload 8, 2) := by decide +kernel
theorem dX1_consider_117 : decode cX1_consider 117 = .ok (.lconst 0, 1) := by decide +kernel
theorem dX1_consider_118 : decode cX1_consider 118 = .ok (.lcmp, 1) := by decide +kernel
theorem dX1_consider_119 : decode cX1_consider 119 = .ok (.ifCond .le 7, 3) := by decide +kernel
theorem dX1_consider_122 : decode cX1_consider 122 = .ok (.iconst 1, 1) := by decide +kernel
theorem dX1_consider_123 : decode cX1_consider 123 = .ok (.goto 4, 3) := by decide +kernel
theorem dX1_consider_126 : decode cX1_consider 126 = .ok (.iconst 0, 1) := by decide +kernel
theorem dX1_consider_127 : decode cX1_consider 127 = .ok (.iload_n 2, 1) := by decide +kernel
theorem dX1_consider_128 : decode cX1_consider 128 = .ok (.invokestatic 88, 3) := by decide +kernel
theorem dX1_consider_131 : decode cX1_consider 131 = .ok (.lload 10, 2) := by decide +kernel
theorem dX1_consider_133 : decode cX1_consider 133 = .ok (.lconst 0, 1) := by decide +kernel
theorem dX1_consider_134 : decode cX1_consider 134 = .ok (.lcmp, 1) := by decide +kernel
theorem dX1_consider_135 : decode cX1_consider 135 = .ok (.ifCond .le 7, 3) := by decide +kernel
theorem dX1_consider_138 : decode cX1_consider 138 = .ok (.iconst 1, 1) := by decide +kernel
theorem dX1_consider_139 : decode cX1_consider 139 = .ok (.goto 4, 3) := by decide +kernel
theorem dX1_consider_142 : decode cX1_consider 142 = .ok (.iconst 0, 1) := by decide +kernel
theorem dX1_consider_143 : decode cX1_consider 143 = .ok (.iload_n 3, 1) := by decide +kernel
theorem dX1_consider_144 : decode cX1_consider 144 = .ok (.invokestatic 88, 3) := by decide +kernel
theorem dX1_consider_147 : decode cX1_consider 147 = .ok (.ior, 1) := by decide +kernel
theorem dX1_consider_148 : decode cX1_consider 148 = .ok (.lload 12, 2) := by decide +kernel
theorem dX1_consider_150 : decode cX1_consider 150 = .ok (.lconst 0, 1) := by decide +kernel
theorem dX1_consider_151 : decode cX1_consider 151 = .ok (.lcmp, 1) := by decide +kernel
theorem dX1_consider_152 : decode cX1_consider 152 = .ok (.ifCond .le 7, 3) := by decide +kernel
theorem dX1_consider_155 : decode cX1_consider 155 = .ok (.iconst 1, 1) := by decide +kernel
theorem dX1_consider_156 : decode cX1_consider 156 = .ok (.goto 4, 3) := by decide +kernel
theorem dX1_consider_159 : decode cX1_consider 159 = .ok (.iconst 0, 1) := by decide +kernel
theorem dX1_consider_160 : decode cX1_consider 160 = .ok (.iload 4, 2) := by decide +kernel
theorem dX1_consider_162 : decode cX1_consider 162 = .ok (.invokestatic 88, 3) := by decide +kernel
theorem dX1_consider_165 : decode cX1_consider 165 = .ok (.ior, 1) := by decide +kernel
theorem dX1_consider_166 : decode cX1_consider 166 = .ok (.istore 14, 2) := by decide +kernel
theorem dX1_consider_168 : decode cX1_consider 168 = .ok (.aload_n 1, 1) := by decide +kernel
theorem dX1_consider_169 : decode cX1_consider 169 = .ok (.iload 14, 2) := by decide +kernel
theorem dX1_consider_171 : decode cX1_consider 171 = .ok (.aload_n 0, 1) := by decide +kernel
theorem dX1_consider_172 : decode cX1_consider 172 = .ok (.getfield 34, 3) := by decide +kernel
theorem dX1_consider_175 : decode cX1_consider 175 = .ok (.ior, 1) := by decide +kernel
theorem dX1_consider_176 : decode cX1_consider 176 = .ok (.invokevirtual 92, 3) := by decide +kernel
theorem dX1_consider_179 : decode cX1_consider 179 = .ok (.ifCond .eq 4, 3) := by decide +kernel
theorem dX1_consider_182 : decode cX1_consider 182 = .ok (.return_, 1) := by decide +kernel
theorem dX1_consider_183 : decode cX1_consider 183 = .ok (.lload 8, 2) := by decide +kernel
theorem dX1_consider_185 : decode cX1_consider 185 = .ok (.aload_n 0, 1) := by decide +kernel
theorem dX1_consider_186 : decode cX1_consider 186 = .ok (.getfield 16, 3) := by decide +kernel
theorem dX1_consider_189 : decode cX1_consider 189 = .ok (.iload_n 2, 1) := by decide +kernel
theorem dX1_consider_190 : decode cX1_consider 190 = .ok (.iaload, 1) := by decide +kernel
theorem dX1_consider_191 : decode cX1_consider 191 = .ok (.i2l, 1) := by decide +kernel
theorem dX1_consider_192 : decode cX1_consider 192 = .ok (.lmul, 1) := by decide +kernel
theorem dX1_consider_193 : decode cX1_consider 193 = .ok (.lload 10, 2) := by decide +kernel
theorem dX1_consider_195 : decode cX1_consider 195 = .ok (.aload_n 0, 1) := by decide +kernel
theorem dX1_consider_196 : decode cX1_consider 196 = .ok (.getfield 16, 3) := by decide +kernel
theorem dX1_consider_199 : decode cX1_consider 199 = .ok (.iload_n 3, 1) := by decide +kernel
theorem dX1_consider_200 : decode cX1_consider 200 = .ok (.iaload, 1) := by decide +kernel
theorem dX1_consider_201 : decode cX1_consider 201 = .ok (.i2l, 1) := by decide +kernel
theorem dX1_consider_202 : decode cX1_consider 202 = .ok (.lmul, 1) := by decide +kernel
theorem dX1_consider_203 : decode cX1_consider 203 = .ok (.ladd, 1) := by decide +kernel
theorem dX1_consider_204 : decode cX1_consider 204 = .ok (.lload 12, 2) := by decide +kernel
theorem dX1_consider_206 : decode cX1_consider 206 = .ok (.aload_n 0, 1) := by decide +kernel
theorem dX1_consider_207 : decode cX1_consider 207 = .ok (.getfield 16, 3) := by decide +kernel
theorem dX1_consider_210 : decode cX1_consider 210 = .ok (.iload 4, 2) := by decide +kernel
theorem dX1_consider_212 : decode cX1_consider 212 = .ok (.iaload, 1) := by decide +kernel
theorem dX1_consider_213 : decode cX1_consider 213 = .ok (.i2l, 1) := by decide +kernel
theorem dX1_consider_214 : decode cX1_consider 214 = .ok (.lmul, 1) := by decide +kernel
theorem dX1_consider_215 : decode cX1_consider 215 = .ok (.ladd, 1) := by decide +kernel
theorem dX1_consider_216 : decode cX1_consider 216 = .ok (.lstore 15, 2) := by decide +kernel
theorem dX1_consider_218 : decode cX1_consider 218 = .ok (.aload_n 0, 1) := by decide +kernel
theorem dX1_consider_219 : decode cX1_consider 219 = .ok (.getfield 52, 3) := by decide +kernel
theorem dX1_consider_222 : decode cX1_consider 222 = .ok (.ifCond .eq 17, 3) := by decide +kernel
theorem dX1_consider_225 : decode cX1_consider 225 = .ok (.aload_n 0, 1) := by decide +kernel
theorem dX1_consider_226 : decode cX1_consider 226 = .ok (.lload 15, 2) := by decide +kernel
theorem dX1_consider_228 : decode cX1_consider 228 = .ok (.lload 5, 2) := by decide +kernel
theorem dX1_consider_230 : decode cX1_consider 230 = .ok (.iload 14, 2) := by decide +kernel
theorem dX1_consider_232 : decode cX1_consider 232 = .ok (.invokevirtual 95, 3) := by decide +kernel
theorem dX1_consider_235 : decode cX1_consider 235 = .ok (.ifCond .ne 4, 3) := by decide +kernel
theorem dX1_consider_238 : decode cX1_consider 238 = .ok (.return_, 1) := by decide +kernel
theorem dX1_consider_239 : decode cX1_consider 239 = .ok (.aload_n 0, 1) := by decide +kernel
theorem dX1_consider_240 : decode cX1_consider 240 = .ok (.invokevirtual 49, 3) := by decide +kernel
theorem dX1_consider_243 : decode cX1_consider 243 = .ok (.aload_n 0, 1) := by decide +kernel
theorem dX1_consider_244 : decode cX1_consider 244 = .ok (.iconst 1, 1) := by decide +kernel
theorem dX1_consider_245 : decode cX1_consider 245 = .ok (.putfield 52, 3) := by decide +kernel
theorem dX1_consider_248 : decode cX1_consider 248 = .ok (.aload_n 0, 1) := by decide +kernel
theorem dX1_consider_249 : decode cX1_consider 249 = .ok (.iload 14, 2) := by decide +kernel
theorem dX1_consider_251 : decode cX1_consider 251 = .ok (.putfield 68, 3) := by decide +kernel
theorem dX1_consider_254 : decode cX1_consider 254 = .ok (.aload_n 0, 1) := by decide +kernel
theorem dX1_consider_255 : decode cX1_consider 255 = .ok (.lload 15, 2) := by decide +kernel
theorem dX1_consider_257 : decode cX1_consider 257 = .ok (.putfield 71, 3) := by decide +kernel
theorem dX1_consider_260 : decode cX1_consider 260 = .ok (.aload_n 0, 1) := by decide +kernel
theorem dX1_consider_261 : decode cX1_consider 261 = .ok (.lload 5, 2) := by decide +kernel
theorem dX1_consider_263 : decode cX1_consider 263 = .ok (.putfield 24, 3) := by decide +kernel
theorem dX1_consider_266 : decode cX1_consider 266 = .ok (.aload_n 0, 1) := by decide +kernel
theorem dX1_consider_267 : decode cX1_consider 267 = .ok (.getfield 20, 3) := by decide +kernel
theorem dX1_consider_270 : decode cX1_consider 270 = .ok (.iload_n 2, 1) := by decide +kernel
theorem dX1_consider_271 : decode cX1_consider 271 = .ok (.lload 8, 2) := by decide +kernel
theorem dX1_consider_273 : decode cX1_consider 273 = .ok (.lastore, 1) := by decide +kernel
theorem dX1_consider_274 : decode cX1_consider 274 = .ok (.aload_n 0, 1) := by decide +kernel
theorem dX1_consider_275 : decode cX1_consider 275 = .ok (.getfield 20, 3) := by decide +kernel
theorem dX1_consider_278 : decode cX1_consider 278 = .ok (.iload_n 3, 1) := by decide +kernel
theorem dX1_consider_279 : decode cX1_consider 279 = .ok (.lload 10, 2) := by decide +kernel
theorem dX1_consider_281 : decode cX1_consider 281 = .ok (.lastore, 1) := by decide +kernel
theorem dX1_consider_282 : decode cX1_consider 282 = .ok (.aload_n 0, 1) := by decide +kernel
theorem dX1_consider_283 : decode cX1_consider 283 = .ok (.getfield 20, 3) := by decide +kernel
theorem dX1_consider_286 : decode cX1_consider 286 = .ok (.iload 4, 2) := by decide +kernel
theorem dX1_consider_288 : decode cX1_consider 288 = .ok (.lload 12, 2) := by decide +kernel
theorem dX1_consider_290 : decode cX1_consider 290 = .ok (.lastore, 1) := by decide +kernel
theorem dX1_consider_291 : decode cX1_consider 291 = .ok (.return_, 1) := by decide +kernel
theorem dX1_isPossible_0 : decode cX1_isPossible 0 = .ok (.lload_n 0, 1) := by decide +kernel
theorem dX1_isPossible_1 : decode cX1_isPossible 1 = .ok (.lconst 0, 1) := by decide +kernel
theorem dX1_isPossible_2 : decode cX1_isPossible 2 = .ok (.lcmp, 1) := by decide +kernel
theorem dX1_isPossible_3 : decode cX1_isPossible 3 = .ok (.ifCond .lt 17, 3) := by decide +kernel
theorem dX1_isPossible_6 : decode cX1_isPossible 6 = .ok (.lload_n 0, 1) := by decide +kernel
theorem dX1_isPossible_7 : decode cX1_isPossible 7 = .ok (.ldc2_w 99, 3) := by decide +kernel
theorem dX1_isPossible_10 : decode cX1_isPossible 10 = .ok (.lload_n 2, 1) := by decide +kernel
theorem dX1_isPossible_11 : decode cX1_isPossible 11 = .ok (.lmul, 1) := by decide +kernel
theorem dX1_isPossible_12 : decode cX1_isPossible 12 = .ok (.lcmp, 1) := by decide +kernel
theorem dX1_isPossible_13 : decode cX1_isPossible 13 = .ok (.ifCond .gt 7, 3) := by decide +kernel
theorem dX1_isPossible_16 : decode cX1_isPossible 16 = .ok (.iconst 1, 1) := by decide +kernel
theorem dX1_isPossible_17 : decode cX1_isPossible 17 = .ok (.goto 4, 3) := by decide +kernel
theorem dX1_isPossible_20 : decode cX1_isPossible 20 = .ok (.iconst 0, 1) := by decide +kernel
theorem dX1_isPossible_21 : decode cX1_isPossible 21 = .ok (.ireturn, 1) := by decide +kernel
theorem dX1_bitIf_0 : decode cX1_bitIf 0 = .ok (.iload_n 0, 1) := by decide +kernel
theorem dX1_bitIf_1 : decode cX1_bitIf 1 = .ok (.ifCond .eq 9, 3) := by decide +kernel
theorem dX1_bitIf_4 : decode cX1_bitIf 4 = .ok (.iconst 1, 1) := by decide +kernel
theorem dX1_bitIf_5 : decode cX1_bitIf 5 = .ok (.iload_n 1, 1) := by decide +kernel
theorem dX1_bitIf_6 : decode cX1_bitIf 6 = .ok (.ishl, 1) := by decide +kernel
theorem dX1_bitIf_7 : decode cX1_bitIf 7 = .ok (.goto 4, 3) := by decide +kernel
theorem dX1_bitIf_10 : decode cX1_bitIf 10 = .ok (.iconst 0, 1) := by decide +kernel
theorem dX1_bitIf_11 : decode cX1_bitIf 11 = .ok (.ireturn, 1) := by decide +kernel
theorem dX1_isBetter_0 : decode cX1_isBetter 0 = .ok (.aload_n 0, 1) := by decide +kernel
theorem dX1_isBetter_1 : decode cX1_isBetter 1 = .ok (.getfield 71, 3) := by decide +kernel
theorem dX1_isBetter_4 : decode cX1_isBetter 4 = .ok (.lload_n 3, 1) := by decide +kernel
theorem dX1_isBetter_5 : decode cX1_isBetter 5 = .ok (.lmul, 1) := by decide +kernel
theorem dX1_isBetter_6 : decode cX1_isBetter 6 = .ok (.lstore 6, 2) := by decide +kernel
theorem dX1_isBetter_8 : decode cX1_isBetter 8 = .ok (.lload_n 1, 1) := by decide +kernel
theorem dX1_isBetter_9 : decode cX1_isBetter 9 = .ok (.aload_n 0, 1) := by decide +kernel
theorem dX1_isBetter_10 : decode cX1_isBetter 10 = .ok (.getfield 24, 3) := by decide +kernel
theorem dX1_isBetter_13 : decode cX1_isBetter 13 = .ok (.lmul, 1) := by decide +kernel
theorem dX1_isBetter_14 : decode cX1_isBetter 14 = .ok (.lstore 8, 2) := by decide +kernel
theorem dX1_isBetter_16 : decode cX1_isBetter 16 = .ok (.lload 8, 2) := by decide +kernel
theorem dX1_isBetter_18 : decode cX1_isBetter 18 = .ok (.lload 6, 2) := by decide +kernel
theorem dX1_isBetter_20 : decode cX1_isBetter 20 = .ok (.lcmp, 1) := by decide +kernel
theorem dX1_isBetter_21 : decode cX1_isBetter 21 = .ok (.ifCond .lt 20, 3) := by decide +kernel
theorem dX1_isBetter_24 : decode cX1_isBetter 24 = .ok (.lload 8, 2) := by decide +kernel
theorem dX1_isBetter_26 : decode cX1_isBetter 26 = .ok (.lload 6, 2) := by decide +kernel
theorem dX1_isBetter_28 : decode cX1_isBetter 28 = .ok (.lcmp, 1) := by decide +kernel
theorem dX1_isBetter_29 : decode cX1_isBetter 29 = .ok (.ifCond .ne 16, 3) := by decide +kernel
theorem dX1_isBetter_32 : decode cX1_isBetter 32 = .ok (.iload 5, 2) := by decide +kernel
theorem dX1_isBetter_34 : decode cX1_isBetter 34 = .ok (.aload_n 0, 1) := by decide +kernel
theorem dX1_isBetter_35 : decode cX1_isBetter 35 = .ok (.getfield 68, 3) := by decide +kernel
theorem dX1_isBetter_38 : decode cX1_isBetter 38 = .ok (.if_icmp .ge 7, 3) := by decide +kernel
theorem dX1_isBetter_41 : decode cX1_isBetter 41 = .ok (.iconst 1, 1) := by decide +kernel
theorem dX1_isBetter_42 : decode cX1_isBetter 42 = .ok (.goto 4, 3) := by decide +kernel
theorem dX1_isBetter_45 : decode cX1_isBetter 45 = .ok (.iconst 0, 1) := by decide +kernel
theorem dX1_isBetter_46 : decode cX1_isBetter 46 = .ok (.ireturn, 1) := by decide +kernel
theorem dX1_pulseOf_0 : decode cX1_pulseOf 0 = .ok (.aload_n 0, 1) := by decide +kernel
theorem dX1_pulseOf_1 : decode cX1_pulseOf 1 = .ok (.getfield 20, 3) := by decide +kernel
theorem dX1_pulseOf_4 : decode cX1_pulseOf 4 = .ok (.iload_n 1, 1) := by decide +kernel
theorem dX1_pulseOf_5 : decode cX1_pulseOf 5 = .ok (.laload, 1) := by decide +kernel
theorem dX1_pulseOf_6 : decode cX1_pulseOf 6 = .ok (.lstore_n 3, 1) := by decide +kernel
theorem dX1_pulseOf_7 : decode cX1_pulseOf 7 = .ok (.lload_n 3, 1) := by decide +kernel
theorem dX1_pulseOf_8 : decode cX1_pulseOf 8 = .ok (.lconst 0, 1) := by decide +kernel
theorem dX1_pulseOf_9 : decode cX1_pulseOf 9 = .ok (.lcmp, 1) := by decide +kernel
theorem dX1_pulseOf_10 : decode cX1_pulseOf 10 = .ok (.ifCond .le 12, 3) := by decide +kernel
theorem dX1_pulseOf_13 : decode cX1_pulseOf 13 = .ok (.aload_n 0, 1) := by decide +kernel
theorem dX1_pulseOf_14 : decode cX1_pulseOf 14 = .ok (.getfield 24, 3) := by decide +kernel
theorem dX1_pulseOf_17 : decode cX1_pulseOf 17 = .ok (.lconst 0, 1) := by decide +kernel
theorem dX1_pulseOf_18 : decode cX1_pulseOf 18 = .ok (.lcmp, 1) := by decide +kernel
theorem dX1_pulseOf_19 : decode cX1_pulseOf 19 = .ok (.ifCond .gt 5, 3) := by decide +kernel
theorem dX1_pulseOf_22 : decode cX1_pulseOf 22 = .ok (.iconst 0, 1) := by decide +kernel
theorem dX1_pulseOf_23 : decode cX1_pulseOf 23 = .ok (.ireturn, 1) := by decide +kernel
theorem dX1_pulseOf_24 : decode cX1_pulseOf 24 = .ok (.ldc2_w 101, 3) := by decide +kernel
theorem dX1_pulseOf_27 : decode cX1_pulseOf 27 = .ok (.lload_n 3, 1) := by decide +kernel
theorem dX1_pulseOf_28 : decode cX1_pulseOf 28 = .ok (.lmul, 1) := by decide +kernel
theorem dX1_pulseOf_29 : decode cX1_pulseOf 29 = .ok (.aload_n 0, 1) := by decide +kernel
theorem dX1_pulseOf_30 : decode cX1_pulseOf 30 = .ok (.getfield 24, 3) := by decide +kernel
theorem dX1_pulseOf_33 : decode cX1_pulseOf 33 = .ok (.ladd, 1) := by decide +kernel
theorem dX1_pulseOf_34 : decode cX1_pulseOf 34 = .ok (.ldc2_w 101, 3) := by decide +kernel
theorem dX1_pulseOf_37 : decode cX1_pulseOf 37 = .ok (.aload_n 0, 1) := by decide +kernel
theorem dX1_pulseOf_38 : decode cX1_pulseOf 38 = .ok (.getfield 24, 3) := by decide +kernel
theorem dX1_pulseOf_41 : decode cX1_pulseOf 41 = .ok (.lmul, 1) := by decide +kernel
theorem dX1_pulseOf_42 : decode cX1_pulseOf 42 = .ok (.ldiv, 1) := by decide +kernel
theorem dX1_pulseOf_43 : decode cX1_pulseOf 43 = .ok (.l2i, 1) := by decide +kernel
theorem dX1_pulseOf_44 : decode cX1_pulseOf 44 = .ok (.istore 5, 2) := by decide +kernel
theorem dX1_pulseOf_46 : decode cX1_pulseOf 46 = .ok (.iload 5, 2) := by decide +kernel
theorem dX1_pulseOf_48 : decode cX1_pulseOf 48 = .ok (.iload_n 2, 1) := by decide +kernel
theorem dX1_pulseOf_49 : decode cX1_pulseOf 49 = .ok (.if_icmp .lt 6, 3) := by decide +kernel
theorem dX1_pulseOf_52 : decode cX1_pulseOf 52 = .ok (.iload 5, 2) := by decide +kernel
theorem dX1_pulseOf_54 : decode cX1_pulseOf 54 = .ok (.ireturn, 1) := by decide +kernel
theorem dX1_pulseOf_55 : decode cX1_pulseOf 55 = .ok (.ldc2_w 101, 3) := by decide +kernel
theorem dX1_pulseOf_58 : decode cX1_pulseOf 58 = .ok (.lload_n 3, 1) := by decide +kernel
theorem dX1_pulseOf_59 : decode cX1_pulseOf 59 = .ok (.lmul, 1) := by decide +kernel
theorem dX1_pulseOf_60 : decode cX1_pulseOf 60 = .ok (.iload_n 2, 1) := by decide +kernel
theorem dX1_pulseOf_61 : decode cX1_pulseOf 61 = .ok (.i2l, 1) := by decide +kernel
theorem dX1_pulseOf_62 : decode cX1_pulseOf 62 = .ok (.aload_n 0, 1) := by decide +kernel
theorem dX1_pulseOf_63 : decode cX1_pulseOf 63 = .ok (.getfield 24, 3) := by decide +kernel
theorem dX1_pulseOf_66 : decode cX1_pulseOf 66 = .ok (.lmul, 1) := by decide +kernel
theorem dX1_pulseOf_67 : decode cX1_pulseOf 67 = .ok (.lcmp, 1) := by decide +kernel
theorem dX1_pulseOf_68 : decode cX1_pulseOf 68 = .ok (.ifCond .lt 7, 3) := by decide +kernel
theorem dX1_pulseOf_71 : decode cX1_pulseOf 71 = .ok (.iload_n 2, 1) := by decide +kernel
theorem dX1_pulseOf_72 : decode cX1_pulseOf 72 = .ok (.goto 4, 3) := by decide +kernel
theorem dX1_pulseOf_75 : decode cX1_pulseOf 75 = .ok (.iconst 0, 1) := by decide +kernel
theorem dX1_pulseOf_76 : decode cX1_pulseOf 76 = .ok (.ireturn, 1) := by decide +kernel
theorem dX1_thousandths_0 : decode cX1_thousandths 0 = .ok (.aload_n 0, 1) := by decide +kernel
theorem dX1_thousandths_1 : decode cX1_thousandths 1 = .ok (.getfield 24, 3) := by decide +kernel
theorem dX1_thousandths_4 : decode cX1_thousandths 4 = .ok (.lconst 0, 1) := by decide +kernel
theorem dX1_thousandths_5 : decode cX1_thousandths 5 = .ok (.lcmp, 1) := by decide +kernel
theorem dX1_thousandths_6 : decode cX1_thousandths 6 = .ok (.ifCond .le 20, 3) := by decide +kernel
theorem dX1_thousandths_9 : decode cX1_thousandths 9 = .ok (.ldc2_w 103, 3) := by decide +kernel
theorem dX1_thousandths_12 : decode cX1_thousandths 12 = .ok (.aload_n 0, 1) := by decide +kernel
theorem dX1_thousandths_13 : decode cX1_thousandths 13 = .ok (.getfield 71, 3) := by decide +kernel
theorem dX1_thousandths_16 : decode cX1_thousandths 16 = .ok (.lmul, 1) := by decide +kernel
theorem dX1_thousandths_17 : decode cX1_thousandths 17 = .ok (.aload_n 0, 1) := by decide +kernel
theorem dX1_thousandths_18 : decode cX1_thousandths 18 = .ok (.getfield 24, 3) := by decide +kernel
theorem dX1_thousandths_21 : decode cX1_thousandths 21 = .ok (.ldiv, 1) := by decide +kernel
theorem dX1_thousandths_22 : decode cX1_thousandths 22 = .ok (.l2i, 1) := by decide +kernel
theorem dX1_thousandths_23 : decode cX1_thousandths 23 = .ok (.goto 4, 3) := by decide +kernel
theorem dX1_thousandths_26 : decode cX1_thousandths 26 = .ok (.iconst 0, 1) := by decide +kernel
theorem dX1_thousandths_27 : decode cX1_thousandths 27 = .ok (.ireturn, 1) := by decide +kernel
theorem dX2_init_0 : decode cX2_init 0 = .ok (.aload_n 0, 1) := by decide +kernel
theorem dX2_init_1 : decode cX2_init 1 = .ok (.invokespecial 3, 3) := by decide +kernel
theorem dX2_init_4 : decode cX2_init 4 = .ok (.aload_n 0, 1) := by decide +kernel
theorem dX2_init_5 : decode cX2_init 5 = .ok (.bipush 56, 2) := by decide +kernel
theorem dX2_init_7 : decode cX2_init 7 = .ok (.newarray .int, 2) := by decide +kernel
theorem dX2_init_9 : decode cX2_init 9 = .ok (.putfield 9, 3) := by decide +kernel
theorem dX2_init_12 : decode cX2_init 12 = .ok (.aload_n 0, 1) := by decide +kernel
theorem dX2_init_13 : decode cX2_init 13 = .ok (.bipush 8, 2) := by decide +kernel
theorem dX2_init_15 : decode cX2_init 15 = .ok (.newarray .int, 2) := by decide +kernel
theorem dX2_init_17 : decode cX2_init 17 = .ok (.putfield 15, 3) := by decide +kernel
theorem dX2_init_20 : decode cX2_init 20 = .ok (.aload_n 0, 1) := by decide +kernel
theorem dX2_init_21 : decode cX2_init 21 = .ok (.iconst 2, 1) := by decide +kernel
theorem dX2_init_22 : decode cX2_init 22 = .ok (.newarray .int, 2) := by decide +kernel
theorem dX2_init_24 : decode cX2_init 24 = .ok (.putfield 18, 3) := by decide +kernel
theorem dX2_init_27 : decode cX2_init 27 = .ok (.aload_n 0, 1) := by decide +kernel
theorem dX2_init_28 : decode cX2_init 28 = .ok (.bipush 8, 2) := by decide +kernel
theorem dX2_init_30 : decode cX2_init 30 = .ok (.newarray .int, 2) := by decide +kernel
theorem dX2_init_32 : decode cX2_init 32 = .ok (.putfield 21, 3) := by decide +kernel
theorem dX2_init_35 : decode cX2_init 35 = .ok (.aload_n 0, 1) := by decide +kernel
theorem dX2_init_36 : decode cX2_init 36 = .ok (.bipush 30, 2) := by decide +kernel
theorem dX2_init_38 : decode cX2_init 38 = .ok (.newarray .int, 2) := by decide +kernel
theorem dX2_init_40 : decode cX2_init 40 = .ok (.putfield 24, 3) := by decide +kernel
theorem dX2_init_43 : decode cX2_init 43 = .ok (.aload_n 0, 1) := by decide +kernel
theorem dX2_init_44 : decode cX2_init 44 = .ok (.bipush 9, 2) := by decide +kernel
theorem dX2_init_46 : decode cX2_init 46 = .ok (.newarray .int, 2) := by decide +kernel
theorem dX2_init_48 : decode cX2_init 48 = .ok (.putfield 27, 3) := by decide +kernel
theorem dX2_init_51 : decode cX2_init 51 = .ok (.aload_n 0, 1) := by decide +kernel
theorem dX2_init_52 : decode cX2_init 52 = .ok (.iconst 3, 1) := by decide +kernel
theorem dX2_init_53 : decode cX2_init 53 = .ok (.newarray .long, 2) := by decide +kernel
theorem dX2_init_55 : decode cX2_init 55 = .ok (.putfield 30, 3) := by decide +kernel
theorem dX2_init_58 : decode cX2_init 58 = .ok (.aload_n 0, 1) := by decide +kernel
theorem dX2_init_59 : decode cX2_init 59 = .ok (.getfield 18, 3) := by decide +kernel
theorem dX2_init_62 : decode cX2_init 62 = .ok (.ldc 34, 2) := by decide +kernel
theorem dX2_init_64 : decode cX2_init 64 = .ok (.invokestatic 35, 3) := by decide +kernel
theorem dX2_init_67 : decode cX2_init 67 = .ok (.return_, 1) := by decide +kernel
theorem dX2_copyFrom_0 : decode cX2_copyFrom 0 = .ok (.aload_n 1, 1) := by decide +kernel
theorem dX2_copyFrom_1 : decode cX2_copyFrom 1 = .ok (.getfield 9, 3) := by decide +kernel
theorem dX2_copyFrom_4 : decode cX2_copyFrom 4 = .ok (.iconst 0, 1) := by decide +kernel
theorem dX2_copyFrom_5 : decode cX2_copyFrom 5 = .ok (.aload_n 0, 1) := by decide +kernel
theorem dX2_copyFrom_6 : decode cX2_copyFrom 6 = .ok (.getfield 9, 3) := by decide +kernel
theorem dX2_copyFrom_9 : decode cX2_copyFrom 9 = .ok (.iconst 0, 1) := by decide +kernel
theorem dX2_copyFrom_10 : decode cX2_copyFrom 10 = .ok (.aload_n 0, 1) := by decide +kernel
theorem dX2_copyFrom_11 : decode cX2_copyFrom 11 = .ok (.getfield 9, 3) := by decide +kernel
theorem dX2_copyFrom_14 : decode cX2_copyFrom 14 = .ok (.arraylength, 1) := by decide +kernel
theorem dX2_copyFrom_15 : decode cX2_copyFrom 15 = .ok (.invokestatic 41, 3) := by decide +kernel
theorem dX2_copyFrom_18 : decode cX2_copyFrom 18 = .ok (.aload_n 1, 1) := by decide +kernel
theorem dX2_copyFrom_19 : decode cX2_copyFrom 19 = .ok (.getfield 15, 3) := by decide +kernel
theorem dX2_copyFrom_22 : decode cX2_copyFrom 22 = .ok (.iconst 0, 1) := by decide +kernel
theorem dX2_copyFrom_23 : decode cX2_copyFrom 23 = .ok (.aload_n 0, 1) := by decide +kernel
theorem dX2_copyFrom_24 : decode cX2_copyFrom 24 = .ok (.getfield 15, 3) := by decide +kernel
theorem dX2_copyFrom_27 : decode cX2_copyFrom 27 = .ok (.iconst 0, 1) := by decide +kernel
theorem dX2_copyFrom_28 : decode cX2_copyFrom 28 = .ok (.aload_n 0, 1) := by decide +kernel
theorem dX2_copyFrom_29 : decode cX2_copyFrom 29 = .ok (.getfield 15, 3) := by decide +kernel
theorem dX2_copyFrom_32 : decode cX2_copyFrom 32 = .ok (.arraylength, 1) := by decide +kernel
theorem dX2_copyFrom_33 : decode cX2_copyFrom 33 = .ok (.invokestatic 41, 3) := by decide +kernel
theorem dX2_copyFrom_36 : decode cX2_copyFrom 36 = .ok (.aload_n 1, 1) := by decide +kernel
theorem dX2_copyFrom_37 : decode cX2_copyFrom 37 = .ok (.getfield 18, 3) := by decide +kernel
theorem dX2_copyFrom_40 : decode cX2_copyFrom 40 = .ok (.iconst 0, 1) := by decide +kernel
theorem dX2_copyFrom_41 : decode cX2_copyFrom 41 = .ok (.aload_n 0, 1) := by decide +kernel
theorem dX2_copyFrom_42 : decode cX2_copyFrom 42 = .ok (.getfield 18, 3) := by decide +kernel
theorem dX2_copyFrom_45 : decode cX2_copyFrom 45 = .ok (.iconst 0, 1) := by decide +kernel
theorem dX2_copyFrom_46 : decode cX2_copyFrom 46 = .ok (.aload_n 0, 1) := by decide +kernel
theorem dX2_copyFrom_47 : decode cX2_copyFrom 47 = .ok (.getfield 18, 3) := by decide +kernel
theorem dX2_copyFrom_50 : decode cX2_copyFrom 50 = .ok (.arraylength, 1) := by decide +kernel
theorem dX2_copyFrom_51 : decode cX2_copyFrom 51 = .ok (.invokestatic 41, 3) := by decide +kernel
theorem dX2_copyFrom_54 : decode cX2_copyFrom 54 = .ok (.aload_n 1, 1) := by decide +kernel
theorem dX2_copyFrom_55 : decode cX2_copyFrom 55 = .ok (.getfield 21, 3) := by decide +kernel
theorem dX2_copyFrom_58 : decode cX2_copyFrom 58 = .ok (.iconst 0, 1) := by decide +kernel
theorem dX2_copyFrom_59 : decode cX2_copyFrom 59 = .ok (.aload_n 0, 1) := by decide +kernel
theorem dX2_copyFrom_60 : decode cX2_copyFrom 60 = .ok (.getfield 21, 3) := by decide +kernel
theorem dX2_copyFrom_63 : decode cX2_copyFrom 63 = .ok (.iconst 0, 1) := by decide +kernel
theorem dX2_copyFrom_64 : decode cX2_copyFrom 64 = .ok (.aload_n 0, 1) := by decide +kernel
theorem dX2_copyFrom_65 : decode cX2_copyFrom 65 = .ok (.getfield 21, 3) := by decide +kernel
theorem dX2_copyFrom_68 : decode cX2_copyFrom 68 = .ok (.arraylength, 1) := by decide +kernel
theorem dX2_copyFrom_69 : decode cX2_copyFrom 69 = .ok (.invokestatic 41, 3) := by decide +kernel
theorem dX2_copyFrom_72 : decode cX2_copyFrom 72 = .ok (.aload_n 1, 1) := by decide +kernel
theorem dX2_copyFrom_73 : decode cX2_copyFrom 73 = .ok (.getfield 24, 3) := by decide +kernel
theorem dX2_copyFrom_76 : decode cX2_copyFrom 76 = .ok (.iconst 0, 1) := by decide +kernel
theorem dX2_copyFrom_77 : decode cX2_copyFrom 77 = .ok (.aload_n 0, 1) := by decide +kernel
theorem dX2_copyFrom_78 : decode cX2_copyFrom 78 = .ok (.getfield 24, 3) := by decide +kernel
theorem dX2_copyFrom_81 : decode cX2_copyFrom 81 = .ok (.iconst 0, 1) := by decide +kernel
theorem dX2_copyFrom_82 : decode cX2_copyFrom 82 = .ok (.aload_n 0, 1) := by decide +kernel
theorem dX2_copyFrom_83 : decode cX2_copyFrom 83 = .ok (.getfield 24, 3) := by decide +kernel
theorem dX2_copyFrom_86 : decode cX2_copyFrom 86 = .ok (.arraylength, 1) := by decide +kernel
theorem dX2_copyFrom_87 : decode cX2_copyFrom 87 = .ok (.invokestatic 41, 3) := by decide +kernel
theorem dX2_copyFrom_90 : decode cX2_copyFrom 90 = .ok (.aload_n 1, 1) := by decide +kernel
theorem dX2_copyFrom_91 : decode cX2_copyFrom 91 = .ok (.getfield 27, 3) := by decide +kernel
theorem dX2_copyFrom_94 : decode cX2_copyFrom 94 = .ok (.iconst 0, 1) := by decide +kernel
theorem dX2_copyFrom_95 : decode cX2_copyFrom 95 = .ok (.aload_n 0, 1) := by decide +kernel
theorem dX2_copyFrom_96 : decode cX2_copyFrom 96 = .ok (.getfield 27, 3) := by decide +kernel
theorem dX2_copyFrom_99 : decode cX2_copyFrom 99 = .ok (.iconst 0, 1) := by decide +kernel
theorem dX2_copyFrom_100 : decode cX2_copyFrom 100 = .ok (.aload_n 0, 1) := by decide +kernel
theorem dX2_copyFrom_101 : decode cX2_copyFrom 101 = .ok (.getfield 27, 3) := by decide +kernel
theorem dX2_copyFrom_104 : decode cX2_copyFrom 104 = .ok (.arraylength, 1) := by decide +kernel
theorem dX2_copyFrom_105 : decode cX2_copyFrom 105 = .ok (.invokestatic 41, 3) := by decide +kernel
theorem dX2_copyFrom_108 : decode cX2_copyFrom 108 = .ok (.aload_n 1, 1) := by decide +kernel
theorem dX2_copyFrom_109 : decode cX2_copyFrom 109 = .ok (.getfield 30, 3) := by decide +kernel
theorem dX2_copyFrom_112 : decode cX2_copyFrom 112 = .ok (.iconst 0, 1) := by decide +kernel
theorem dX2_copyFrom_113 : decode cX2_copyFrom 113 = .ok (.aload_n 0, 1) := by decide +kernel
theorem dX2_copyFrom_114 : decode cX2_copyFrom 114 = .ok (.getfield 30, 3) := by decide +kernel
theorem dX2_copyFrom_117 : decode cX2_copyFrom 117 = .ok (.iconst 0, 1) := by decide +kernel
theorem dX2_copyFrom_118 : decode cX2_copyFrom 118 = .ok (.aload_n 0, 1) := by decide +kernel
theorem dX2_copyFrom_119 : decode cX2_copyFrom 119 = .ok (.getfield 30, 3) := by decide +kernel
theorem dX2_copyFrom_122 : decode cX2_copyFrom 122 = .ok (.arraylength, 1) := by decide +kernel
theorem dX2_copyFrom_123 : decode cX2_copyFrom 123 = .ok (.invokestatic 41, 3) := by decide +kernel
theorem dX2_copyFrom_126 : decode cX2_copyFrom 126 = .ok (.aload_n 0, 1) := by decide +kernel
theorem dX2_copyFrom_127 : decode cX2_copyFrom 127 = .ok (.aload_n 1, 1) := by decide +kernel
theorem dX2_copyFrom_128 : decode cX2_copyFrom 128 = .ok (.getfield 47, 3) := by decide +kernel
theorem dX2_copyFrom_131 : decode cX2_copyFrom 131 = .ok (.putfield 47, 3) := by decide +kernel
theorem dX2_copyFrom_134 : decode cX2_copyFrom 134 = .ok (.aload_n 0, 1) := by decide +kernel
theorem dX2_copyFrom_135 : decode cX2_copyFrom 135 = .ok (.aload_n 1, 1) := by decide +kernel
theorem dX2_copyFrom_136 : decode cX2_copyFrom 136 = .ok (.getfield 51, 3) := by decide +kernel
theorem dX2_copyFrom_139 : decode cX2_copyFrom 139 = .ok (.putfield 51, 3) := by decide +kernel
theorem dX2_copyFrom_142 : decode cX2_copyFrom 142 = .ok (.aload_n 0, 1) := by decide +kernel
theorem dX2_copyFrom_143 : decode cX2_copyFrom 143 = .ok (.aload_n 1, 1) := by decide +kernel
theorem dX2_copyFrom_144 : decode cX2_copyFrom 144 = .ok (.getfield 54, 3) := by decide +kernel
theorem dX2_copyFrom_147 : decode cX2_copyFrom 147 = .ok (.putfield 54, 3) := by decide +kernel
theorem dX2_copyFrom_150 : decode cX2_copyFrom 150 = .ok (.aload_n 0, 1) := by decide +kernel
theorem dX2_copyFrom_151 : decode cX2_copyFrom 151 = .ok (.aload_n 1, 1) := by decide +kernel
theorem dX2_copyFrom_152 : decode cX2_copyFrom 152 = .ok (.getfield 57, 3) := by decide +kernel
theorem dX2_copyFrom_155 : decode cX2_copyFrom 155 = .ok (.putfield 57, 3) := by decide +kernel
theorem dX2_copyFrom_158 : decode cX2_copyFrom 158 = .ok (.aload_n 0, 1) := by decide +kernel
theorem dX2_copyFrom_159 : decode cX2_copyFrom 159 = .ok (.aload_n 1, 1) := by decide +kernel
theorem dX2_copyFrom_160 : decode cX2_copyFrom 160 = .ok (.getfield 60, 3) := by decide +kernel
theorem dX2_copyFrom_163 : decode cX2_copyFrom 163 = .ok (.putfield 60, 3) := by decide +kernel
theorem dX2_copyFrom_166 : decode cX2_copyFrom 166 = .ok (.return_, 1) := by decide +kernel
theorem dX2_property_0 : decode cX2_property 0 = .ok (.aload_n 0, 1) := by decide +kernel
theorem dX2_property_1 : decode cX2_property 1 = .ok (.getfield 9, 3) := by decide +kernel
theorem dX2_property_4 : decode cX2_property 4 = .ok (.iload_n 1, 1) := by decide +kernel
theorem dX2_property_5 : decode cX2_property 5 = .ok (.bipush 7, 2) := by decide +kernel
theorem dX2_property_7 : decode cX2_property 7 = .ok (.imul, 1) := by decide +kernel
theorem dX2_property_8 : decode cX2_property 8 = .ok (.iload_n 2, 1) := by decide +kernel
theorem dX2_property_9 : decode cX2_property 9 = .ok (.iadd, 1) := by decide +kernel
theorem dX2_property_10 : decode cX2_property 10 = .ok (.iaload, 1) := by decide +kernel
theorem dX2_property_11 : decode cX2_property 11 = .ok (.ireturn, 1) := by decide +kernel
theorem dX2_setProperty_0 : decode cX2_setProperty 0 = .ok (.aload_n 0, 1) := by decide +kernel
theorem dX2_setProperty_1 : decode cX2_setProperty 1 = .ok (.getfield 9, 3) := by decide +kernel
theorem dX2_setProperty_4 : decode cX2_setProperty 4 = .ok (.iload_n 1, 1) := by decide +kernel
theorem dX2_setProperty_5 : decode cX2_setProperty 5 = .ok (.bipush 7, 2) := by decide +kernel
theorem dX2_setProperty_7 : decode cX2_setProperty 7 = .ok (.imul, 1) := by decide +kernel
theorem dX2_setProperty_8 : decode cX2_setProperty 8 = .ok (.iload_n 2, 1) := by decide +kernel
theorem dX2_setProperty_9 : decode cX2_setProperty 9 = .ok (.iadd, 1) := by decide +kernel
theorem dX2_setProperty_10 : decode cX2_setProperty 10 = .ok (.iload_n 3, 1) := by decide +kernel
theorem dX2_setProperty_11 : decode cX2_setProperty 11 = .ok (.iastore, 1) := by decide +kernel
theorem dX2_setProperty_12 : decode cX2_setProperty 12 = .ok (.return_, 1) := by decide +kernel
theorem dX2_impulsePart_0 : decode cX2_impulsePart 0 = .ok (.aload_n 0, 1) := by decide +kernel
theorem dX2_impulsePart_1 : decode cX2_impulsePart 1 = .ok (.getfield 27, 3) := by decide +kernel
theorem dX2_impulsePart_4 : decode cX2_impulsePart 4 = .ok (.iload_n 1, 1) := by decide +kernel
theorem dX2_impulsePart_5 : decode cX2_impulsePart 5 = .ok (.iconst 3, 1) := by decide +kernel
theorem dX2_impulsePart_6 : decode cX2_impulsePart 6 = .ok (.imul, 1) := by decide +kernel
theorem dX2_impulsePart_7 : decode cX2_impulsePart 7 = .ok (.iload_n 2, 1) := by decide +kernel
theorem dX2_impulsePart_8 : decode cX2_impulsePart 8 = .ok (.iadd, 1) := by decide +kernel
theorem dX2_impulsePart_9 : decode cX2_impulsePart 9 = .ok (.iaload, 1) := by decide +kernel
theorem dX2_impulsePart_10 : decode cX2_impulsePart 10 = .ok (.ireturn, 1) := by decide +kernel
theorem dX2_appendThruster_0 : decode cX2_appendThruster 0 = .ok (.aload_n 0, 1) := by decide +kernel
theorem dX2_appendThruster_1 : decode cX2_appendThruster 1 = .ok (.getfield 47, 3) := by decide +kernel
theorem dX2_appendThruster_4 : decode cX2_appendThruster 4 = .ok (.istore 7, 2) := by decide +kernel
theorem dX2_appendThruster_6 : decode cX2_appendThruster 6 = .ok (.aload_n 0, 1) := by decide +kernel
theorem dX2_appendThruster_7 : decode cX2_appendThruster 7 = .ok (.iload 7, 2) := by decide +kernel
theorem dX2_appendThruster_9 : decode cX2_appendThruster 9 = .ok (.iconst 0, 1) := by decide +kernel
theorem dX2_appendThruster_10 : decode cX2_appendThruster 10 = .ok (.iload_n 1, 1) := by decide +kernel
theorem dX2_appendThruster_11 : decode cX2_appendThruster 11 = .ok (.invokevirtual 63, 3) := by decide +kernel
theorem dX2_appendThruster_14 : decode cX2_appendThruster 14 = .ok (.aload_n 0, 1) := by decide +kernel
theorem dX2_appendThruster_15 : decode cX2_appendThruster 15 = .ok (.iload 7, 2) := by decide +kernel
theorem dX2_appendThruster_17 : decode cX2_appendThruster 17 = .ok (.iconst 1, 1) := by decide +kernel
theorem dX2_appendThruster_18 : decode cX2_appendThruster 18 = .ok (.iload_n 2, 1) := by decide +kernel
theorem dX2_appendThruster_19 : decode cX2_appendThruster 19 = .ok (.invokevirtual 63, 3) := by decide +kernel
theorem dX2_appendThruster_22 : decode cX2_appendThruster 22 = .ok (.aload_n 0, 1) := by decide +kernel
theorem dX2_appendThruster_23 : decode cX2_appendThruster 23 = .ok (.iload 7, 2) := by decide +kernel
theorem dX2_appendThruster_25 : decode cX2_appendThruster 25 = .ok (.iconst 2, 1) := by decide +kernel
theorem dX2_appendThruster_26 : decode cX2_appendThruster 26 = .ok (.iload_n 3, 1) := by decide +kernel
theorem dX2_appendThruster_27 : decode cX2_appendThruster 27 = .ok (.invokevirtual 63, 3) := by decide +kernel
theorem dX2_appendThruster_30 : decode cX2_appendThruster 30 = .ok (.aload_n 0, 1) := by decide +kernel
theorem dX2_appendThruster_31 : decode cX2_appendThruster 31 = .ok (.iload 7, 2) := by decide +kernel
theorem dX2_appendThruster_33 : decode cX2_appendThruster 33 = .ok (.iconst 3, 1) := by decide +kernel
theorem dX2_appendThruster_34 : decode cX2_appendThruster 34 = .ok (.iload 4, 2) := by decide +kernel
theorem dX2_appendThruster_36 : decode cX2_appendThruster 36 = .ok (.invokevirtual 63, 3) := by decide +kernel
theorem dX2_appendThruster_39 : decode cX2_appendThruster 39 = .ok (.aload_n 0, 1) := by decide +kernel
theorem dX2_appendThruster_40 : decode cX2_appendThruster 40 = .ok (.iload 7, 2) := by decide +kernel
theorem dX2_appendThruster_42 : decode cX2_appendThruster 42 = .ok (.iconst 4, 1) := by decide +kernel
theorem dX2_appendThruster_43 : decode cX2_appendThruster 43 = .ok (.iload 5, 2) := by decide +kernel
theorem dX2_appendThruster_45 : decode cX2_appendThruster 45 = .ok (.invokevirtual 63, 3) := by decide +kernel
theorem dX2_appendThruster_48 : decode cX2_appendThruster 48 = .ok (.aload_n 0, 1) := by decide +kernel
theorem dX2_appendThruster_49 : decode cX2_appendThruster 49 = .ok (.iload 7, 2) := by decide +kernel
theorem dX2_appendThruster_51 : decode cX2_appendThruster 51 = .ok (.iconst 5, 1) := by decide +kernel
theorem dX2_appendThruster_52 : decode cX2_appendThruster 52 = .ok (.iload 6, 2) := by decide +kernel
theorem dX2_appendThruster_54 : decode cX2_appendThruster 54 = .ok (.invokevirtual 63, 3) := by decide +kernel
theorem dX2_appendThruster_57 : decode cX2_appendThruster 57 = .ok (.aload_n 0, 1) := by decide +kernel
theorem dX2_appendThruster_58 : decode cX2_appendThruster 58 = .ok (.iload 7, 2) := by decide +kernel
theorem dX2_appendThruster_60 : decode cX2_appendThruster 60 = .ok (.bipush 6, 2) := by decide +kernel
theorem dX2_appendThruster_62 : decode cX2_appendThruster 62 = .ok (.iconst 0, 1) := by decide +kernel
theorem dX2_appendThruster_63 : decode cX2_appendThruster 63 = .ok (.invokevirtual 63, 3) := by decide +kernel
theorem dX2_appendThruster_66 : decode cX2_appendThruster 66 = .ok (.aload_n 0, 1) := by decide +kernel
theorem dX2_appendThruster_67 : decode cX2_appendThruster 67 = .ok (.getfield 15, 3) := by decide +kernel
theorem dX2_appendThruster_70 : decode cX2_appendThruster 70 = .ok (.iload 7, 2) := by decide +kernel
theorem dX2_appendThruster_72 : decode cX2_appendThruster 72 = .ok (.iconst 0, 1) := by decide +kernel
theorem dX2_appendThruster_73 : decode cX2_appendThruster 73 = .ok (.iastore, 1) := by decide +kernel
theorem dX2_appendThruster_74 : decode cX2_appendThruster 74 = .ok (.aload_n 0, 1) := by decide +kernel
theorem dX2_appendThruster_75 : decode cX2_appendThruster 75 = .ok (.iload 7, 2) := by decide +kernel
theorem dX2_appendThruster_77 : decode cX2_appendThruster 77 = .ok (.iconst 1, 1) := by decide +kernel
theorem dX2_appendThruster_78 : decode cX2_appendThruster 78 = .ok (.iadd, 1) := by decide +kernel
theorem dX2_appendThruster_79 : decode cX2_appendThruster 79 = .ok (.putfield 47, 3) := by decide +kernel
theorem dX2_appendThruster_82 : decode cX2_appendThruster 82 = .ok (.iload 7, 2) := by decide +kernel
theorem dX2_appendThruster_84 : decode cX2_appendThruster 84 = .ok (.ireturn, 1) := by decide +kernel
theorem dX2_unitPart_0 : decode cX2_unitPart 0 = .ok (.aload_n 0, 1) := by decide +kernel
theorem dX2_unitPart_1 : decode cX2_unitPart 1 = .ok (.iload_n 1, 1) := by decide +kernel
theorem dX2_unitPart_2 : decode cX2_unitPart 2 = .ok (.iconst 3, 1) := by decide +kernel
theorem dX2_unitPart_3 : decode cX2_unitPart 3 = .ok (.invokevirtual 67, 3) := by decide +kernel
theorem dX2_unitPart_6 : decode cX2_unitPart 6 = .ok (.istore_n 3, 1) := by decide +kernel
theorem dX2_unitPart_7 : decode cX2_unitPart 7 = .ok (.getstatic 71, 3) := by decide +kernel
theorem dX2_unitPart_10 : decode cX2_unitPart 10 = .ok (.aload_n 0, 1) := by decide +kernel
theorem dX2_unitPart_11 : decode cX2_unitPart 11 = .ok (.iload_n 1, 1) := by decide +kernel
theorem dX2_unitPart_12 : decode cX2_unitPart 12 = .ok (.iconst 2, 1) := by decide +kernel
theorem dX2_unitPart_13 : decode cX2_unitPart 13 = .ok (.invokevirtual 67, 3) := by decide +kernel
theorem dX2_unitPart_16 : decode cX2_unitPart 16 = .ok (.iaload, 1) := by decide +kernel
theorem dX2_unitPart_17 : decode cX2_unitPart 17 = .ok (.istore 4, 2) := by decide +kernel
theorem dX2_unitPart_19 : decode cX2_unitPart 19 = .ok (.getstatic 74, 3) := by decide +kernel
theorem dX2_unitPart_22 : decode cX2_unitPart 22 = .ok (.aload_n 0, 1) := by decide +kernel
theorem dX2_unitPart_23 : decode cX2_unitPart 23 = .ok (.iload_n 1, 1) := by decide +kernel
theorem dX2_unitPart_24 : decode cX2_unitPart 24 = .ok (.iconst 2, 1) := by decide +kernel
theorem dX2_unitPart_25 : decode cX2_unitPart 25 = .ok (.invokevirtual 67, 3) := by decide +kernel
theorem dX2_unitPart_28 : decode cX2_unitPart 28 = .ok (.iaload, 1) := by decide +kernel
theorem dX2_unitPart_29 : decode cX2_unitPart 29 = .ok (.istore 5, 2) := by decide +kernel
theorem dX2_unitPart_31 : decode cX2_unitPart 31 = .ok (.iload_n 2, 1) := by decide +kernel
theorem dX2_unitPart_32 : decode cX2_unitPart 32 = .ok (.ifCond .ne 8, 3) := by decide +kernel
theorem dX2_unitPart_35 : decode cX2_unitPart 35 = .ok (.iload_n 3, 1) := by decide +kernel
theorem dX2_unitPart_36 : decode cX2_unitPart 36 = .ok (.iload 4, 2) := by decide +kernel
theorem dX2_unitPart_38 : decode cX2_unitPart 38 = .ok (.imul, 1) := by decide +kernel
theorem dX2_unitPart_39 : decode cX2_unitPart 39 = .ok (.ireturn, 1) := by decide +kernel
theorem dX2_unitPart_40 : decode cX2_unitPart 40 = .ok (.iload_n 2, 1) := by decide +kernel
theorem dX2_unitPart_41 : decode cX2_unitPart 41 = .ok (.iconst 1, 1) := by decide +kernel
theorem dX2_unitPart_42 : decode cX2_unitPart 42 = .ok (.if_icmp .ne 8, 3) := by decide +kernel
theorem dX2_unitPart_45 : decode cX2_unitPart 45 = .ok (.iload_n 3, 1) := by decide +kernel
theorem dX2_unitPart_46 : decode cX2_unitPart 46 = .ok (.iload 5, 2) := by decide +kernel
theorem dX2_unitPart_48 : decode cX2_unitPart 48 = .ok (.imul, 1) := by decide +kernel
theorem dX2_unitPart_49 : decode cX2_unitPart 49 = .ok (.ireturn, 1) := by decide +kernel
theorem dX2_unitPart_50 : decode cX2_unitPart 50 = .ok (.iload_n 3, 1) := by decide +kernel
theorem dX2_unitPart_51 : decode cX2_unitPart 51 = .ok (.aload_n 0, 1) := by decide +kernel
theorem dX2_unitPart_52 : decode cX2_unitPart 52 = .ok (.iload_n 1, 1) := by decide +kernel
theorem dX2_unitPart_53 : decode cX2_unitPart 53 = .ok (.iconst 0, 1) := by decide +kernel
theorem dX2_unitPart_54 : decode cX2_unitPart 54 = .ok (.invokevirtual 67, 3) := by decide +kernel
theorem dX2_unitPart_57 : decode cX2_unitPart 57 = .ok (.iload 5, 2) := by decide +kernel
theorem dX2_unitPart_59 : decode cX2_unitPart 59 = .ok (.imul, 1) := by decide +kernel
theorem dX2_unitPart_60 : decode cX2_unitPart 60 = .ok (.aload_n 0, 1) := by decide +kernel
theorem dX2_unitPart_61 : decode cX2_unitPart 61 = .ok (.iload_n 1, 1) := by decide +kernel
theorem dX2_unitPart_62 : decode cX2_unitPart 62 = .ok (.iconst 1, 1) := by decide +kernel
theorem dX2_unitPart_63 : decode cX2_unitPart 63 = .ok (.invokevirtual 67, 3) := by decide +kernel
theorem dX2_unitPart_66 : decode cX2_unitPart 66 = .ok (.iload 4, 2) := by decide +kernel
theorem dX2_unitPart_68 : decode cX2_unitPart 68 = .ok (.imul, 1) := by decide +kernel
theorem dX2_unitPart_69 : decode cX2_unitPart 69 = .ok (.isub, 1) := by decide +kernel
theorem dX2_unitPart_70 : decode cX2_unitPart 70 = .ok (.imul, 1) := by decide +kernel
theorem dX2_unitPart_71 : decode cX2_unitPart 71 = .ok (.ireturn, 1) := by decide +kernel
theorem dX2_fuelOf_0 : decode cX2_fuelOf 0 = .ok (.aload_n 0, 1) := by decide +kernel
theorem dX2_fuelOf_1 : decode cX2_fuelOf 1 = .ok (.getfield 18, 3) := by decide +kernel
theorem dX2_fuelOf_4 : decode cX2_fuelOf 4 = .ok (.aload_n 0, 1) := by decide +kernel
theorem dX2_fuelOf_5 : decode cX2_fuelOf 5 = .ok (.iload_n 1, 1) := by decide +kernel
theorem dX2_fuelOf_6 : decode cX2_fuelOf 6 = .ok (.iconst 4, 1) := by decide +kernel
theorem dX2_fuelOf_7 : decode cX2_fuelOf 7 = .ok (.invokevirtual 67, 3) := by decide +kernel
theorem dX2_fuelOf_10 : decode cX2_fuelOf 10 = .ok (.iaload, 1) := by decide +kernel
theorem dX2_fuelOf_11 : decode cX2_fuelOf 11 = .ok (.ireturn, 1) := by decide +kernel
theorem dX2_isUsable_0 : decode cX2_isUsable 0 = .ok (.aload_n 0, 1) := by decide +kernel
theorem dX2_isUsable_1 : decode cX2_isUsable 1 = .ok (.iload_n 1, 1) := by decide +kernel
theorem dX2_isUsable_2 : decode cX2_isUsable 2 = .ok (.bipush 6, 2) := by decide +kernel
theorem dX2_isUsable_4 : decode cX2_isUsable 4 = .ok (.invokevirtual 67, 3) := by decide +kernel
theorem dX2_isUsable_7 : decode cX2_isUsable 7 = .ok (.ifCond .ne 18, 3) := by decide +kernel
theorem dX2_isUsable_10 : decode cX2_isUsable 10 = .ok (.aload_n 0, 1) := by decide +kernel
theorem dX2_isUsable_11 : decode cX2_isUsable 11 = .ok (.iload_n 1, 1) := by decide +kernel
theorem dX2_isUsable_12 : decode cX2_isUsable 12 = .ok (.invokevirtual 77, 3) := by decide +kernel
theorem dX2_isUsable_15 : decode cX2_isUsable 15 = .ok (.sipush 600, 3) := by decide +kernel
theorem dX2_isUsable_18 : decode cX2_isUsable 18 = .ok (.if_icmp .lt 7, 3) := by decide +kernel
theorem dX2_isUsable_21 : decode cX2_isUsable 21 = .ok (.iconst 1, 1) := by decide +kernel
theorem dX2_isUsable_22 : decode cX2_isUsable 22 = .ok (.goto 4, 3) := by decide +kernel
theorem dX2_isUsable_25 : decode cX2_isUsable 25 = .ok (.iconst 0, 1) := by decide +kernel
theorem dX2_isUsable_26 : decode cX2_isUsable 26 = .ok (.ireturn, 1) := by decide +kernel
theorem dX2_isRunning_0 : decode cX2_isRunning 0 = .ok (.aload_n 0, 1) := by decide +kernel
theorem dX2_isRunning_1 : decode cX2_isRunning 1 = .ok (.iload_n 1, 1) := by decide +kernel
theorem dX2_isRunning_2 : decode cX2_isRunning 2 = .ok (.bipush 6, 2) := by decide +kernel
theorem dX2_isRunning_4 : decode cX2_isRunning 4 = .ok (.invokevirtual 67, 3) := by decide +kernel
theorem dX2_isRunning_7 : decode cX2_isRunning 7 = .ok (.iconst 2, 1) := by decide +kernel
theorem dX2_isRunning_8 : decode cX2_isRunning 8 = .ok (.if_icmp .ne 24, 3) := by decide +kernel
theorem dX2_isRunning_11 : decode cX2_isRunning 11 = .ok (.aload_n 0, 1) := by decide +kernel
theorem dX2_isRunning_12 : decode cX2_isRunning 12 = .ok (.iload_n 1, 1) := by decide +kernel
theorem dX2_isRunning_13 : decode cX2_isRunning 13 = .ok (.invokevirtual 77, 3) := by decide +kernel
theorem dX2_isRunning_16 : decode cX2_isRunning 16 = .ok (.bipush 20, 2) := by decide +kernel
theorem dX2_isRunning_18 : decode cX2_isRunning 18 = .ok (.aload_n 0, 1) := by decide +kernel
theorem dX2_isRunning_19 : decode cX2_isRunning 19 = .ok (.iload_n 1, 1) := by decide +kernel
theorem dX2_isRunning_20 : decode cX2_isRunning 20 = .ok (.iconst 3, 1) := by decide +kernel
theorem dX2_isRunning_21 : decode cX2_isRunning 21 = .ok (.invokevirtual 67, 3) := by decide +kernel
theorem dX2_isRunning_24 : decode cX2_isRunning 24 = .ok (.imul, 1) := by decide +kernel
theorem dX2_isRunning_25 : decode cX2_isRunning 25 = .ok (.if_icmp .lt 7, 3) := by decide +kernel
theorem dX2_isRunning_28 : decode cX2_isRunning 28 = .ok (.iconst 1, 1) := by decide +kernel
theorem dX2_isRunning_29 : decode cX2_isRunning 29 = .ok (.goto 4, 3) := by decide +kernel
theorem dX2_isRunning_32 : decode cX2_isRunning 32 = .ok (.iconst 0, 1) := by decide +kernel
theorem dX2_isRunning_33 : decode cX2_isRunning 33 = .ok (.ireturn, 1) := by decide +kernel
theorem dX2_runningMask_0 : decode cX2_runningMask 0 = .ok (.iconst 0, 1) := by decide +kernel
theorem dX2_runningMask_1 : decode cX2_runningMask 1 = .ok (.istore_n 1, 1) := by decide +kernel
theorem dX2_runningMask_2 : decode cX2_runningMask 2 = .ok (.iconst 0, 1) := by decide +kernel
theorem dX2_runningMask_3 : decode cX2_runningMask 3 = .ok (.istore_n 2, 1) := by decide +kernel
theorem dX2_runningMask_4 : decode cX2_runningMask 4 = .ok (.iload_n 2, 1) := by decide +kernel
theorem dX2_runningMask_5 : decode cX2_runningMask 5 = .ok (.aload_n 0, 1) := by decide +kernel
theorem dX2_runningMask_6 : decode cX2_runningMask 6 = .ok (.getfield 47, 3) := by decide +kernel
theorem dX2_runningMask_9 : decode cX2_runningMask 9 = .ok (.if_icmp .ge 27, 3) := by decide +kernel
theorem dX2_runningMask_12 : decode cX2_runningMask 12 = .ok (.iload_n 1, 1) := by decide +kernel
theorem dX2_runningMask_13 : decode cX2_runningMask 13 = .ok (.aload_n 0, 1) := by decide +kernel
theorem dX2_runningMask_14 : decode cX2_runningMask 14 = .ok (.iload_n 2, 1) := by decide +kernel
theorem dX2_runningMask_15 : decode cX2_runningMask 15 = .ok (.invokevirtual 81, 3) := by decide +kernel
theorem dX2_runningMask_18 : decode cX2_runningMask 18 = .ok (.ifCond .eq 9, 3) := by decide +kernel
theorem dX2_runningMask_21 : decode cX2_runningMask 21 = .ok (.iconst 1, 1) := by decide +kernel
theorem dX2_runningMask_22 : decode cX2_runningMask 22 = .ok (.iload_n 2, 1) := by decide +kernel
theorem dX2_runningMask_23 : decode cX2_runningMask 23 = .ok (.ishl, 1) := by decide +kernel
theorem dX2_runningMask_24 : decode cX2_runningMask 24 = .ok (.goto 4, 3) := by decide +kernel
theorem dX2_runningMask_27 : decode cX2_runningMask 27 = .ok (.iconst 0, 1) := by decide +kernel
theorem dX2_runningMask_28 : decode cX2_runningMask 28 = .ok (.ior, 1) := by decide +kernel
theorem dX2_runningMask_29 : decode cX2_runningMask 29 = .ok (.istore_n 1, 1) := by decide +kernel
theorem dX2_runningMask_30 : decode cX2_runningMask 30 = .ok (.iinc 2 1, 3) := by decide +kernel
theorem dX2_runningMask_33 : decode cX2_runningMask 33 = .ok (.goto (-29), 3) := by decide +kernel
theorem dX2_runningMask_36 : decode cX2_runningMask 36 = .ok (.iload_n 1, 1) := by decide +kernel
theorem dX2_runningMask_37 : decode cX2_runningMask 37 = .ok (.ireturn, 1) := by decide +kernel
theorem dX2_priceOfTick_0 : decode cX2_priceOfTick 0 = .ok (.aload_n 0, 1) := by decide +kernel
theorem dX2_priceOfTick_1 : decode cX2_priceOfTick 1 = .ok (.getfield 18, 3) := by decide +kernel
theorem dX2_priceOfTick_4 : decode cX2_priceOfTick 4 = .ok (.iconst 1, 1) := by decide +kernel
theorem dX2_priceOfTick_5 : decode cX2_priceOfTick 5 = .ok (.aload_n 0, 1) := by decide +kernel
theorem dX2_priceOfTick_6 : decode cX2_priceOfTick 6 = .ok (.iload_n 1, 1) := by decide +kernel
theorem dX2_priceOfTick_7 : decode cX2_priceOfTick 7 = .ok (.iconst 4, 1) := by decide +kernel
theorem dX2_priceOfTick_8 : decode cX2_priceOfTick 8 = .ok (.invokevirtual 67, 3) := by decide +kernel
theorem dX2_priceOfTick_11 : decode cX2_priceOfTick 11 = .ok (.isub, 1) := by decide +kernel
theorem dX2_priceOfTick_12 : decode cX2_priceOfTick 12 = .ok (.iaload, 1) := by decide +kernel
theorem dX2_priceOfTick_13 : decode cX2_priceOfTick 13 = .ok (.istore_n 2, 1) := by decide +kernel
theorem dX2_priceOfTick_14 : decode cX2_priceOfTick 14 = .ok (.aload_n 0, 1) := by decide +kernel
theorem dX2_priceOfTick_15 : decode cX2_priceOfTick 15 = .ok (.iload_n 1, 1) := by decide +kernel
theorem dX2_priceOfTick_16 : decode cX2_priceOfTick 16 = .ok (.iconst 3, 1) := by decide +kernel
theorem dX2_priceOfTick_17 : decode cX2_priceOfTick 17 = .ok (.invokevirtual 67, 3) := by decide +kernel
theorem dX2_priceOfTick_20 : decode cX2_priceOfTick 20 = .ok (.aload_n 0, 1) := by decide +kernel
theorem dX2_priceOfTick_21 : decode cX2_priceOfTick 21 = .ok (.iload_n 1, 1) := by decide +kernel
theorem dX2_priceOfTick_22 : decode cX2_priceOfTick 22 = .ok (.invokevirtual 77, 3) := by decide +kernel
theorem dX2_priceOfTick_25 : decode cX2_priceOfTick 25 = .ok (.iload_n 2, 1) := by decide +kernel
theorem dX2_priceOfTick_26 : decode cX2_priceOfTick 26 = .ok (.if_icmp .ge 7, 3) := by decide +kernel
theorem dX2_priceOfTick_29 : decode cX2_priceOfTick 29 = .ok (.iconst 2, 1) := by decide +kernel
theorem dX2_priceOfTick_30 : decode cX2_priceOfTick 30 = .ok (.goto 4, 3) := by decide +kernel
theorem dX2_priceOfTick_33 : decode cX2_priceOfTick 33 = .ok (.iconst 1, 1) := by decide +kernel
theorem dX2_priceOfTick_34 : decode cX2_priceOfTick 34 = .ok (.imul, 1) := by decide +kernel
theorem dX2_priceOfTick_35 : decode cX2_priceOfTick 35 = .ok (.ireturn, 1) := by decide +kernel
theorem dX2_placeOfSet_0 : decode cX2_placeOfSet 0 = .ok (.iconst 0, 1) := by decide +kernel
theorem dX2_placeOfSet_1 : decode cX2_placeOfSet 1 = .ok (.istore_n 2, 1) := by decide +kernel
theorem dX2_placeOfSet_2 : decode cX2_placeOfSet 2 = .ok (.iload_n 2, 1) := by decide +kernel
theorem dX2_placeOfSet_3 : decode cX2_placeOfSet 3 = .ok (.aload_n 0, 1) := by decide +kernel
theorem dX2_placeOfSet_4 : decode cX2_placeOfSet 4 = .ok (.getfield 51, 3) := by decide +kernel
theorem dX2_placeOfSet_7 : decode cX2_placeOfSet 7 = .ok (.if_icmp .ge 21, 3) := by decide +kernel
theorem dX2_placeOfSet_10 : decode cX2_placeOfSet 10 = .ok (.aload_n 0, 1) := by decide +kernel
theorem dX2_placeOfSet_11 : decode cX2_placeOfSet 11 = .ok (.getfield 21, 3) := by decide +kernel
theorem dX2_placeOfSet_14 : decode cX2_placeOfSet 14 = .ok (.iload_n 2, 1) := by decide +kernel
theorem dX2_placeOfSet_15 : decode cX2_placeOfSet 15 = .ok (.iaload, 1) := by decide +kernel
theorem dX2_placeOfSet_16 : decode cX2_placeOfSet 16 = .ok (.iload_n 1, 1) := by decide +kernel
theorem dX2_placeOfSet_17 : decode cX2_placeOfSet 17 = .ok (.if_icmp .ne 5, 3) := by decide +kernel
theorem dX2_placeOfSet_20 : decode cX2_placeOfSet 20 = .ok (.iload_n 2, 1) := by decide +kernel
theorem dX2_placeOfSet_21 : decode cX2_placeOfSet 21 = .ok (.ireturn, 1) := by decide +kernel
theorem dX2_placeOfSet_22 : decode cX2_placeOfSet 22 = .ok (.iinc 2 1, 3) := by decide +kernel
theorem dX2_placeOfSet_25 : decode cX2_placeOfSet 25 = .ok (.goto (-23), 3) := by decide +kernel
theorem dX2_placeOfSet_28 : decode cX2_placeOfSet 28 = .ok (.iconst (-1), 1) := by decide +kernel
theorem dX2_placeOfSet_29 : decode cX2_placeOfSet 29 = .ok (.ireturn, 1) := by decide +kernel
theorem dX2_appendSet_0 : decode cX2_appendSet 0 = .ok (.aload_n 0, 1) := by decide +kernel
theorem dX2_appendSet_1 : decode cX2_appendSet 1 = .ok (.getfield 21, 3) := by decide +kernel
theorem dX2_appendSet_4 : decode cX2_appendSet 4 = .ok (.aload_n 0, 1) := by decide +kernel
theorem dX2_appendSet_5 : decode cX2_appendSet 5 = .ok (.getfield 51, 3) := by decide +kernel
theorem dX2_appendSet_8 : decode cX2_appendSet 8 = .ok (.iload_n 1, 1) := by decide +kernel
theorem dX2_appendSet_9 : decode cX2_appendSet 9 = .ok (.iastore, 1) := by decide +kernel
theorem dX2_appendSet_10 : decode cX2_appendSet 10 = .ok (.aload_n 0, 1) := by decide +kernel
theorem dX2_appendSet_11 : decode cX2_appendSet 11 = .ok (.dup, 1) := by decide +kernel
theorem dX2_appendSet_12 : decode cX2_appendSet 12 = .ok (.getfield 51, 3) := by decide +kernel
theorem dX2_appendSet_15 : decode cX2_appendSet 15 = .ok (.iconst 1, 1) := by decide +kernel
theorem dX2_appendSet_16 : decode cX2_appendSet 16 = .ok (.iadd, 1) := by decide +kernel
theorem dX2_appendSet_17 : decode cX2_appendSet 17 = .ok (.putfield 51, 3) := by decide +kernel
theorem dX2_appendSet_20 : decode cX2_appendSet 20 = .ok (.aload_n 0, 1) := by decide +kernel
theorem dX2_appendSet_21 : decode cX2_appendSet 21 = .ok (.getfield 51, 3) := by decide +kernel
theorem dX2_appendSet_24 : decode cX2_appendSet 24 = .ok (.ireturn, 1) := by decide +kernel
theorem dX2_removeSet_0 : decode cX2_removeSet 0 = .ok (.iload_n 1, 1) := by decide +kernel
theorem dX2_removeSet_1 : decode cX2_removeSet 1 = .ok (.istore_n 2, 1) := by decide +kernel
theorem dX2_removeSet_2 : decode cX2_removeSet 2 = .ok (.iload_n 2, 1) := by decide +kernel
theorem dX2_removeSet_3 : decode cX2_removeSet 3 = .ok (.aload_n 0, 1) := by decide +kernel
theorem dX2_removeSet_4 : decode cX2_removeSet 4 = .ok (.getfield 51, 3) := by decide +kernel
theorem dX2_removeSet_7 : decode cX2_removeSet 7 = .ok (.iconst 1, 1) := by decide +kernel
theorem dX2_removeSet_8 : decode cX2_removeSet 8 = .ok (.isub, 1) := by decide +kernel
theorem dX2_removeSet_9 : decode cX2_removeSet 9 = .ok (.if_icmp .ge 23, 3) := by decide +kernel
theorem dX2_removeSet_12 : decode cX2_removeSet 12 = .ok (.aload_n 0, 1) := by decide +kernel
theorem dX2_removeSet_13 : decode cX2_removeSet 13 = .ok (.getfield 21, 3) := by decide +kernel
theorem dX2_removeSet_16 : decode cX2_removeSet 16 = .ok (.iload_n 2, 1) := by decide +kernel
theorem dX2_removeSet_17 : decode cX2_removeSet 17 = .ok (.aload_n 0, 1) := by decide +kernel
theorem dX2_removeSet_18 : decode cX2_removeSet 18 = .ok (.getfield 21, 3) := by decide +kernel
theorem dX2_removeSet_21 : decode cX2_removeSet 21 = .ok (.iload_n 2, 1) := by decide +kernel
theorem dX2_removeSet_22 : decode cX2_removeSet 22 = .ok (.iconst 1, 1) := by decide +kernel
theorem dX2_removeSet_23 : decode cX2_removeSet 23 = .ok (.iadd, 1) := by decide +kernel
theorem dX2_removeSet_24 : decode cX2_removeSet 24 = .ok (.iaload, 1) := by decide +kernel
theorem dX2_removeSet_25 : decode cX2_removeSet 25 = .ok (.iastore, 1) := by decide +kernel
theorem dX2_removeSet_26 : decode cX2_removeSet 26 = .ok (.iinc 2 1, 3) := by decide +kernel
theorem dX2_removeSet_29 : decode cX2_removeSet 29 = .ok (.goto (-27), 3) := by decide +kernel
theorem dX2_removeSet_32 : decode cX2_removeSet 32 = .ok (.aload_n 0, 1) := by decide +kernel
theorem dX2_removeSet_33 : decode cX2_removeSet 33 = .ok (.dup, 1) := by decide +kernel
theorem dX2_removeSet_34 : decode cX2_removeSet 34 = .ok (.getfield 51, 3) := by decide +kernel
theorem dX2_removeSet_37 : decode cX2_removeSet 37 = .ok (.iconst 1, 1) := by decide +kernel
theorem dX2_removeSet_38 : decode cX2_removeSet 38 = .ok (.isub, 1) := by decide +kernel
theorem dX2_removeSet_39 : decode cX2_removeSet 39 = .ok (.putfield 51, 3) := by decide +kernel
theorem dX2_removeSet_42 : decode cX2_removeSet 42 = .ok (.aload_n 0, 1) := by decide +kernel
theorem dX2_removeSet_43 : decode cX2_removeSet 43 = .ok (.getfield 51, 3) := by decide +kernel
theorem dX2_removeSet_46 : decode cX2_removeSet 46 = .ok (.ireturn, 1) := by decide +kernel
theorem dX2_forbids_0 : decode cX2_forbids 0 = .ok (.iconst 0, 1) := by decide +kernel
theorem dX2_forbids_1 : decode cX2_forbids 1 = .ok (.istore_n 2, 1) := by decide +kernel
theorem dX2_forbids_2 : decode cX2_forbids 2 = .ok (.iload_n 2, 1) := by decide +kernel
theorem dX2_forbids_3 : decode cX2_forbids 3 = .ok (.aload_n 0, 1) := by decide +kernel
theorem dX2_forbids_4 : decode cX2_forbids 4 = .ok (.getfield 51, 3) := by decide +kernel
theorem dX2_forbids_7 : decode cX2_forbids 7 = .ok (.if_icmp .ge 28, 3) := by decide +kernel
theorem dX2_forbids_10 : decode cX2_forbids 10 = .ok (.iload_n 1, 1) := by decide +kernel
theorem dX2_forbids_11 : decode cX2_forbids 11 = .ok (.aload_n 0, 1) := by decide +kernel
theorem dX2_forbids_12 : decode cX2_forbids 12 = .ok (.getfield 21, 3) := by decide +kernel
theorem dX2_forbids_15 : decode cX2_forbids 15 = .ok (.iload_n 2, 1) := by decide +kernel
theorem dX2_forbids_16 : decode cX2_forbids 16 = .ok (.iaload, 1) := by decide +kernel
theorem dX2_forbids_17 : decode cX2_forbids 17 = .ok (.iand, 1) := by decide +kernel
theorem dX2_forbids_18 : decode cX2_forbids 18 = .ok (.aload_n 0, 1) := by decide +kernel
theorem dX2_forbids_19 : decode cX2_forbids 19 = .ok (.getfield 21, 3) := by decide +kernel
theorem dX2_forbids_22 : decode cX2_forbids 22 = .ok (.iload_n 2, 1) := by decide +kernel
theorem dX2_forbids_23 : decode cX2_forbids 23 = .ok (.iaload, 1) := by decide +kernel
theorem dX2_forbids_24 : decode cX2_forbids 24 = .ok (.if_icmp .ne 5, 3) := by decide +kernel
theorem dX2_forbids_27 : decode cX2_forbids 27 = .ok (.iconst 1, 1) := by decide +kernel
theorem dX2_forbids_28 : decode cX2_forbids 28 = .ok (.ireturn, 1) := by decide +kernel
theorem dX2_forbids_29 : decode cX2_forbids 29 = .ok (.iinc 2 1, 3) := by decide +kernel
theorem dX2_forbids_32 : decode cX2_forbids 32 = .ok (.goto (-30), 3) := by decide +kernel
theorem dX2_forbids_35 : decode cX2_forbids 35 = .ok (.iconst 0, 1) := by decide +kernel
theorem dX2_forbids_36 : decode cX2_forbids 36 = .ok (.ireturn, 1) := by decide +kernel
theorem dX2_insertRequest_0 : decode cX2_insertRequest 0 = .ok (.aload_n 0, 1) := by decide +kernel
theorem dX2_insertRequest_1 : decode cX2_insertRequest 1 = .ok (.getfield 54, 3) := by decide +kernel
theorem dX2_insertRequest_4 : decode cX2_insertRequest 4 = .ok (.iconst 3, 1) := by decide +kernel
theorem dX2_insertRequest_5 : decode cX2_insertRequest 5 = .ok (.imul, 1) := by decide +kernel
theorem dX2_insertRequest_6 : decode cX2_insertRequest 6 = .ok (.istore 5, 2) := by decide +kernel
theorem dX2_insertRequest_8 : decode cX2_insertRequest 8 = .ok (.iload 5, 2) := by decide +kernel
theorem dX2_insertRequest_10 : decode cX2_insertRequest 10 = .ok (.iconst 3, 1) := by decide +kernel
theorem dX2_insertRequest_11 : decode cX2_insertRequest 11 = .ok (.iadd, 1) := by decide +kernel
theorem dX2_insertRequest_12 : decode cX2_insertRequest 12 = .ok (.aload_n 0, 1) := by decide +kernel
theorem dX2_insertRequest_13 : decode cX2_insertRequest 13 = .ok (.getfield 24, 3) := by decide +kernel
theorem dX2_insertRequest_16 : decode cX2_insertRequest 16 = .ok (.arraylength, 1) := by decide +kernel
theorem dX2_insertRequest_17 : decode cX2_insertRequest 17 = .ok (.if_icmp .le 4, 3) := by decide +kernel
theorem dX2_insertRequest_20 : decode cX2_insertRequest 20 = .ok (.return_, 1) := by decide +kernel
theorem dX2_insertRequest_21 : decode cX2_insertRequest 21 = .ok (.iload 4, 2) := by decide +kernel
theorem dX2_insertRequest_23 : decode cX2_insertRequest 23 = .ok (.ifCond .eq 18, 3) := by decide +kernel
theorem dX2_insertRequest_26 : decode cX2_insertRequest 26 = .ok (.aload_n 0, 1) := by decide +kernel
theorem dX2_insertRequest_27 : decode cX2_insertRequest 27 = .ok (.getfield 24, 3) := by decide +kernel
theorem dX2_insertRequest_30 : decode cX2_insertRequest 30 = .ok (.iconst 0, 1) := by decide +kernel
theorem dX2_insertRequest_31 : decode cX2_insertRequest 31 = .ok (.aload_n 0, 1) := by decide +kernel
theorem dX2_insertRequest_32 : decode cX2_insertRequest 32 = .ok (.getfield 24, 3) := by decide +kernel
theorem dX2_insertRequest_35 : decode cX2_insertRequest 35 = .ok (.iconst 3, 1) := by decide +kernel
theorem dX2_insertRequest_36 : decode cX2_insertRequest 36 = .ok (.iload 5, 2) := by decide +kernel
theorem dX2_insertRequest_38 : decode cX2_insertRequest 38 = .ok (.invokestatic 41, 3) := by decide +kernel
theorem dX2_insertRequest_41 : decode cX2_insertRequest 41 = .ok (.iload 4, 2) := by decide +kernel
theorem dX2_insertRequest_43 : decode cX2_insertRequest 43 = .ok (.ifCond .eq 7, 3) := by decide +kernel
theorem dX2_insertRequest_46 : decode cX2_insertRequest 46 = .ok (.iconst 0, 1) := by decide +kernel
theorem dX2_insertRequest_47 : decode cX2_insertRequest 47 = .ok (.goto 5, 3) := by decide +kernel
theorem dX2_insertRequest_50 : decode cX2_insertRequest 50 = .ok (.iload 5, 2) := by decide +kernel
theorem dX2_insertRequest_52 : decode cX2_insertRequest 52 = .ok (.istore 6, 2) := by decide +kernel
theorem dX2_insertRequest_54 : decode cX2_insertRequest 54 = .ok (.aload_n 0, 1) := by decide +kernel
theorem dX2_insertRequest_55 : decode cX2_insertRequest 55 = .ok (.getfield 24, 3) := by decide +kernel
theorem dX2_insertRequest_58 : decode cX2_insertRequest 58 = .ok (.iload 6, 2) := by decide +kernel
theorem dX2_insertRequest_60 : decode cX2_insertRequest 60 = .ok (.iload_n 1, 1) := by decide +kernel
theorem dX2_insertRequest_61 : decode cX2_insertRequest 61 = .ok (.iastore, 1) := by decide +kernel
theorem dX2_insertRequest_62 : decode cX2_insertRequest 62 = .ok (.aload_n 0, 1) := by decide +kernel
theorem dX2_insertRequest_63 : decode cX2_insertRequest 63 = .ok (.getfield 24, 3) := by decide +kernel
theorem dX2_insertRequest_66 : decode cX2_insertRequest 66 = .ok (.iload 6, 2) := by decide +kernel
theorem dX2_insertRequest_68 : decode cX2_insertRequest 68 = .ok (.iconst 1, 1) := by decide +kernel
theorem dX2_insertRequest_69 : decode cX2_insertRequest 69 = .ok (.iadd, 1) := by decide +kernel
theorem dX2_insertRequest_70 : decode cX2_insertRequest 70 = .ok (.iload_n 2, 1) := by decide +kernel
theorem dX2_insertRequest_71 : decode cX2_insertRequest 71 = .ok (.iastore, 1) := by decide +kernel
theorem dX2_insertRequest_72 : decode cX2_insertRequest 72 = .ok (.aload_n 0, 1) := by decide +kernel
theorem dX2_insertRequest_73 : decode cX2_insertRequest 73 = .ok (.getfield 24, 3) := by decide +kernel
theorem dX2_insertRequest_76 : decode cX2_insertRequest 76 = .ok (.iload 6, 2) := by decide +kernel
theorem dX2_insertRequest_78 : decode cX2_insertRequest 78 = .ok (.iconst 2, 1) := by decide +kernel
theorem dX2_insertRequest_79 : decode cX2_insertRequest 79 = .ok (.iadd, 1) := by decide +kernel
theorem dX2_insertRequest_80 : decode cX2_insertRequest 80 = .ok (.iload_n 3, 1) := by decide +kernel
theorem dX2_insertRequest_81 : decode cX2_insertRequest 81 = .ok (.iastore, 1) := by decide +kernel
theorem dX2_insertRequest_82 : decode cX2_insertRequest 82 = .ok (.aload_n 0, 1) := by decide +kernel
theorem dX2_insertRequest_83 : decode cX2_insertRequest 83 = .ok (.dup, 1) := by decide +kernel
theorem dX2_insertRequest_84 : decode cX2_insertRequest 84 = .ok (.getfield 54, 3) := by decide +kernel
theorem dX2_insertRequest_87 : decode cX2_insertRequest 87 = .ok (.iconst 1, 1) := by decide +kernel
theorem dX2_insertRequest_88 : decode cX2_insertRequest 88 = .ok (.iadd, 1) := by decide +kernel
theorem dX2_insertRequest_89 : decode cX2_insertRequest 89 = .ok (.putfield 54, 3) := by decide +kernel
theorem dX2_insertRequest_92 : decode cX2_insertRequest 92 = .ok (.return_, 1) := by decide +kernel
theorem dX2_removeRequest_0 : decode cX2_removeRequest 0 = .ok (.iload_n 1, 1) := by decide +kernel
theorem dX2_removeRequest_1 : decode cX2_removeRequest 1 = .ok (.iconst 1, 1) := by decide +kernel
theorem dX2_removeRequest_2 : decode cX2_removeRequest 2 = .ok (.iadd, 1) := by decide +kernel
theorem dX2_removeRequest_3 : decode cX2_removeRequest 3 = .ok (.iconst 3, 1) := by decide +kernel
theorem dX2_removeRequest_4 : decode cX2_removeRequest 4 = .ok (.imul, 1) := by decide +kernel
theorem dX2_removeRequest_5 : decode cX2_removeRequest 5 = .ok (.istore_n 2, 1) := by decide +kernel
theorem dX2_removeRequest_6 : decode cX2_removeRequest 6 = .ok (.aload_n 0, 1) := by decide +kernel
theorem dX2_removeRequest_7 : decode cX2_removeRequest 7 = .ok (.getfield 24, 3) := by decide +kernel
theorem dX2_removeRequest_10 : decode cX2_removeRequest 10 = .ok (.iload_n 2, 1) := by decide +kernel
theorem dX2_removeRequest_11 : decode cX2_removeRequest 11 = .ok (.aload_n 0, 1) := by decide +kernel
theorem dX2_removeRequest_12 : decode cX2_removeRequest 12 = .ok (.getfield 24, 3) := by decide +kernel
theorem dX2_removeRequest_15 : decode cX2_removeRequest 15 = .ok (.iload_n 1, 1) := by decide +kernel
theorem dX2_removeRequest_16 : decode cX2_removeRequest 16 = .ok (.iconst 3, 1) := by decide +kernel
theorem dX2_removeRequest_17 : decode cX2_removeRequest 17 = .ok (.imul, 1) := by decide +kernel
theorem dX2_removeRequest_18 : decode cX2_removeRequest 18 = .ok (.aload_n 0, 1) := by decide +kernel
theorem dX2_removeRequest_19 : decode cX2_removeRequest 19 = .ok (.getfield 54, 3) := by decide +kernel
theorem dX2_removeRequest_22 : decode cX2_removeRequest 22 = .ok (.iconst 3, 1) := by decide +kernel
theorem dX2_removeRequest_23 : decode cX2_removeRequest 23 = .ok (.imul, 1) := by decide +kernel
theorem dX2_removeRequest_24 : decode cX2_removeRequest 24 = .ok (.iload_n 2, 1) := by decide +kernel
theorem dX2_removeRequest_25 : decode cX2_removeRequest 25 = .ok (.isub, 1) := by decide +kernel
theorem dX2_removeRequest_26 : decode cX2_removeRequest 26 = .ok (.invokestatic 41, 3) := by decide +kernel
theorem dX2_removeRequest_29 : decode cX2_removeRequest 29 = .ok (.aload_n 0, 1) := by decide +kernel
theorem dX2_removeRequest_30 : decode cX2_removeRequest 30 = .ok (.dup, 1) := by decide +kernel
theorem dX2_removeRequest_31 : decode cX2_removeRequest 31 = .ok (.getfield 54, 3) := by decide +kernel
theorem dX2_removeRequest_34 : decode cX2_removeRequest 34 = .ok (.iconst 1, 1) := by decide +kernel
theorem dX2_removeRequest_35 : decode cX2_removeRequest 35 = .ok (.isub, 1) := by decide +kernel
theorem dX2_removeRequest_36 : decode cX2_removeRequest 36 = .ok (.putfield 54, 3) := by decide +kernel
theorem dX2_removeRequest_39 : decode cX2_removeRequest 39 = .ok (.return_, 1) := by decide +kernel
theorem dX2_takeTarget_0 : decode cX2_takeTarget 0 = .ok (.iconst 0, 1) := by decide +kernel
theorem dX2_takeTarget_1 : decode cX2_takeTarget 1 = .ok (.istore_n 2, 1) := by decide +kernel
theorem dX2_takeTarget_2 : decode cX2_takeTarget 2 = .ok (.iload_n 2, 1) := by decide +kernel
theorem dX2_takeTarget_3 : decode cX2_takeTarget 3 = .ok (.iconst 3, 1) := by decide +kernel
theorem dX2_takeTarget_4 : decode cX2_takeTarget 4 = .ok (.if_icmp .ge 79, 3) := by decide +kernel
theorem dX2_takeTarget_7 : decode cX2_takeTarget 7 = .ok (.aload_n 0, 1) := by decide +kernel
theorem dX2_takeTarget_8 : decode cX2_takeTarget 8 = .ok (.iconst 0, 1) := by decide +kernel
theorem dX2_takeTarget_9 : decode cX2_takeTarget 9 = .ok (.iload_n 2, 1) := by decide +kernel
theorem dX2_takeTarget_10 : decode cX2_takeTarget 10 = .ok (.invokevirtual 85, 3) := by decide +kernel
theorem dX2_takeTarget_13 : decode cX2_takeTarget 13 = .ok (.aload_n 0, 1) := by decide +kernel
theorem dX2_takeTarget_14 : decode cX2_takeTarget 14 = .ok (.getfield 54, 3) := by decide +kernel
theorem dX2_takeTarget_17 : decode cX2_takeTarget 17 = .ok (.ifCond .le 12, 3) := by decide +kernel
theorem dX2_takeTarget_20 : decode cX2_takeTarget 20 = .ok (.aload_n 0, 1) := by decide +kernel
theorem dX2_takeTarget_21 : decode cX2_takeTarget 21 = .ok (.getfield 24, 3) := by decide +kernel
theorem dX2_takeTarget_24 : decode cX2_takeTarget 24 = .ok (.iload_n 2, 1) := by decide +kernel
theorem dX2_takeTarget_25 : decode cX2_takeTarget 25 = .ok (.iaload, 1) := by decide +kernel
theorem dX2_takeTarget_26 : decode cX2_takeTarget 26 = .ok (.goto 4, 3) := by decide +kernel
theorem dX2_takeTarget_29 : decode cX2_takeTarget 29 = .ok (.iconst 0, 1) := by decide +kernel
theorem dX2_takeTarget_30 : decode cX2_takeTarget 30 = .ok (.iadd, 1) := by decide +kernel
theorem dX2_takeTarget_31 : decode cX2_takeTarget 31 = .ok (.istore_n 3, 1) := by decide +kernel
theorem dX2_takeTarget_32 : decode cX2_takeTarget 32 = .ok (.iconst 0, 1) := by decide +kernel
theorem dX2_takeTarget_33 : decode cX2_takeTarget 33 = .ok (.istore 4, 2) := by decide +kernel
theorem dX2_takeTarget_35 : decode cX2_takeTarget 35 = .ok (.iload 4, 2) := by decide +kernel
theorem dX2_takeTarget_37 : decode cX2_takeTarget 37 = .ok (.aload_n 0, 1) := by decide +kernel
theorem dX2_takeTarget_38 : decode cX2_takeTarget 38 = .ok (.getfield 47, 3) := by decide +kernel
theorem dX2_takeTarget_41 : decode cX2_takeTarget 41 = .ok (.if_icmp .ge 26, 3) := by decide +kernel
theorem dX2_takeTarget_44 : decode cX2_takeTarget 44 = .ok (.iload_n 3, 1) := by decide +kernel
theorem dX2_takeTarget_45 : decode cX2_takeTarget 45 = .ok (.iload_n 1, 1) := by decide +kernel
theorem dX2_takeTarget_46 : decode cX2_takeTarget 46 = .ok (.iload 4, 2) := by decide +kernel
theorem dX2_takeTarget_48 : decode cX2_takeTarget 48 = .ok (.invokestatic 88, 3) := by decide +kernel
theorem dX2_takeTarget_51 : decode cX2_takeTarget 51 = .ok (.aload_n 0, 1) := by decide +kernel
theorem dX2_takeTarget_52 : decode cX2_takeTarget 52 = .ok (.iload 4, 2) := by decide +kernel
theorem dX2_takeTarget_54 : decode cX2_takeTarget 54 = .ok (.iload_n 2, 1) := by decide +kernel
theorem dX2_takeTarget_55 : decode cX2_takeTarget 55 = .ok (.invokevirtual 91, 3) := by decide +kernel
theorem dX2_takeTarget_58 : decode cX2_takeTarget 58 = .ok (.imul, 1) := by decide +kernel
theorem dX2_takeTarget_59 : decode cX2_takeTarget 59 = .ok (.isub, 1) := by decide +kernel
theorem dX2_takeTarget_60 : decode cX2_takeTarget 60 = .ok (.istore_n 3, 1) := by decide +kernel
theorem dX2_takeTarget_61 : decode cX2_takeTarget 61 = .ok (.iinc 4 1, 3) := by decide +kernel
theorem dX2_takeTarget_64 : decode cX2_takeTarget 64 = .ok (.goto (-29), 3) := by decide +kernel
theorem dX2_takeTarget_67 : decode cX2_takeTarget 67 = .ok (.aload_n 0, 1) := by decide +kernel
theorem dX2_takeTarget_68 : decode cX2_takeTarget 68 = .ok (.getfield 27, 3) := by decide +kernel
theorem dX2_takeTarget_71 : decode cX2_takeTarget 71 = .ok (.bipush 6, 2) := by decide +kernel
theorem dX2_takeTarget_73 : decode cX2_takeTarget 73 = .ok (.iload_n 2, 1) := by decide +kernel
theorem dX2_takeTarget_74 : decode cX2_takeTarget 74 = .ok (.iadd, 1) := by decide +kernel
theorem dX2_takeTarget_75 : decode cX2_takeTarget 75 = .ok (.iload_n 3, 1) := by decide +kernel
theorem dX2_takeTarget_76 : decode cX2_takeTarget 76 = .ok (.iastore, 1) := by decide +kernel
theorem dX2_takeTarget_77 : decode cX2_takeTarget 77 = .ok (.iinc 2 1, 3) := by decide +kernel
theorem dX2_takeTarget_80 : decode cX2_takeTarget 80 = .ok (.goto (-78), 3) := by decide +kernel
theorem dX2_takeTarget_83 : decode cX2_takeTarget 83 = .ok (.aload_n 0, 1) := by decide +kernel
theorem dX2_takeTarget_84 : decode cX2_takeTarget 84 = .ok (.getfield 54, 3) := by decide +kernel
theorem dX2_takeTarget_87 : decode cX2_takeTarget 87 = .ok (.ifCond .le 8, 3) := by decide +kernel
theorem dX2_takeTarget_90 : decode cX2_takeTarget 90 = .ok (.aload_n 0, 1) := by decide +kernel
theorem dX2_takeTarget_91 : decode cX2_takeTarget 91 = .ok (.iconst 0, 1) := by decide +kernel
theorem dX2_takeTarget_92 : decode cX2_takeTarget 92 = .ok (.invokevirtual 94, 3) := by decide +kernel
theorem dX2_takeTarget_95 : decode cX2_takeTarget 95 = .ok (.return_, 1) := by decide +kernel
theorem dX2_ranTicks_0 : decode cX2_ranTicks 0 = .ok (.iload_n 0, 1) := by decide +kernel
theorem dX2_ranTicks_1 : decode cX2_ranTicks 1 = .ok (.iload_n 1, 1) := by decide +kernel
theorem dX2_ranTicks_2 : decode cX2_ranTicks 2 = .ok (.ishr, 1) := by decide +kernel
theorem dX2_ranTicks_3 : decode cX2_ranTicks 3 = .ok (.iconst 1, 1) := by decide +kernel
theorem dX2_ranTicks_4 : decode cX2_ranTicks 4 = .ok (.iand, 1) := by decide +kernel
theorem dX2_ranTicks_5 : decode cX2_ranTicks 5 = .ok (.bipush 20, 2) := by decide +kernel
theorem dX2_ranTicks_7 : decode cX2_ranTicks 7 = .ok (.imul, 1) := by decide +kernel
theorem dX2_ranTicks_8 : decode cX2_ranTicks 8 = .ok (.ireturn, 1) := by decide +kernel
theorem dX2_setPulses_0 : decode cX2_setPulses 0 = .ok (.iconst 0, 1) := by decide +kernel
theorem dX2_setPulses_1 : decode cX2_setPulses 1 = .ok (.istore_n 2, 1) := by decide +kernel
theorem dX2_setPulses_2 : decode cX2_setPulses 2 = .ok (.aload_n 0, 1) := by decide +kernel
theorem dX2_setPulses_3 : decode cX2_setPulses 3 = .ok (.iconst 0, 1) := by decide +kernel
theorem dX2_setPulses_4 : decode cX2_setPulses 4 = .ok (.putfield 60, 3) := by decide +kernel
theorem dX2_setPulses_7 : decode cX2_setPulses 7 = .ok (.iconst 0, 1) := by decide +kernel
theorem dX2_setPulses_8 : decode cX2_setPulses 8 = .ok (.istore_n 3, 1) := by decide +kernel
theorem dX2_setPulses_9 : decode cX2_setPulses 9 = .ok (.iload_n 3, 1) := by decide +kernel
theorem dX2_setPulses_10 : decode cX2_setPulses 10 = .ok (.aload_n 0, 1) := by decide +kernel
theorem dX2_setPulses_11 : decode cX2_setPulses 11 = .ok (.getfield 47, 3) := by decide +kernel
theorem dX2_setPulses_14 : decode cX2_setPulses 14 = .ok (.if_icmp .ge 71, 3) := by decide +kernel
theorem dX2_setPulses_17 : decode cX2_setPulses 17 = .ok (.aload_n 0, 1) := by decide +kernel
theorem dX2_setPulses_18 : decode cX2_setPulses 18 = .ok (.getfield 15, 3) := by decide +kernel
theorem dX2_setPulses_21 : decode cX2_setPulses 21 = .ok (.iload_n 3, 1) := by decide +kernel
theorem dX2_setPulses_22 : decode cX2_setPulses 22 = .ok (.aload_n 1, 1) := by decide +kernel
theorem dX2_setPulses_23 : decode cX2_setPulses 23 = .ok (.iload_n 3, 1) := by decide +kernel
theorem dX2_setPulses_24 : decode cX2_setPulses 24 = .ok (.aload_n 0, 1) := by decide +kernel
theorem dX2_setPulses_25 : decode cX2_setPulses 25 = .ok (.iload_n 3, 1) := by decide +kernel
theorem dX2_setPulses_26 : decode cX2_setPulses 26 = .ok (.iconst 5, 1) := by decide +kernel
theorem dX2_setPulses_27 : decode cX2_setPulses 27 = .ok (.invokevirtual 67, 3) := by decide +kernel
theorem dX2_setPulses_30 : decode cX2_setPulses 30 = .ok (.invokevirtual 98, 3) := by decide +kernel
theorem dX2_setPulses_33 : decode cX2_setPulses 33 = .ok (.iastore, 1) := by decide +kernel
theorem dX2_setPulses_34 : decode cX2_setPulses 34 = .ok (.iload_n 2, 1) := by decide +kernel
theorem dX2_setPulses_35 : decode cX2_setPulses 35 = .ok (.aload_n 0, 1) := by decide +kernel
theorem dX2_setPulses_36 : decode cX2_setPulses 36 = .ok (.getfield 15, 3) := by decide +kernel
theorem dX2_setPulses_39 : decode cX2_setPulses 39 = .ok (.iload_n 3, 1) := by decide +kernel
theorem dX2_setPulses_40 : decode cX2_setPulses 40 = .ok (.iaload, 1) := by decide +kernel
theorem dX2_setPulses_41 : decode cX2_setPulses 41 = .ok (.ifCond .le 9, 3) := by decide +kernel
theorem dX2_setPulses_44 : decode cX2_setPulses 44 = .ok (.iconst 1, 1) := by decide +kernel
theorem dX2_setPulses_45 : decode cX2_setPulses 45 = .ok (.iload_n 3, 1) := by decide +kernel
theorem dX2_setPulses_46 : decode cX2_setPulses 46 = .ok (.ishl, 1) := by decide +kernel
theorem dX2_setPulses_47 : decode cX2_setPulses 47 = .ok (.goto 4, 3) := by decide +kernel
theorem dX2_setPulses_50 : decode cX2_setPulses 50 = .ok (.iconst 0, 1) := by decide +kernel
theorem dX2_setPulses_51 : decode cX2_setPulses 51 = .ok (.ior, 1) := by decide +kernel
theorem dX2_setPulses_52 : decode cX2_setPulses 52 = .ok (.istore_n 2, 1) := by decide +kernel
theorem dX2_setPulses_53 : decode cX2_setPulses 53 = .ok (.aload_n 0, 1) := by decide +kernel
theorem dX2_setPulses_54 : decode cX2_setPulses 54 = .ok (.dup, 1) := by decide +kernel
theorem dX2_setPulses_55 : decode cX2_setPulses 55 = .ok (.getfield 60, 3) := by decide +kernel
theorem dX2_setPulses_58 : decode cX2_setPulses 58 = .ok (.aload_n 0, 1) := by decide +kernel
theorem dX2_setPulses_59 : decode cX2_setPulses 59 = .ok (.iload_n 3, 1) := by decide +kernel
theorem dX2_setPulses_60 : decode cX2_setPulses 60 = .ok (.bipush 6, 2) := by decide +kernel
theorem dX2_setPulses_62 : decode cX2_setPulses 62 = .ok (.invokevirtual 67, 3) := by decide +kernel
theorem dX2_setPulses_65 : decode cX2_setPulses 65 = .ok (.ifCond .ne 9, 3) := by decide +kernel
theorem dX2_setPulses_68 : decode cX2_setPulses 68 = .ok (.iconst 1, 1) := by decide +kernel
theorem dX2_setPulses_69 : decode cX2_setPulses 69 = .ok (.iload_n 3, 1) := by decide +kernel
theorem dX2_setPulses_70 : decode cX2_setPulses 70 = .ok (.ishl, 1) := by decide +kernel
theorem dX2_setPulses_71 : decode cX2_setPulses 71 = .ok (.goto 4, 3) := by decide +kernel
theorem dX2_setPulses_74 : decode cX2_setPulses 74 = .ok (.iconst 0, 1) := by decide +kernel
theorem dX2_setPulses_75 : decode cX2_setPulses 75 = .ok (.ior, 1) := by decide +kernel
theorem dX2_setPulses_76 : decode cX2_setPulses 76 = .ok (.putfield 60, 3) := by decide +kernel
theorem dX2_setPulses_79 : decode cX2_setPulses 79 = .ok (.iinc 3 1, 3) := by decide +kernel
theorem dX2_setPulses_82 : decode cX2_setPulses 82 = .ok (.goto (-73), 3) := by decide +kernel
theorem dX2_setPulses_85 : decode cX2_setPulses 85 = .ok (.iload_n 2, 1) := by decide +kernel
theorem dX2_setPulses_86 : decode cX2_setPulses 86 = .ok (.ireturn, 1) := by decide +kernel
theorem dX2_deliver_0 : decode cX2_deliver 0 = .ok (.iconst 0, 1) := by decide +kernel
theorem dX2_deliver_1 : decode cX2_deliver 1 = .ok (.istore_n 2, 1) := by decide +kernel
theorem dX2_deliver_2 : decode cX2_deliver 2 = .ok (.iload_n 2, 1) := by decide +kernel
theorem dX2_deliver_3 : decode cX2_deliver 3 = .ok (.iconst 3, 1) := by decide +kernel
theorem dX2_deliver_4 : decode cX2_deliver 4 = .ok (.if_icmp .ge 127, 3) := by decide +kernel
theorem dX2_deliver_7 : decode cX2_deliver 7 = .ok (.iconst 0, 1) := by decide +kernel
theorem dX2_deliver_8 : decode cX2_deliver 8 = .ok (.istore_n 3, 1) := by decide +kernel
theorem dX2_deliver_9 : decode cX2_deliver 9 = .ok (.iconst 0, 1) := by decide +kernel
theorem dX2_deliver_10 : decode cX2_deliver 10 = .ok (.istore 4, 2) := by decide +kernel
theorem dX2_deliver_12 : decode cX2_deliver 12 = .ok (.iconst 0, 1) := by decide +kernel
theorem dX2_deliver_13 : decode cX2_deliver 13 = .ok (.istore 5, 2) := by decide +kernel
theorem dX2_deliver_15 : decode cX2_deliver 15 = .ok (.iload 5, 2) := by decide +kernel
theorem dX2_deliver_17 : decode cX2_deliver 17 = .ok (.aload_n 0, 1) := by decide +kernel
theorem dX2_deliver_18 : decode cX2_deliver 18 = .ok (.getfield 47, 3) := by decide +kernel
theorem dX2_deliver_21 : decode cX2_deliver 21 = .ok (.if_icmp .ge 46, 3) := by decide +kernel
theorem dX2_deliver_24 : decode cX2_deliver 24 = .ok (.iload_n 3, 1) := by decide +kernel
theorem dX2_deliver_25 : decode cX2_deliver 25 = .ok (.aload_n 0, 1) := by decide +kernel
theorem dX2_deliver_26 : decode cX2_deliver 26 = .ok (.getfield 15, 3) := by decide +kernel
theorem dX2_deliver_29 : decode cX2_deliver 29 = .ok (.iload 5, 2) := by decide +kernel
theorem dX2_deliver_31 : decode cX2_deliver 31 = .ok (.iaload, 1) := by decide +kernel
theorem dX2_deliver_32 : decode cX2_deliver 32 = .ok (.aload_n 0, 1) := by decide +kernel
theorem dX2_deliver_33 : decode cX2_deliver 33 = .ok (.iload 5, 2) := by decide +kernel
theorem dX2_deliver_35 : decode cX2_deliver 35 = .ok (.iload_n 2, 1) := by decide +kernel
theorem dX2_deliver_36 : decode cX2_deliver 36 = .ok (.invokevirtual 91, 3) := by decide +kernel
theorem dX2_deliver_39 : decode cX2_deliver 39 = .ok (.imul, 1) := by decide +kernel
theorem dX2_deliver_40 : decode cX2_deliver 40 = .ok (.iadd, 1) := by decide +kernel
theorem dX2_deliver_41 : decode cX2_deliver 41 = .ok (.istore_n 3, 1) := by decide +kernel
theorem dX2_deliver_42 : decode cX2_deliver 42 = .ok (.iload 4, 2) := by decide +kernel
theorem dX2_deliver_44 : decode cX2_deliver 44 = .ok (.iload_n 1, 1) := by decide +kernel
theorem dX2_deliver_45 : decode cX2_deliver 45 = .ok (.iload 5, 2) := by decide +kernel
theorem dX2_deliver_47 : decode cX2_deliver 47 = .ok (.invokestatic 88, 3) := by decide +kernel
theorem dX2_deliver_50 : decode cX2_deliver 50 = .ok (.aload_n 0, 1) := by decide +kernel
theorem dX2_deliver_51 : decode cX2_deliver 51 = .ok (.iload 5, 2) := by decide +kernel
theorem dX2_deliver_53 : decode cX2_deliver 53 = .ok (.iload_n 2, 1) := by decide +kernel
theorem dX2_deliver_54 : decode cX2_deliver 54 = .ok (.invokevirtual 91, 3) := by decide +kernel
theorem dX2_deliver_57 : decode cX2_deliver 57 = .ok (.imul, 1) := by decide +kernel
theorem dX2_deliver_58 : decode cX2_deliver 58 = .ok (.iadd, 1) := by decide +kernel
theorem dX2_deliver_59 : decode cX2_deliver 59 = .ok (.istore 4, 2) := by decide +kernel
theorem dX2_deliver_61 : decode cX2_deliver 61 = .ok (.iinc 5 1, 3) := by decide +kernel
theorem dX2_deliver_64 : decode cX2_deliver 64 = .ok (.goto (-49), 3) := by decide +kernel
theorem dX2_deliver_67 : decode cX2_deliver 67 = .ok (.aload_n 0, 1) := by decide +kernel
theorem dX2_deliver_68 : decode cX2_deliver 68 = .ok (.iconst 2, 1) := by decide +kernel
theorem dX2_deliver_69 : decode cX2_deliver 69 = .ok (.iload_n 2, 1) := by decide +kernel
theorem dX2_deliver_70 : decode cX2_deliver 70 = .ok (.invokevirtual 85, 3) := by decide +kernel
theorem dX2_deliver_73 : decode cX2_deliver 73 = .ok (.iload_n 3, 1) := by decide +kernel
theorem dX2_deliver_74 : decode cX2_deliver 74 = .ok (.isub, 1) := by decide +kernel
theorem dX2_deliver_75 : decode cX2_deliver 75 = .ok (.istore 5, 2) := by decide +kernel
theorem dX2_deliver_77 : decode cX2_deliver 77 = .ok (.aload_n 0, 1) := by decide +kernel
theorem dX2_deliver_78 : decode cX2_deliver 78 = .ok (.getfield 27, 3) := by decide +kernel
theorem dX2_deliver_81 : decode cX2_deliver 81 = .ok (.iconst 0, 1) := by decide +kernel
theorem dX2_deliver_82 : decode cX2_deliver 82 = .ok (.iload_n 2, 1) := by decide +kernel
theorem dX2_deliver_83 : decode cX2_deliver 83 = .ok (.iadd, 1) := by decide +kernel
theorem dX2_deliver_84 : decode cX2_deliver 84 = .ok (.sipush (-4000), 3) := by decide +kernel
theorem dX2_deliver_87 : decode cX2_deliver 87 = .ok (.sipush 4000, 3) := by decide +kernel
theorem dX2_deliver_90 : decode cX2_deliver 90 = .ok (.iload 5, 2) := by decide +kernel
theorem dX2_deliver_92 : decode cX2_deliver 92 = .ok (.invokestatic 103, 3) := by decide +kernel
theorem dX2_deliver_95 : decode cX2_deliver 95 = .ok (.invokestatic 108, 3) := by decide +kernel
theorem dX2_deliver_98 : decode cX2_deliver 98 = .ok (.iastore, 1) := by decide +kernel
theorem dX2_deliver_99 : decode cX2_deliver 99 = .ok (.aload_n 0, 1) := by decide +kernel
theorem dX2_deliver_100 : decode cX2_deliver 100 = .ok (.getfield 27, 3) := by decide +kernel
theorem dX2_deliver_103 : decode cX2_deliver 103 = .ok (.iconst 3, 1) := by decide +kernel
theorem dX2_deliver_104 : decode cX2_deliver 104 = .ok (.iload_n 2, 1) := by decide +kernel
theorem dX2_deliver_105 : decode cX2_deliver 105 = .ok (.iadd, 1) := by decide +kernel
theorem dX2_deliver_106 : decode cX2_deliver 106 = .ok (.iload_n 3, 1) := by decide +kernel
theorem dX2_deliver_107 : decode cX2_deliver 107 = .ok (.iload 4, 2) := by decide +kernel
theorem dX2_deliver_109 : decode cX2_deliver 109 = .ok (.iadd, 1) := by decide +kernel
theorem dX2_deliver_110 : decode cX2_deliver 110 = .ok (.iastore, 1) := by decide +kernel
theorem dX2_deliver_111 : decode cX2_deliver 111 = .ok (.aload_n 0, 1) := by decide +kernel
theorem dX2_deliver_112 : decode cX2_deliver 112 = .ok (.getfield 30, 3) := by decide +kernel
theorem dX2_deliver_115 : decode cX2_deliver 115 = .ok (.iload_n 2, 1) := by decide +kernel
theorem dX2_deliver_116 : decode cX2_deliver 116 = .ok (.dup2, 1) := by decide +kernel
theorem dX2_deliver_117 : decode cX2_deliver 117 = .ok (.laload, 1) := by decide +kernel
theorem dX2_deliver_118 : decode cX2_deliver 118 = .ok (.iload_n 3, 1) := by decide +kernel
theorem dX2_deliver_119 : decode cX2_deliver 119 = .ok (.iload 4, 2) := by decide +kernel
theorem dX2_deliver_121 : decode cX2_deliver 121 = .ok (.iadd, 1) := by decide +kernel
theorem dX2_deliver_122 : decode cX2_deliver 122 = .ok (.i2l, 1) := by decide +kernel
theorem dX2_deliver_123 : decode cX2_deliver 123 = .ok (.ladd, 1) := by decide +kernel
theorem dX2_deliver_124 : decode cX2_deliver 124 = .ok (.lastore, 1) := by decide +kernel
theorem dX2_deliver_125 : decode cX2_deliver 125 = .ok (.iinc 2 1, 3) := by decide +kernel
theorem dX2_deliver_128 : decode cX2_deliver 128 = .ok (.goto (-126), 3) := by decide +kernel
theorem dX2_deliver_131 : decode cX2_deliver 131 = .ok (.return_, 1) := by decide +kernel
theorem dX2_burn_0 : decode cX2_burn 0 = .ok (.iconst 0, 1) := by decide +kernel
theorem dX2_burn_1 : decode cX2_burn 1 = .ok (.istore_n 2, 1) := by decide +kernel
theorem dX2_burn_2 : decode cX2_burn 2 = .ok (.iload_n 2, 1) := by decide +kernel
theorem dX2_burn_3 : decode cX2_burn 3 = .ok (.aload_n 0, 1) := by decide +kernel
theorem dX2_burn_4 : decode cX2_burn 4 = .ok (.getfield 47, 3) := by decide +kernel
theorem dX2_burn_7 : decode cX2_burn 7 = .ok (.if_icmp .ge 51, 3) := by decide +kernel
theorem dX2_burn_10 : decode cX2_burn 10 = .ok (.aload_n 0, 1) := by decide +kernel
theorem dX2_burn_11 : decode cX2_burn 11 = .ok (.getfield 15, 3) := by decide +kernel
theorem dX2_burn_14 : decode cX2_burn 14 = .ok (.iload_n 2, 1) := by decide +kernel
theorem dX2_burn_15 : decode cX2_burn 15 = .ok (.iaload, 1) := by decide +kernel
theorem dX2_burn_16 : decode cX2_burn 16 = .ok (.iload_n 1, 1) := by decide +kernel
theorem dX2_burn_17 : decode cX2_burn 17 = .ok (.iload_n 2, 1) := by decide +kernel
theorem dX2_burn_18 : decode cX2_burn 18 = .ok (.invokestatic 88, 3) := by decide +kernel
theorem dX2_burn_21 : decode cX2_burn 21 = .ok (.iadd, 1) := by decide +kernel
theorem dX2_burn_22 : decode cX2_burn 22 = .ok (.aload_n 0, 1) := by decide +kernel
theorem dX2_burn_23 : decode cX2_burn 23 = .ok (.iload_n 2, 1) := by decide +kernel
theorem dX2_burn_24 : decode cX2_burn 24 = .ok (.iconst 3, 1) := by decide +kernel
theorem dX2_burn_25 : decode cX2_burn 25 = .ok (.invokevirtual 67, 3) := by decide +kernel
theorem dX2_burn_28 : decode cX2_burn 28 = .ok (.imul, 1) := by decide +kernel
theorem dX2_burn_29 : decode cX2_burn 29 = .ok (.istore_n 3, 1) := by decide +kernel
theorem dX2_burn_30 : decode cX2_burn 30 = .ok (.aload_n 0, 1) := by decide +kernel
theorem dX2_burn_31 : decode cX2_burn 31 = .ok (.getfield 18, 3) := by decide +kernel
theorem dX2_burn_34 : decode cX2_burn 34 = .ok (.aload_n 0, 1) := by decide +kernel
theorem dX2_burn_35 : decode cX2_burn 35 = .ok (.iload_n 2, 1) := by decide +kernel
theorem dX2_burn_36 : decode cX2_burn 36 = .ok (.iconst 4, 1) := by decide +kernel
theorem dX2_burn_37 : decode cX2_burn 37 = .ok (.invokevirtual 67, 3) := by decide +kernel
theorem dX2_burn_40 : decode cX2_burn 40 = .ok (.iconst 0, 1) := by decide +kernel
theorem dX2_burn_41 : decode cX2_burn 41 = .ok (.aload_n 0, 1) := by decide +kernel
theorem dX2_burn_42 : decode cX2_burn 42 = .ok (.iload_n 2, 1) := by decide +kernel
theorem dX2_burn_43 : decode cX2_burn 43 = .ok (.invokevirtual 77, 3) := by decide +kernel
theorem dX2_burn_46 : decode cX2_burn 46 = .ok (.iload_n 3, 1) := by decide +kernel
theorem dX2_burn_47 : decode cX2_burn 47 = .ok (.isub, 1) := by decide +kernel
theorem dX2_burn_48 : decode cX2_burn 48 = .ok (.invokestatic 108, 3) := by decide +kernel
theorem dX2_burn_51 : decode cX2_burn 51 = .ok (.iastore, 1) := by decide +kernel
theorem dX2_burn_52 : decode cX2_burn 52 = .ok (.iinc 2 1, 3) := by decide +kernel
theorem dX2_burn_55 : decode cX2_burn 55 = .ok (.goto (-53), 3) := by decide +kernel
theorem dX2_burn_58 : decode cX2_burn 58 = .ok (.return_, 1) := by decide +kernel
theorem dX2_wasSound_0 : decode cX2_wasSound 0 = .ok (.aload_n 0, 1) := by decide +kernel
theorem dX2_wasSound_1 : decode cX2_wasSound 1 = .ok (.getfield 60, 3) := by decide +kernel
theorem dX2_wasSound_4 : decode cX2_wasSound 4 = .ok (.iload_n 1, 1) := by decide +kernel
theorem dX2_wasSound_5 : decode cX2_wasSound 5 = .ok (.ishr, 1) := by decide +kernel
theorem dX2_wasSound_6 : decode cX2_wasSound 6 = .ok (.iconst 1, 1) := by decide +kernel
theorem dX2_wasSound_7 : decode cX2_wasSound 7 = .ok (.iand, 1) := by decide +kernel
theorem dX2_wasSound_8 : decode cX2_wasSound 8 = .ok (.iconst 1, 1) := by decide +kernel
theorem dX2_wasSound_9 : decode cX2_wasSound 9 = .ok (.if_icmp .ne 7, 3) := by decide +kernel
theorem dX2_wasSound_12 : decode cX2_wasSound 12 = .ok (.iconst 1, 1) := by decide +kernel
theorem dX2_wasSound_13 : decode cX2_wasSound 13 = .ok (.goto 4, 3) := by decide +kernel
theorem dX2_wasSound_16 : decode cX2_wasSound 16 = .ok (.iconst 0, 1) := by decide +kernel
theorem dX2_wasSound_17 : decode cX2_wasSound 17 = .ok (.ireturn, 1) := by decide +kernel
theorem dX2_isImpulse_0 : decode cX2_isImpulse 0 = .ok (.iload_n 2, 1) := by decide +kernel
theorem dX2_isImpulse_1 : decode cX2_isImpulse 1 = .ok (.aload_n 0, 1) := by decide +kernel
theorem dX2_isImpulse_2 : decode cX2_isImpulse 2 = .ok (.iload_n 1, 1) := by decide +kernel
theorem dX2_isImpulse_3 : decode cX2_isImpulse 3 = .ok (.iconst 0, 1) := by decide +kernel
theorem dX2_isImpulse_4 : decode cX2_isImpulse 4 = .ok (.invokevirtual 91, 3) := by decide +kernel
theorem dX2_isImpulse_7 : decode cX2_isImpulse 7 = .ok (.imul, 1) := by decide +kernel
theorem dX2_isImpulse_8 : decode cX2_isImpulse 8 = .ok (.iload_n 3, 1) := by decide +kernel
theorem dX2_isImpulse_9 : decode cX2_isImpulse 9 = .ok (.if_icmp .ne 33, 3) := by decide +kernel
theorem dX2_isImpulse_12 : decode cX2_isImpulse 12 = .ok (.iload_n 2, 1) := by decide +kernel
theorem dX2_isImpulse_13 : decode cX2_isImpulse 13 = .ok (.aload_n 0, 1) := by decide +kernel
theorem dX2_isImpulse_14 : decode cX2_isImpulse 14 = .ok (.iload_n 1, 1) := by decide +kernel
theorem dX2_isImpulse_15 : decode cX2_isImpulse 15 = .ok (.iconst 1, 1) := by decide +kernel
theorem dX2_isImpulse_16 : decode cX2_isImpulse 16 = .ok (.invokevirtual 91, 3) := by decide +kernel
theorem dX2_isImpulse_19 : decode cX2_isImpulse 19 = .ok (.imul, 1) := by decide +kernel
theorem dX2_isImpulse_20 : decode cX2_isImpulse 20 = .ok (.iload 4, 2) := by decide +kernel
theorem dX2_isImpulse_22 : decode cX2_isImpulse 22 = .ok (.if_icmp .ne 20, 3) := by decide +kernel
theorem dX2_isImpulse_25 : decode cX2_isImpulse 25 = .ok (.iload_n 2, 1) := by decide +kernel
theorem dX2_isImpulse_26 : decode cX2_isImpulse 26 = .ok (.aload_n 0, 1) := by decide +kernel
theorem dX2_isImpulse_27 : decode cX2_isImpulse 27 = .ok (.iload_n 1, 1) := by decide +kernel
theorem dX2_isImpulse_28 : decode cX2_isImpulse 28 = .ok (.iconst 2, 1) := by decide +kernel
theorem dX2_isImpulse_29 : decode cX2_isImpulse 29 = .ok (.invokevirtual 91, 3) := by decide +kernel
theorem dX2_isImpulse_32 : decode cX2_isImpulse 32 = .ok (.imul, 1) := by decide +kernel
theorem dX2_isImpulse_33 : decode cX2_isImpulse 33 = .ok (.iload 5, 2) := by decide +kernel
theorem dX2_isImpulse_35 : decode cX2_isImpulse 35 = .ok (.if_icmp .ne 7, 3) := by decide +kernel
theorem dX2_isImpulse_38 : decode cX2_isImpulse 38 = .ok (.iconst 1, 1) := by decide +kernel
theorem dX2_isImpulse_39 : decode cX2_isImpulse 39 = .ok (.goto 4, 3) := by decide +kernel
theorem dX2_isImpulse_42 : decode cX2_isImpulse 42 = .ok (.iconst 0, 1) := by decide +kernel
theorem dX2_isImpulse_43 : decode cX2_isImpulse 43 = .ok (.ireturn, 1) := by decide +kernel
theorem dX2_firstSilent_0 : decode cX2_firstSilent 0 = .ok (.iconst 0, 1) := by decide +kernel
theorem dX2_firstSilent_1 : decode cX2_firstSilent 1 = .ok (.istore 4, 2) := by decide +kernel
theorem dX2_firstSilent_3 : decode cX2_firstSilent 3 = .ok (.iload 4, 2) := by decide +kernel
theorem dX2_firstSilent_5 : decode cX2_firstSilent 5 = .ok (.aload_n 0, 1) := by decide +kernel
theorem dX2_firstSilent_6 : decode cX2_firstSilent 6 = .ok (.getfield 47, 3) := by decide +kernel
theorem dX2_firstSilent_9 : decode cX2_firstSilent 9 = .ok (.if_icmp .ge 51, 3) := by decide +kernel
theorem dX2_firstSilent_12 : decode cX2_firstSilent 12 = .ok (.aload_n 0, 1) := by decide +kernel
theorem dX2_firstSilent_13 : decode cX2_firstSilent 13 = .ok (.iload 4, 2) := by decide +kernel
theorem dX2_firstSilent_15 : decode cX2_firstSilent 15 = .ok (.invokevirtual 111, 3) := by decide +kernel
theorem dX2_firstSilent_18 : decode cX2_firstSilent 18 = .ok (.ifCond .eq 36, 3) := by decide +kernel
theorem dX2_firstSilent_21 : decode cX2_firstSilent 21 = .ok (.aload_n 0, 1) := by decide +kernel
theorem dX2_firstSilent_22 : decode cX2_firstSilent 22 = .ok (.getfield 15, 3) := by decide +kernel
theorem dX2_firstSilent_25 : decode cX2_firstSilent 25 = .ok (.iload 4, 2) := by decide +kernel
theorem dX2_firstSilent_27 : decode cX2_firstSilent 27 = .ok (.iaload, 1) := by decide +kernel
theorem dX2_firstSilent_28 : decode cX2_firstSilent 28 = .ok (.ifCond .le 26, 3) := by decide +kernel
theorem dX2_firstSilent_31 : decode cX2_firstSilent 31 = .ok (.aload_n 0, 1) := by decide +kernel
theorem dX2_firstSilent_32 : decode cX2_firstSilent 32 = .ok (.iload 4, 2) := by decide +kernel
theorem dX2_firstSilent_34 : decode cX2_firstSilent 34 = .ok (.aload_n 0, 1) := by decide +kernel
theorem dX2_firstSilent_35 : decode cX2_firstSilent 35 = .ok (.getfield 15, 3) := by decide +kernel
theorem dX2_firstSilent_38 : decode cX2_firstSilent 38 = .ok (.iload 4, 2) := by decide +kernel
theorem dX2_firstSilent_40 : decode cX2_firstSilent 40 = .ok (.iaload, 1) := by decide +kernel
theorem dX2_firstSilent_41 : decode cX2_firstSilent 41 = .ok (.ineg, 1) := by decide +kernel
theorem dX2_firstSilent_42 : decode cX2_firstSilent 42 = .ok (.iload_n 1, 1) := by decide +kernel
theorem dX2_firstSilent_43 : decode cX2_firstSilent 43 = .ok (.iload_n 2, 1) := by decide +kernel
theorem dX2_firstSilent_44 : decode cX2_firstSilent 44 = .ok (.iload_n 3, 1) := by decide +kernel
theorem dX2_firstSilent_45 : decode cX2_firstSilent 45 = .ok (.invokevirtual 114, 3) := by decide +kernel
theorem dX2_firstSilent_48 : decode cX2_firstSilent 48 = .ok (.ifCond .eq 6, 3) := by decide +kernel
theorem dX2_firstSilent_51 : decode cX2_firstSilent 51 = .ok (.iload 4, 2) := by decide +kernel
theorem dX2_firstSilent_53 : decode cX2_firstSilent 53 = .ok (.ireturn, 1) := by decide +kernel
theorem dX2_firstSilent_54 : decode cX2_firstSilent 54 = .ok (.iinc 4 1, 3) := by decide +kernel
theorem dX2_firstSilent_57 : decode cX2_firstSilent 57 = .ok (.goto (-54), 3) := by decide +kernel
theorem dX2_firstSilent_60 : decode cX2_firstSilent 60 = .ok (.iconst (-1), 1) := by decide +kernel
theorem dX2_firstSilent_61 : decode cX2_firstSilent 61 = .ok (.ireturn, 1) := by decide +kernel
theorem dX2_firstSteady_0 : decode cX2_firstSteady 0 = .ok (.iconst 0, 1) := by decide +kernel
theorem dX2_firstSteady_1 : decode cX2_firstSteady 1 = .ok (.istore 4, 2) := by decide +kernel
theorem dX2_firstSteady_3 : decode cX2_firstSteady 3 = .ok (.iload 4, 2) := by decide +kernel
theorem dX2_firstSteady_5 : decode cX2_firstSteady 5 = .ok (.aload_n 0, 1) := by decide +kernel
theorem dX2_firstSteady_6 : decode cX2_firstSteady 6 = .ok (.getfield 47, 3) := by decide +kernel
theorem dX2_firstSteady_9 : decode cX2_firstSteady 9 = .ok (.if_icmp .ge 55, 3) := by decide +kernel
theorem dX2_firstSteady_12 : decode cX2_firstSteady 12 = .ok (.aload_n 0, 1) := by decide +kernel
theorem dX2_firstSteady_13 : decode cX2_firstSteady 13 = .ok (.iload 4, 2) := by decide +kernel
theorem dX2_firstSteady_15 : decode cX2_firstSteady 15 = .ok (.invokevirtual 111, 3) := by decide +kernel
theorem dX2_firstSteady_18 : decode cX2_firstSteady 18 = .ok (.ifCond .eq 40, 3) := by decide +kernel
theorem dX2_firstSteady_21 : decode cX2_firstSteady 21 = .ok (.aload_n 0, 1) := by decide +kernel
theorem dX2_firstSteady_22 : decode cX2_firstSteady 22 = .ok (.getfield 15, 3) := by decide +kernel
theorem dX2_firstSteady_25 : decode cX2_firstSteady 25 = .ok (.iload 4, 2) := by decide +kernel
theorem dX2_firstSteady_27 : decode cX2_firstSteady 27 = .ok (.iaload, 1) := by decide +kernel
theorem dX2_firstSteady_28 : decode cX2_firstSteady 28 = .ok (.bipush 20, 2) := by decide +kernel
theorem dX2_firstSteady_30 : decode cX2_firstSteady 30 = .ok (.if_icmp .ge 28, 3) := by decide +kernel
theorem dX2_firstSteady_33 : decode cX2_firstSteady 33 = .ok (.aload_n 0, 1) := by decide +kernel
theorem dX2_firstSteady_34 : decode cX2_firstSteady 34 = .ok (.iload 4, 2) := by decide +kernel
theorem dX2_firstSteady_36 : decode cX2_firstSteady 36 = .ok (.bipush 20, 2) := by decide +kernel
theorem dX2_firstSteady_38 : decode cX2_firstSteady 38 = .ok (.aload_n 0, 1) := by decide +kernel
theorem dX2_firstSteady_39 : decode cX2_firstSteady 39 = .ok (.getfield 15, 3) := by decide +kernel
theorem dX2_firstSteady_42 : decode cX2_firstSteady 42 = .ok (.iload 4, 2) := by decide +kernel
theorem dX2_firstSteady_44 : decode cX2_firstSteady 44 = .ok (.iaload, 1) := by decide +kernel
theorem dX2_firstSteady_45 : decode cX2_firstSteady 45 = .ok (.isub, 1) := by decide +kernel
theorem dX2_firstSteady_46 : decode cX2_firstSteady 46 = .ok (.iload_n 1, 1) := by decide +kernel
theorem dX2_firstSteady_47 : decode cX2_firstSteady 47 = .ok (.iload_n 2, 1) := by decide +kernel
theorem dX2_firstSteady_48 : decode cX2_firstSteady 48 = .ok (.iload_n 3, 1) := by decide +kernel
theorem dX2_firstSteady_49 : decode cX2_firstSteady 49 = .ok (.invokevirtual 114, 3) := by decide +kernel
theorem dX2_firstSteady_52 : decode cX2_firstSteady 52 = .ok (.ifCond .eq 6, 3) := by decide +kernel
theorem dX2_firstSteady_55 : decode cX2_firstSteady 55 = .ok (.iload 4, 2) := by decide +kernel
theorem dX2_firstSteady_57 : decode cX2_firstSteady 57 = .ok (.ireturn, 1) := by decide +kernel
theorem dX2_firstSteady_58 : decode cX2_firstSteady 58 = .ok (.iinc 4 1, 3) := by decide +kernel
theorem dX2_firstSteady_61 : decode cX2_firstSteady 61 = .ok (.goto (-58), 3) := by decide +kernel
theorem dX2_firstSteady_64 : decode cX2_firstSteady 64 = .ok (.iconst (-1), 1) := by decide +kernel
theorem dX2_firstSteady_65 : decode cX2_firstSteady 65 = .ok (.ireturn, 1) := by decide +kernel
theorem dX3_init_0 : decode cX3_init 0 = .ok (.aload_n 0, 1) := by decide +kernel
theorem dX3_init_1 : decode cX3_init 1 = .ok (.invokespecial 3, 3) := by decide +kernel
theorem dX3_init_4 : decode cX3_init 4 = .ok (.aload_n 0, 1) := by decide +kernel
theorem dX3_init_5 : decode cX3_init 5 = .ok (.bipush 100, 2) := by decide +kernel
theorem dX3_init_7 : decode cX3_init 7 = .ok (.newarray .int, 2) := by decide +kernel
theorem dX3_init_9 : decode cX3_init 9 = .ok (.putfield 9, 3) := by decide +kernel
theorem dX3_init_12 : decode cX3_init 12 = .ok (.aload_n 0, 1) := by decide +kernel
theorem dX3_init_13 : decode cX3_init 13 = .ok (.bipush 30, 2) := by decide +kernel
theorem dX3_init_15 : decode cX3_init 15 = .ok (.newarray .int, 2) := by decide +kernel
theorem dX3_init_17 : decode cX3_init 17 = .ok (.putfield 15, 3) := by decide +kernel
theorem dX3_init_20 : decode cX3_init 20 = .ok (.aload_n 0, 1) := by decide +kernel
theorem dX3_init_21 : decode cX3_init 21 = .ok (.bipush 10, 2) := by decide +kernel
theorem dX3_init_23 : decode cX3_init 23 = .ok (.newarray .boolean, 2) := by decide +kernel
theorem dX3_init_25 : decode cX3_init 25 = .ok (.putfield 18, 3) := by decide +kernel
theorem dX3_init_28 : decode cX3_init 28 = .ok (.aload_n 0, 1) := by decide +kernel
theorem dX3_init_29 : decode cX3_init 29 = .ok (.ldc 22, 2) := by decide +kernel
theorem dX3_init_31 : decode cX3_init 31 = .ok (.putfield 23, 3) := by decide +kernel
theorem dX3_init_34 : decode cX3_init 34 = .ok (.return_, 1) := by decide +kernel
theorem dX3_read_0 : decode cX3_read 0 = .ok (.aload_n 0, 1) := by decide +kernel
theorem dX3_read_1 : decode cX3_read 1 = .ok (.iconst 0, 1) := by decide +kernel
theorem dX3_read_2 : decode cX3_read 2 = .ok (.putfield 30, 3) := by decide +kernel
theorem dX3_read_5 : decode cX3_read 5 = .ok (.aload_n 0, 1) := by decide +kernel
theorem dX3_read_6 : decode cX3_read 6 = .ok (.iconst 0, 1) := by decide +kernel
theorem dX3_read_7 : decode cX3_read 7 = .ok (.putfield 33, 3) := by decide +kernel
theorem dX3_read_10 : decode cX3_read 10 = .ok (.aload_n 0, 1) := by decide +kernel
theorem dX3_read_11 : decode cX3_read 11 = .ok (.ldc 22, 2) := by decide +kernel
theorem dX3_read_13 : decode cX3_read 13 = .ok (.putfield 23, 3) := by decide +kernel
theorem dX3_read_16 : decode cX3_read 16 = .ok (.iconst 0, 1) := by decide +kernel
theorem dX3_read_17 : decode cX3_read 17 = .ok (.istore_n 2, 1) := by decide +kernel
theorem dX3_read_18 : decode cX3_read 18 = .ok (.iload_n 2, 1) := by decide +kernel
theorem dX3_read_19 : decode cX3_read 19 = .ok (.bipush 10, 2) := by decide +kernel
theorem dX3_read_21 : decode cX3_read 21 = .ok (.if_icmp .gt 62, 3) := by decide +kernel
theorem dX3_read_24 : decode cX3_read 24 = .ok (.aload_n 0, 1) := by decide +kernel
theorem dX3_read_25 : decode cX3_read 25 = .ok (.iload_n 1, 1) := by decide +kernel
theorem dX3_read_26 : decode cX3_read 26 = .ok (.bipush 10, 2) := by decide +kernel
theorem dX3_read_28 : decode cX3_read 28 = .ok (.invokestatic 36, 3) := by decide +kernel
theorem dX3_read_31 : decode cX3_read 31 = .ok (.invokevirtual 42, 3) := by decide +kernel
theorem dX3_read_34 : decode cX3_read 34 = .ok (.aload_n 0, 1) := by decide +kernel
theorem dX3_read_35 : decode cX3_read 35 = .ok (.invokevirtual 46, 3) := by decide +kernel
theorem dX3_read_38 : decode cX3_read 38 = .ok (.aload_n 0, 1) := by decide +kernel
theorem dX3_read_39 : decode cX3_read 39 = .ok (.getfield 23, 3) := by decide +kernel
theorem dX3_read_42 : decode cX3_read 42 = .ok (.ldc 22, 2) := by decide +kernel
theorem dX3_read_44 : decode cX3_read 44 = .ok (.if_icmp .ne 14, 3) := by decide +kernel
theorem dX3_read_47 : decode cX3_read 47 = .ok (.aload_n 0, 1) := by decide +kernel
theorem dX3_read_48 : decode cX3_read 48 = .ok (.getfield 30, 3) := by decide +kernel
theorem dX3_read_51 : decode cX3_read 51 = .ok (.aload_n 0, 1) := by decide +kernel
theorem dX3_read_52 : decode cX3_read 52 = .ok (.getfield 27, 3) := by decide +kernel
theorem dX3_read_55 : decode cX3_read 55 = .ok (.if_icmp .lt 8, 3) := by decide +kernel
theorem dX3_read_58 : decode cX3_read 58 = .ok (.aload_n 0, 1) := by decide +kernel
theorem dX3_read_59 : decode cX3_read 59 = .ok (.getfield 23, 3) := by decide +kernel
theorem dX3_read_62 : decode cX3_read 62 = .ok (.ireturn, 1) := by decide +kernel
theorem dX3_read_63 : decode cX3_read 63 = .ok (.aload_n 0, 1) := by decide +kernel
theorem dX3_read_64 : decode cX3_read 64 = .ok (.bipush 59, 2) := by decide +kernel
theorem dX3_read_66 : decode cX3_read 66 = .ok (.invokevirtual 49, 3) := by decide +kernel
theorem dX3_read_69 : decode cX3_read 69 = .ok (.ifCond .ne 8, 3) := by decide +kernel
theorem dX3_read_72 : decode cX3_read 72 = .ok (.aload_n 0, 1) := by decide +kernel
theorem dX3_read_73 : decode cX3_read 73 = .ok (.getfield 30, 3) := by decide +kernel
theorem dX3_read_76 : decode cX3_read 76 = .ok (.ireturn, 1) := by decide +kernel
theorem dX3_read_77 : decode cX3_read 77 = .ok (.iinc 2 1, 3) := by decide +kernel
theorem dX3_read_80 : decode cX3_read 80 = .ok (.goto (-62), 3) := by decide +kernel
theorem dX3_read_83 : decode cX3_read 83 = .ok (.aload_n 0, 1) := by decide +kernel
theorem dX3_read_84 : decode cX3_read 84 = .ok (.getfield 30, 3) := by decide +kernel
theorem dX3_read_87 : decode cX3_read 87 = .ok (.ireturn, 1) := by decide +kernel
theorem dX3_readRequest_0 : decode cX3_readRequest 0 = .ok (.aload_n 0, 1) := by decide +kernel
theorem dX3_readRequest_1 : decode cX3_readRequest 1 = .ok (.invokevirtual 46, 3) := by decide +kernel
theorem dX3_readRequest_4 : decode cX3_readRequest 4 = .ok (.aload_n 0, 1) := by decide +kernel
theorem dX3_readRequest_5 : decode cX3_readRequest 5 = .ok (.getfield 33, 3) := by decide +kernel
theorem dX3_readRequest_8 : decode cX3_readRequest 8 = .ok (.iload_n 1, 1) := by decide +kernel
theorem dX3_readRequest_9 : decode cX3_readRequest 9 = .ok (.if_icmp .lt 12, 3) := by decide +kernel
theorem dX3_readRequest_12 : decode cX3_readRequest 12 = .ok (.aload_n 0, 1) := by decide +kernel
theorem dX3_readRequest_13 : decode cX3_readRequest 13 = .ok (.aload_n 0, 1) := by decide +kernel
theorem dX3_readRequest_14 : decode cX3_readRequest 14 = .ok (.getfield 30, 3) := by decide +kernel
theorem dX3_readRequest_17 : decode cX3_readRequest 17 = .ok (.putfield 23, 3) := by decide +kernel
theorem dX3_readRequest_20 : decode cX3_readRequest 20 = .ok (.return_, 1) := by decide +kernel
theorem dX3_readRequest_21 : decode cX3_readRequest 21 = .ok (.aload_n 0, 1) := by decide +kernel
theorem dX3_readRequest_22 : decode cX3_readRequest 22 = .ok (.bipush 33, 2) := by decide +kernel
theorem dX3_readRequest_24 : decode cX3_readRequest 24 = .ok (.invokevirtual 49, 3) := by decide +kernel
theorem dX3_readRequest_27 : decode cX3_readRequest 27 = .ok (.istore_n 2, 1) := by decide +kernel
theorem dX3_readRequest_28 : decode cX3_readRequest 28 = .ok (.iconst 0, 1) := by decide +kernel
theorem dX3_readRequest_29 : decode cX3_readRequest 29 = .ok (.istore_n 3, 1) := by decide +kernel
theorem dX3_readRequest_30 : decode cX3_readRequest 30 = .ok (.iload_n 3, 1) := by decide +kernel
theorem dX3_readRequest_31 : decode cX3_readRequest 31 = .ok (.iconst 3, 1) := by decide +kernel
theorem dX3_readRequest_32 : decode cX3_readRequest 32 = .ok (.if_icmp .ge 57, 3) := by decide +kernel
theorem dX3_readRequest_35 : decode cX3_readRequest 35 = .ok (.aload_n 0, 1) := by decide +kernel
theorem dX3_readRequest_36 : decode cX3_readRequest 36 = .ok (.getfield 23, 3) := by decide +kernel
theorem dX3_readRequest_39 : decode cX3_readRequest 39 = .ok (.ldc 22, 2) := by decide +kernel
theorem dX3_readRequest_41 : decode cX3_readRequest 41 = .ok (.if_icmp .ne 48, 3) := by decide +kernel
theorem dX3_readRequest_44 : decode cX3_readRequest 44 = .ok (.iload_n 3, 1) := by decide +kernel
theorem dX3_readRequest_45 : decode cX3_readRequest 45 = .ok (.ifCond .le 21, 3) := by decide +kernel
theorem dX3_readRequest_48 : decode cX3_readRequest 48 = .ok (.aload_n 0, 1) := by decide +kernel
theorem dX3_readRequest_49 : decode cX3_readRequest 49 = .ok (.bipush 44, 2) := by decide +kernel
theorem dX3_readRequest_51 : decode cX3_readRequest 51 = .ok (.invokevirtual 49, 3) := by decide +kernel
theorem dX3_readRequest_54 : decode cX3_readRequest 54 = .ok (.ifCond .ne 12, 3) := by decide +kernel
theorem dX3_readRequest_57 : decode cX3_readRequest 57 = .ok (.aload_n 0, 1) := by decide +kernel
theorem dX3_readRequest_58 : decode cX3_readRequest 58 = .ok (.aload_n 0, 1) := by decide +kernel
theorem dX3_readRequest_59 : decode cX3_readRequest 59 = .ok (.getfield 30, 3) := by decide +kernel
theorem dX3_readRequest_62 : decode cX3_readRequest 62 = .ok (.putfield 23, 3) := by decide +kernel
theorem dX3_readRequest_65 : decode cX3_readRequest 65 = .ok (.return_, 1) := by decide +kernel
theorem dX3_readRequest_66 : decode cX3_readRequest 66 = .ok (.aload_n 0, 1) := by decide +kernel
theorem dX3_readRequest_67 : decode cX3_readRequest 67 = .ok (.getfield 15, 3) := by decide +kernel
theorem dX3_readRequest_70 : decode cX3_readRequest 70 = .ok (.aload_n 0, 1) := by decide +kernel
theorem dX3_readRequest_71 : decode cX3_readRequest 71 = .ok (.getfield 33, 3) := by decide +kernel
theorem dX3_readRequest_74 : decode cX3_readRequest 74 = .ok (.iconst 3, 1) := by decide +kernel
theorem dX3_readRequest_75 : decode cX3_readRequest 75 = .ok (.imul, 1) := by decide +kernel
theorem dX3_readRequest_76 : decode cX3_readRequest 76 = .ok (.iload_n 3, 1) := by decide +kernel
theorem dX3_readRequest_77 : decode cX3_readRequest 77 = .ok (.iadd, 1) := by decide +kernel
theorem dX3_readRequest_78 : decode cX3_readRequest 78 = .ok (.aload_n 0, 1) := by decide +kernel
theorem dX3_readRequest_79 : decode cX3_readRequest 79 = .ok (.invokevirtual 53, 3) := by decide +kernel
theorem dX3_readRequest_82 : decode cX3_readRequest 82 = .ok (.iastore, 1) := by decide +kernel
theorem dX3_readRequest_83 : decode cX3_readRequest 83 = .ok (.iinc 3 1, 3) := by decide +kernel
theorem dX3_readRequest_86 : decode cX3_readRequest 86 = .ok (.goto (-56), 3) := by decide +kernel
theorem dX3_readRequest_89 : decode cX3_readRequest 89 = .ok (.aload_n 0, 1) := by decide +kernel
theorem dX3_readRequest_90 : decode cX3_readRequest 90 = .ok (.getfield 18, 3) := by decide +kernel
theorem dX3_readRequest_93 : decode cX3_readRequest 93 = .ok (.aload_n 0, 1) := by decide +kernel
theorem dX3_readRequest_94 : decode cX3_readRequest 94 = .ok (.getfield 33, 3) := by decide +kernel
theorem dX3_readRequest_97 : decode cX3_readRequest 97 = .ok (.iload_n 2, 1) := by decide +kernel
theorem dX3_readRequest_98 : decode cX3_readRequest 98 = .ok (.bastore, 1) := by decide +kernel
theorem dX3_readRequest_99 : decode cX3_readRequest 99 = .ok (.aload_n 0, 1) := by decide +kernel
theorem dX3_readRequest_100 : decode cX3_readRequest 100 = .ok (.dup, 1) := by decide +kernel
theorem dX3_readRequest_101 : decode cX3_readRequest 101 = .ok (.getfield 33, 3) := by decide +kernel
theorem dX3_readRequest_104 : decode cX3_readRequest 104 = .ok (.iconst 1, 1) := by decide +kernel
theorem dX3_readRequest_105 : decode cX3_readRequest 105 = .ok (.iadd, 1) := by decide +kernel
theorem dX3_readRequest_106 : decode cX3_readRequest 106 = .ok (.putfield 33, 3) := by decide +kernel
theorem dX3_readRequest_109 : decode cX3_readRequest 109 = .ok (.return_, 1) := by decide +kernel
theorem dX3_readSigned_0 : decode cX3_readSigned 0 = .ok (.aload_n 0, 1) := by decide +kernel
theorem dX3_readSigned_1 : decode cX3_readSigned 1 = .ok (.bipush 45, 2) := by decide +kernel
theorem dX3_readSigned_3 : decode cX3_readSigned 3 = .ok (.invokevirtual 49, 3) := by decide +kernel
theorem dX3_readSigned_6 : decode cX3_readSigned 6 = .ok (.istore_n 1, 1) := by decide +kernel
theorem dX3_readSigned_7 : decode cX3_readSigned 7 = .ok (.aload_n 0, 1) := by decide +kernel
theorem dX3_readSigned_8 : decode cX3_readSigned 8 = .ok (.invokevirtual 46, 3) := by decide +kernel
theorem dX3_readSigned_11 : decode cX3_readSigned 11 = .ok (.aload_n 0, 1) := by decide +kernel
theorem dX3_readSigned_12 : decode cX3_readSigned 12 = .ok (.invokevirtual 57, 3) := by decide +kernel
theorem dX3_readSigned_15 : decode cX3_readSigned 15 = .ok (.istore_n 2, 1) := by decide +kernel
theorem dX3_readSigned_16 : decode cX3_readSigned 16 = .ok (.iload_n 1, 1) := by decide +kernel
theorem dX3_readSigned_17 : decode cX3_readSigned 17 = .ok (.ifCond .eq 8, 3) := by decide +kernel
theorem dX3_readSigned_20 : decode cX3_readSigned 20 = .ok (.iload_n 2, 1) := by decide +kernel
theorem dX3_readSigned_21 : decode cX3_readSigned 21 = .ok (.ineg, 1) := by decide +kernel
theorem dX3_readSigned_22 : decode cX3_readSigned 22 = .ok (.goto 4, 3) := by decide +kernel
theorem dX3_readSigned_25 : decode cX3_readSigned 25 = .ok (.iload_n 2, 1) := by decide +kernel
theorem dX3_readSigned_26 : decode cX3_readSigned 26 = .ok (.ireturn, 1) := by decide +kernel
theorem dX3_readNumber_0 : decode cX3_readNumber 0 = .ok (.aload_n 0, 1) := by decide +kernel
theorem dX3_readNumber_1 : decode cX3_readNumber 1 = .ok (.getfield 30, 3) := by decide +kernel
theorem dX3_readNumber_4 : decode cX3_readNumber 4 = .ok (.istore_n 1, 1) := by decide +kernel
theorem dX3_readNumber_5 : decode cX3_readNumber 5 = .ok (.iconst 0, 1) := by decide +kernel
theorem dX3_readNumber_6 : decode cX3_readNumber 6 = .ok (.istore_n 2, 1) := by decide +kernel
theorem dX3_readNumber_7 : decode cX3_readNumber 7 = .ok (.aload_n 0, 1) := by decide +kernel
theorem dX3_readNumber_8 : decode cX3_readNumber 8 = .ok (.getfield 30, 3) := by decide +kernel
theorem dX3_readNumber_11 : decode cX3_readNumber 11 = .ok (.aload_n 0, 1) := by decide +kernel
theorem dX3_readNumber_12 : decode cX3_readNumber 12 = .ok (.getfield 27, 3) := by decide +kernel
theorem dX3_readNumber_15 : decode cX3_readNumber 15 = .ok (.if_icmp .ge 49, 3) := by decide +kernel
theorem dX3_readNumber_18 : decode cX3_readNumber 18 = .ok (.aload_n 0, 1) := by decide +kernel
theorem dX3_readNumber_19 : decode cX3_readNumber 19 = .ok (.getfield 9, 3) := by decide +kernel
theorem dX3_readNumber_22 : decode cX3_readNumber 22 = .ok (.aload_n 0, 1) := by decide +kernel
theorem dX3_readNumber_23 : decode cX3_readNumber 23 = .ok (.getfield 30, 3) := by decide +kernel
theorem dX3_readNumber_26 : decode cX3_readNumber 26 = .ok (.iaload, 1) := by decide +kernel
theorem dX3_readNumber_27 : decode cX3_readNumber 27 = .ok (.invokestatic 60, 3) := by decide +kernel
theorem dX3_readNumber_30 : decode cX3_readNumber 30 = .ok (.ifCond .eq 34, 3) := by decide +kernel
theorem dX3_readNumber_33 : decode cX3_readNumber 33 = .ok (.iload_n 2, 1) := by decide +kernel
theorem dX3_readNumber_34 : decode cX3_readNumber 34 = .ok (.bipush 10, 2) := by decide +kernel
theorem dX3_readNumber_36 : decode cX3_readNumber 36 = .ok (.imul, 1) := by decide +kernel
theorem dX3_readNumber_37 : decode cX3_readNumber 37 = .ok (.aload_n 0, 1) := by decide +kernel
theorem dX3_readNumber_38 : decode cX3_readNumber 38 = .ok (.getfield 9, 3) := by decide +kernel
theorem dX3_readNumber_41 : decode cX3_readNumber 41 = .ok (.aload_n 0, 1) := by decide +kernel
theorem dX3_readNumber_42 : decode cX3_readNumber 42 = .ok (.getfield 30, 3) := by decide +kernel
theorem dX3_readNumber_45 : decode cX3_readNumber 45 = .ok (.iaload, 1) := by decide +kernel
theorem dX3_readNumber_46 : decode cX3_readNumber 46 = .ok (.iadd, 1) := by decide +kernel
theorem dX3_readNumber_47 : decode cX3_readNumber 47 = .ok (.bipush 48, 2) := by decide +kernel
theorem dX3_readNumber_49 : decode cX3_readNumber 49 = .ok (.isub, 1) := by decide +kernel
theorem dX3_readNumber_50 : decode cX3_readNumber 50 = .ok (.istore_n 2, 1) := by decide +kernel
theorem dX3_readNumber_51 : decode cX3_readNumber 51 = .ok (.aload_n 0, 1) := by decide +kernel
theorem dX3_readNumber_52 : decode cX3_readNumber 52 = .ok (.dup, 1) := by decide +kernel
theorem dX3_readNumber_53 : decode cX3_readNumber 53 = .ok (.getfield 30, 3) := by decide +kernel
theorem dX3_readNumber_56 : decode cX3_readNumber 56 = .ok (.iconst 1, 1) := by decide +kernel
theorem dX3_readNumber_57 : decode cX3_readNumber 57 = .ok (.iadd, 1) := by decide +kernel
theorem dX3_readNumber_58 : decode cX3_readNumber 58 = .ok (.putfield 30, 3) := by decide +kernel
theorem dX3_readNumber_61 : decode cX3_readNumber 61 = .ok (.goto (-54), 3) := by decide +kernel
theorem dX3_readNumber_64 : decode cX3_readNumber 64 = .ok (.aload_n 0, 1) := by decide +kernel
theorem dX3_readNumber_65 : decode cX3_readNumber 65 = .ok (.getfield 30, 3) := by decide +kernel
theorem dX3_readNumber_68 : decode cX3_readNumber 68 = .ok (.iload_n 1, 1) := by decide +kernel
theorem dX3_readNumber_69 : decode cX3_readNumber 69 = .ok (.isub, 1) := by decide +kernel
theorem dX3_readNumber_70 : decode cX3_readNumber 70 = .ok (.istore_n 3, 1) := by decide +kernel
theorem dX3_readNumber_71 : decode cX3_readNumber 71 = .ok (.iload_n 3, 1) := by decide +kernel
theorem dX3_readNumber_72 : decode cX3_readNumber 72 = .ok (.ifCond .eq 15, 3) := by decide +kernel
theorem dX3_readNumber_75 : decode cX3_readNumber 75 = .ok (.iload_n 3, 1) := by decide +kernel
theorem dX3_readNumber_76 : decode cX3_readNumber 76 = .ok (.iconst 4, 1) := by decide +kernel
theorem dX3_readNumber_77 : decode cX3_readNumber 77 = .ok (.if_icmp .gt 10, 3) := by decide +kernel
theorem dX3_readNumber_80 : decode cX3_readNumber 80 = .ok (.iload_n 2, 1) := by decide +kernel
theorem dX3_readNumber_81 : decode cX3_readNumber 81 = .ok (.sipush 2000, 3) := by decide +kernel
theorem dX3_readNumber_84 : decode cX3_readNumber 84 = .ok (.if_icmp .le 8, 3) := by decide +kernel
theorem dX3_readNumber_87 : decode cX3_readNumber 87 = .ok (.aload_n 0, 1) := by decide +kernel
theorem dX3_readNumber_88 : decode cX3_readNumber 88 = .ok (.iload_n 1, 1) := by decide +kernel
theorem dX3_readNumber_89 : decode cX3_readNumber 89 = .ok (.putfield 23, 3) := by decide +kernel
theorem dX3_readNumber_92 : decode cX3_readNumber 92 = .ok (.iload_n 2, 1) := by decide +kernel
theorem dX3_readNumber_93 : decode cX3_readNumber 93 = .ok (.ireturn, 1) := by decide +kernel
theorem dX3_isDigit_0 : decode cX3_isDigit 0 = .ok (.iload_n 0, 1) := by decide +kernel
theorem dX3_isDigit_1 : decode cX3_isDigit 1 = .ok (.bipush 48, 2) := by decide +kernel
theorem dX3_isDigit_3 : decode cX3_isDigit 3 = .ok (.if_icmp .lt 13, 3) := by decide +kernel
theorem dX3_isDigit_6 : decode cX3_isDigit 6 = .ok (.iload_n 0, 1) := by decide +kernel
theorem dX3_isDigit_7 : decode cX3_isDigit 7 = .ok (.bipush 57, 2) := by decide +kernel
theorem dX3_isDigit_9 : decode cX3_isDigit 9 = .ok (.if_icmp .gt 7, 3) := by decide +kernel
theorem dX3_isDigit_12 : decode cX3_isDigit 12 = .ok (.iconst 1, 1) := by decide +kernel
theorem dX3_isDigit_13 : decode cX3_isDigit 13 = .ok (.goto 4, 3) := by decide +kernel
theorem dX3_isDigit_16 : decode cX3_isDigit 16 = .ok (.iconst 0, 1) := by decide +kernel
theorem dX3_isDigit_17 : decode cX3_isDigit 17 = .ok (.ireturn, 1) := by decide +kernel
theorem dX3_accept_0 : decode cX3_accept 0 = .ok (.aload_n 0, 1) := by decide +kernel
theorem dX3_accept_1 : decode cX3_accept 1 = .ok (.invokevirtual 46, 3) := by decide +kernel
theorem dX3_accept_4 : decode cX3_accept 4 = .ok (.aload_n 0, 1) := by decide +kernel
theorem dX3_accept_5 : decode cX3_accept 5 = .ok (.getfield 30, 3) := by decide +kernel
theorem dX3_accept_8 : decode cX3_accept 8 = .ok (.aload_n 0, 1) := by decide +kernel
theorem dX3_accept_9 : decode cX3_accept 9 = .ok (.getfield 27, 3) := by decide +kernel
theorem dX3_accept_12 : decode cX3_accept 12 = .ok (.if_icmp .ge 16, 3) := by decide +kernel
theorem dX3_accept_15 : decode cX3_accept 15 = .ok (.aload_n 0, 1) := by decide +kernel
theorem dX3_accept_16 : decode cX3_accept 16 = .ok (.getfield 9, 3) := by decide +kernel
theorem dX3_accept_19 : decode cX3_accept 19 = .ok (.aload_n 0, 1) := by decide +kernel
theorem dX3_accept_20 : decode cX3_accept 20 = .ok (.getfield 30, 3) := by decide +kernel
theorem dX3_accept_23 : decode cX3_accept 23 = .ok (.iaload, 1) := by decide +kernel
theorem dX3_accept_24 : decode cX3_accept 24 = .ok (.iload_n 1, 1) := by decide +kernel
theorem dX3_accept_25 : decode cX3_accept 25 = .ok (.if_icmp .eq 5, 3) := by decide +kernel
theorem dX3_accept_28 : decode cX3_accept 28 = .ok (.iconst 0, 1) := by decide +kernel
theorem dX3_accept_29 : decode cX3_accept 29 = .ok (.ireturn, 1) := by decide +kernel
theorem dX3_accept_30 : decode cX3_accept 30 = .ok (.aload_n 0, 1) := by decide +kernel
theorem dX3_accept_31 : decode cX3_accept 31 = .ok (.dup, 1) := by decide +kernel
theorem dX3_accept_32 : decode cX3_accept 32 = .ok (.getfield 30, 3) := by decide +kernel
theorem dX3_accept_35 : decode cX3_accept 35 = .ok (.iconst 1, 1) := by decide +kernel
theorem dX3_accept_36 : decode cX3_accept 36 = .ok (.iadd, 1) := by decide +kernel
theorem dX3_accept_37 : decode cX3_accept 37 = .ok (.putfield 30, 3) := by decide +kernel
theorem dX3_accept_40 : decode cX3_accept 40 = .ok (.iconst 1, 1) := by decide +kernel
theorem dX3_accept_41 : decode cX3_accept 41 = .ok (.ireturn, 1) := by decide +kernel
theorem dX3_skipBlanks_0 : decode cX3_skipBlanks 0 = .ok (.aload_n 0, 1) := by decide +kernel
theorem dX3_skipBlanks_1 : decode cX3_skipBlanks 1 = .ok (.getfield 30, 3) := by decide +kernel
theorem dX3_skipBlanks_4 : decode cX3_skipBlanks 4 = .ok (.aload_n 0, 1) := by decide +kernel
theorem dX3_skipBlanks_5 : decode cX3_skipBlanks 5 = .ok (.getfield 27, 3) := by decide +kernel
theorem dX3_skipBlanks_8 : decode cX3_skipBlanks 8 = .ok (.if_icmp .ge 30, 3) := by decide +kernel
theorem dX3_skipBlanks_11 : decode cX3_skipBlanks 11 = .ok (.aload_n 0, 1) := by decide +kernel
theorem dX3_skipBlanks_12 : decode cX3_skipBlanks 12 = .ok (.getfield 9, 3) := by decide +kernel
theorem dX3_skipBlanks_15 : decode cX3_skipBlanks 15 = .ok (.aload_n 0, 1) := by decide +kernel
theorem dX3_skipBlanks_16 : decode cX3_skipBlanks 16 = .ok (.getfield 30, 3) := by decide +kernel
theorem dX3_skipBlanks_19 : decode cX3_skipBlanks 19 = .ok (.iaload, 1) := by decide +kernel
theorem dX3_skipBlanks_20 : decode cX3_skipBlanks 20 = .ok (.bipush 32, 2) := by decide +kernel
theorem dX3_skipBlanks_22 : decode cX3_skipBlanks 22 = .ok (.if_icmp .ne 16, 3) := by decide +kernel
theorem dX3_skipBlanks_25 : decode cX3_skipBlanks 25 = .ok (.aload_n 0, 1) := by decide +kernel
theorem dX3_skipBlanks_26 : decode cX3_skipBlanks 26 = .ok (.dup, 1) := by decide +kernel
theorem dX3_skipBlanks_27 : decode cX3_skipBlanks 27 = .ok (.getfield 30, 3) := by decide +kernel
theorem dX3_skipBlanks_30 : decode cX3_skipBlanks 30 = .ok (.iconst 1, 1) := by decide +kernel
theorem dX3_skipBlanks_31 : decode cX3_skipBlanks 31 = .ok (.iadd, 1) := by decide +kernel
theorem dX3_skipBlanks_32 : decode cX3_skipBlanks 32 = .ok (.putfield 30, 3) := by decide +kernel
theorem dX3_skipBlanks_35 : decode cX3_skipBlanks 35 = .ok (.goto (-35), 3) := by decide +kernel
theorem dX3_skipBlanks_38 : decode cX3_skipBlanks 38 = .ok (.return_, 1) := by decide +kernel
theorem dX4_init_0 : decode cX4_init 0 = .ok (.aload_n 0, 1) := by decide +kernel
theorem dX4_init_1 : decode cX4_init 1 = .ok (.invokespecial 1, 3) := by decide +kernel
theorem dX4_init_4 : decode cX4_init 4 = .ok (.aload_n 0, 1) := by decide +kernel
theorem dX4_init_5 : decode cX4_init 5 = .ok (.new 7, 3) := by decide +kernel
theorem dX4_init_8 : decode cX4_init 8 = .ok (.dup, 1) := by decide +kernel
theorem dX4_init_9 : decode cX4_init 9 = .ok (.invokespecial 9, 3) := by decide +kernel
theorem dX4_init_12 : decode cX4_init 12 = .ok (.putfield 10, 3) := by decide +kernel
theorem dX4_init_15 : decode cX4_init 15 = .ok (.aload_n 0, 1) := by decide +kernel
theorem dX4_init_16 : decode cX4_init 16 = .ok (.new 16, 3) := by decide +kernel
theorem dX4_init_19 : decode cX4_init 19 = .ok (.dup, 1) := by decide +kernel
theorem dX4_init_20 : decode cX4_init 20 = .ok (.invokespecial 18, 3) := by decide +kernel
theorem dX4_init_23 : decode cX4_init 23 = .ok (.putfield 19, 3) := by decide +kernel
theorem dX4_init_26 : decode cX4_init 26 = .ok (.aload_n 0, 1) := by decide +kernel
theorem dX4_init_27 : decode cX4_init 27 = .ok (.new 23, 3) := by decide +kernel
theorem dX4_init_30 : decode cX4_init 30 = .ok (.dup, 1) := by decide +kernel
theorem dX4_init_31 : decode cX4_init 31 = .ok (.invokespecial 25, 3) := by decide +kernel
theorem dX4_init_34 : decode cX4_init 34 = .ok (.putfield 26, 3) := by decide +kernel
theorem dX4_init_37 : decode cX4_init 37 = .ok (.aload_n 0, 1) := by decide +kernel
theorem dX4_init_38 : decode cX4_init 38 = .ok (.new 30, 3) := by decide +kernel
theorem dX4_init_41 : decode cX4_init 41 = .ok (.dup, 1) := by decide +kernel
theorem dX4_init_42 : decode cX4_init 42 = .ok (.invokespecial 32, 3) := by decide +kernel
theorem dX4_init_45 : decode cX4_init 45 = .ok (.putfield 33, 3) := by decide +kernel
theorem dX4_init_48 : decode cX4_init 48 = .ok (.return_, 1) := by decide +kernel
theorem dX4_addThruster_0 : decode cX4_addThruster 0 = .ok (.iload 5, 2) := by decide +kernel
theorem dX4_addThruster_2 : decode cX4_addThruster 2 = .ok (.invokestatic 37, 3) := by decide +kernel
theorem dX4_addThruster_5 : decode cX4_addThruster 5 = .ok (.ifCond .ne 6, 3) := by decide +kernel
theorem dX4_addThruster_8 : decode cX4_addThruster 8 = .ok (.ldc 41, 2) := by decide +kernel
theorem dX4_addThruster_10 : decode cX4_addThruster 10 = .ok (.ireturn, 1) := by decide +kernel
theorem dX4_addThruster_11 : decode cX4_addThruster 11 = .ok (.iload_n 1, 1) := by decide +kernel
theorem dX4_addThruster_12 : decode cX4_addThruster 12 = .ok (.bipush 10, 2) := by decide +kernel
theorem dX4_addThruster_14 : decode cX4_addThruster 14 = .ok (.invokestatic 42, 3) := by decide +kernel
theorem dX4_addThruster_17 : decode cX4_addThruster 17 = .ok (.ifCond .eq 16, 3) := by decide +kernel
theorem dX4_addThruster_20 : decode cX4_addThruster 20 = .ok (.iload_n 2, 1) := by decide +kernel
theorem dX4_addThruster_21 : decode cX4_addThruster 21 = .ok (.bipush 10, 2) := by decide +kernel
theorem dX4_addThruster_23 : decode cX4_addThruster 23 = .ok (.invokestatic 42, 3) := by decide +kernel
theorem dX4_addThruster_26 : decode cX4_addThruster 26 = .ok (.ifCond .eq 7, 3) := by decide +kernel
theorem dX4_addThruster_29 : decode cX4_addThruster 29 = .ok (.iconst 1, 1) := by decide +kernel
theorem dX4_addThruster_30 : decode cX4_addThruster 30 = .ok (.goto 4, 3) := by decide +kernel
theorem dX4_addThruster_33 : decode cX4_addThruster 33 = .ok (.iconst 0, 1) := by decide +kernel
theorem dX4_addThruster_34 : decode cX4_addThruster 34 = .ok (.istore 7, 2) := by decide +kernel
theorem dX4_addThruster_36 : decode cX4_addThruster 36 = .ok (.iload_n 3, 1) := by decide +kernel
theorem dX4_addThruster_37 : decode cX4_addThruster 37 = .ok (.iconst 0, 1) := by decide +kernel
theorem dX4_addThruster_38 : decode cX4_addThruster 38 = .ok (.iconst 3, 1) := by decide +kernel
theorem dX4_addThruster_39 : decode cX4_addThruster 39 = .ok (.invokestatic 46, 3) := by decide +kernel
theorem dX4_addThruster_42 : decode cX4_addThruster 42 = .ok (.ifCond .eq 29, 3) := by decide +kernel
theorem dX4_addThruster_45 : decode cX4_addThruster 45 = .ok (.iload 4, 2) := by decide +kernel
theorem dX4_addThruster_47 : decode cX4_addThruster 47 = .ok (.iconst 1, 1) := by decide +kernel
theorem dX4_addThruster_48 : decode cX4_addThruster 48 = .ok (.bipush 10, 2) := by decide +kernel
theorem dX4_addThruster_50 : decode cX4_addThruster 50 = .ok (.invokestatic 46, 3) := by decide +kernel
theorem dX4_addThruster_53 : decode cX4_addThruster 53 = .ok (.ifCond .eq 18, 3) := by decide +kernel
theorem dX4_addThruster_56 : decode cX4_addThruster 56 = .ok (.iload 6, 2) := by decide +kernel
theorem dX4_addThruster_58 : decode cX4_addThruster 58 = .ok (.iconst 1, 1) := by decide +kernel
theorem dX4_addThruster_59 : decode cX4_addThruster 59 = .ok (.bipush 10, 2) := by decide +kernel
theorem dX4_addThruster_61 : decode cX4_addThruster 61 = .ok (.invokestatic 46, 3) := by decide +kernel
theorem dX4_addThruster_64 : decode cX4_addThruster 64 = .ok (.ifCond .eq 7, 3) := by decide +kernel
theorem dX4_addThruster_67 : decode cX4_addThruster 67 = .ok (.iconst 1, 1) := by decide +kernel
theorem dX4_addThruster_68 : decode cX4_addThruster 68 = .ok (.goto 4, 3) := by decide +kernel
theorem dX4_addThruster_71 : decode cX4_addThruster 71 = .ok (.iconst 0, 1) := by decide +kernel
theorem dX4_addThruster_72 : decode cX4_addThruster 72 = .ok (.istore 8, 2) := by decide +kernel
theorem dX4_addThruster_74 : decode cX4_addThruster 74 = .ok (.iload 7, 2) := by decide +kernel
theorem dX4_addThruster_76 : decode cX4_addThruster 76 = .ok (.ifCond .eq 8, 3) := by decide +kernel
theorem dX4_addThruster_79 : decode cX4_addThruster 79 = .ok (.iload 8, 2) := by decide +kernel
theorem dX4_addThruster_81 : decode cX4_addThruster 81 = .ok (.ifCond .ne 6, 3) := by decide +kernel
theorem dX4_addThruster_84 : decode cX4_addThruster 84 = .ok (.ldc 50, 2) := by decide +kernel
theorem dX4_addThruster_86 : decode cX4_addThruster 86 = .ok (.ireturn, 1) := by decide +kernel
theorem dX4_addThruster_87 : decode cX4_addThruster 87 = .ok (.aload_n 0, 1) := by decide +kernel
theorem dX4_addThruster_88 : decode cX4_addThruster 88 = .ok (.getfield 10, 3) := by decide +kernel
theorem dX4_addThruster_91 : decode cX4_addThruster 91 = .ok (.getfield 51, 3) := by decide +kernel
theorem dX4_addThruster_94 : decode cX4_addThruster 94 = .ok (.bipush 8, 2) := by decide +kernel
theorem dX4_addThruster_96 : decode cX4_addThruster 96 = .ok (.if_icmp .lt 6, 3) := by decide +kernel
theorem dX4_addThruster_99 : decode cX4_addThruster 99 = .ok (.ldc 55, 2) := by decide +kernel
theorem dX4_addThruster_101 : decode cX4_addThruster 101 = .ok (.ireturn, 1) := by decide +kernel
theorem dX4_addThruster_102 : decode cX4_addThruster 102 = .ok (.aload_n 0, 1) := by decide +kernel
theorem dX4_addThruster_103 : decode cX4_addThruster 103 = .ok (.getfield 19, 3) := by decide +kernel
theorem dX4_addThruster_106 : decode cX4_addThruster 106 = .ok (.aload_n 0, 1) := by decide +kernel
theorem dX4_addThruster_107 : decode cX4_addThruster 107 = .ok (.getfield 10, 3) := by decide +kernel
theorem dX4_addThruster_110 : decode cX4_addThruster 110 = .ok (.invokevirtual 56, 3) := by decide +kernel
theorem dX4_addThruster_113 : decode cX4_addThruster 113 = .ok (.aload_n 0, 1) := by decide +kernel
theorem dX4_addThruster_114 : decode cX4_addThruster 114 = .ok (.getfield 10, 3) := by decide +kernel
theorem dX4_addThruster_117 : decode cX4_addThruster 117 = .ok (.iload_n 1, 1) := by decide +kernel
theorem dX4_addThruster_118 : decode cX4_addThruster 118 = .ok (.iload_n 2, 1) := by decide +kernel
theorem dX4_addThruster_119 : decode cX4_addThruster 119 = .ok (.iload_n 3, 1) := by decide +kernel
theorem dX4_addThruster_120 : decode cX4_addThruster 120 = .ok (.iload 4, 2) := by decide +kernel
theorem dX4_addThruster_122 : decode cX4_addThruster 122 = .ok (.iload 5, 2) := by decide +kernel
theorem dX4_addThruster_124 : decode cX4_addThruster 124 = .ok (.iload 6, 2) := by decide +kernel
theorem dX4_addThruster_126 : decode cX4_addThruster 126 = .ok (.invokevirtual 60, 3) := by decide +kernel
theorem dX4_addThruster_129 : decode cX4_addThruster 129 = .ok (.ireturn, 1) := by decide +kernel
theorem dX4_setState_0 : decode cX4_setState 0 = .ok (.aload_n 0, 1) := by decide +kernel
theorem dX4_setState_1 : decode cX4_setState 1 = .ok (.iload_n 1, 1) := by decide +kernel
theorem dX4_setState_2 : decode cX4_setState 2 = .ok (.invokevirtual 64, 3) := by decide +kernel
theorem dX4_setState_5 : decode cX4_setState 5 = .ok (.ifCond .ne 6, 3) := by decide +kernel
theorem dX4_setState_8 : decode cX4_setState 8 = .ok (.ldc 41, 2) := by decide +kernel
theorem dX4_setState_10 : decode cX4_setState 10 = .ok (.ireturn, 1) := by decide +kernel
theorem dX4_setState_11 : decode cX4_setState 11 = .ok (.iload_n 2, 1) := by decide +kernel
theorem dX4_setState_12 : decode cX4_setState 12 = .ok (.iconst 0, 1) := by decide +kernel
theorem dX4_setState_13 : decode cX4_setState 13 = .ok (.iconst 2, 1) := by decide +kernel
theorem dX4_setState_14 : decode cX4_setState 14 = .ok (.invokestatic 46, 3) := by decide +kernel
theorem dX4_setState_17 : decode cX4_setState 17 = .ok (.ifCond .ne 6, 3) := by decide +kernel
theorem dX4_setState_20 : decode cX4_setState 20 = .ok (.ldc 50, 2) := by decide +kernel
theorem dX4_setState_22 : decode cX4_setState 22 = .ok (.ireturn, 1) := by decide +kernel
theorem dX4_setState_23 : decode cX4_setState 23 = .ok (.aload_n 0, 1) := by decide +kernel
theorem dX4_setState_24 : decode cX4_setState 24 = .ok (.getfield 19, 3) := by decide +kernel
theorem dX4_setState_27 : decode cX4_setState 27 = .ok (.aload_n 0, 1) := by decide +kernel
theorem dX4_setState_28 : decode cX4_setState 28 = .ok (.getfield 10, 3) := by decide +kernel
theorem dX4_setState_31 : decode cX4_setState 31 = .ok (.invokevirtual 56, 3) := by decide +kernel
theorem dX4_setState_34 : decode cX4_setState 34 = .ok (.aload_n 0, 1) := by decide +kernel
theorem dX4_setState_35 : decode cX4_setState 35 = .ok (.getfield 10, 3) := by decide +kernel
theorem dX4_setState_38 : decode cX4_setState 38 = .ok (.iload_n 1, 1) := by decide +kernel
theorem dX4_setState_39 : decode cX4_setState 39 = .ok (.bipush 6, 2) := by decide +kernel
theorem dX4_setState_41 : decode cX4_setState 41 = .ok (.invokevirtual 67, 3) := by decide +kernel
theorem dX4_setState_44 : decode cX4_setState 44 = .ok (.istore_n 3, 1) := by decide +kernel
theorem dX4_setState_45 : decode cX4_setState 45 = .ok (.aload_n 0, 1) := by decide +kernel
theorem dX4_setState_46 : decode cX4_setState 46 = .ok (.getfield 10, 3) := by decide +kernel
theorem dX4_setState_49 : decode cX4_setState 49 = .ok (.iload_n 1, 1) := by decide +kernel
theorem dX4_setState_50 : decode cX4_setState 50 = .ok (.bipush 6, 2) := by decide +kernel
theorem dX4_setState_52 : decode cX4_setState 52 = .ok (.iload_n 2, 1) := by decide +kernel
theorem dX4_setState_53 : decode cX4_setState 53 = .ok (.invokevirtual 71, 3) := by decide +kernel
theorem dX4_setState_56 : decode cX4_setState 56 = .ok (.iload_n 3, 1) := by decide +kernel
theorem dX4_setState_57 : decode cX4_setState 57 = .ok (.ireturn, 1) := by decide +kernel
theorem dX4_thrusters_0 : decode cX4_thrusters 0 = .ok (.aload_n 0, 1) := by decide +kernel
theorem dX4_thrusters_1 : decode cX4_thrusters 1 = .ok (.getfield 10, 3) := by decide +kernel
theorem dX4_thrusters_4 : decode cX4_thrusters 4 = .ok (.getfield 51, 3) := by decide +kernel
theorem dX4_thrusters_7 : decode cX4_thrusters 7 = .ok (.ireturn, 1) := by decide +kernel
theorem dX4_thruster_0 : decode cX4_thruster 0 = .ok (.aload_n 0, 1) := by decide +kernel
theorem dX4_thruster_1 : decode cX4_thruster 1 = .ok (.iload_n 1, 1) := by decide +kernel
theorem dX4_thruster_2 : decode cX4_thruster 2 = .ok (.invokevirtual 64, 3) := by decide +kernel
theorem dX4_thruster_5 : decode cX4_thruster 5 = .ok (.ifCond .ne 6, 3) := by decide +kernel
theorem dX4_thruster_8 : decode cX4_thruster 8 = .ok (.ldc 41, 2) := by decide +kernel
theorem dX4_thruster_10 : decode cX4_thruster 10 = .ok (.ireturn, 1) := by decide +kernel
theorem dX4_thruster_11 : decode cX4_thruster 11 = .ok (.iload_n 2, 1) := by decide +kernel
theorem dX4_thruster_12 : decode cX4_thruster 12 = .ok (.iconst 0, 1) := by decide +kernel
theorem dX4_thruster_13 : decode cX4_thruster 13 = .ok (.bipush 8, 2) := by decide +kernel
theorem dX4_thruster_15 : decode cX4_thruster 15 = .ok (.invokestatic 46, 3) := by decide +kernel
theorem dX4_thruster_18 : decode cX4_thruster 18 = .ok (.ifCond .ne 6, 3) := by decide +kernel
theorem dX4_thruster_21 : decode cX4_thruster 21 = .ok (.ldc 50, 2) := by decide +kernel
theorem dX4_thruster_23 : decode cX4_thruster 23 = .ok (.ireturn, 1) := by decide +kernel
theorem dX4_thruster_24 : decode cX4_thruster 24 = .ok (.iload_n 2, 1) := by decide +kernel
theorem dX4_thruster_25 : decode cX4_thruster 25 = .ok (.bipush 7, 2) := by decide +kernel
theorem dX4_thruster_27 : decode cX4_thruster 27 = .ok (.if_icmp .ne 20, 3) := by decide +kernel
theorem dX4_thruster_30 : decode cX4_thruster 30 = .ok (.aload_n 0, 1) := by decide +kernel
theorem dX4_thruster_31 : decode cX4_thruster 31 = .ok (.getfield 10, 3) := by decide +kernel
theorem dX4_thruster_34 : decode cX4_thruster 34 = .ok (.iload_n 1, 1) := by decide +kernel
theorem dX4_thruster_35 : decode cX4_thruster 35 = .ok (.invokevirtual 75, 3) := by decide +kernel
theorem dX4_thruster_38 : decode cX4_thruster 38 = .ok (.ifCond .eq 7, 3) := by decide +kernel
theorem dX4_thruster_41 : decode cX4_thruster 41 = .ok (.iconst 1, 1) := by decide +kernel
theorem dX4_thruster_42 : decode cX4_thruster 42 = .ok (.goto 4, 3) := by decide +kernel
theorem dX4_thruster_45 : decode cX4_thruster 45 = .ok (.iconst 0, 1) := by decide +kernel
theorem dX4_thruster_46 : decode cX4_thruster 46 = .ok (.ireturn, 1) := by decide +kernel
theorem dX4_thruster_47 : decode cX4_thruster 47 = .ok (.iload_n 2, 1) := by decide +kernel
theorem dX4_thruster_48 : decode cX4_thruster 48 = .ok (.bipush 8, 2) := by decide +kernel
theorem dX4_thruster_50 : decode cX4_thruster 50 = .ok (.if_icmp .ne 20, 3) := by decide +kernel
theorem dX4_thruster_53 : decode cX4_thruster 53 = .ok (.aload_n 0, 1) := by decide +kernel
theorem dX4_thruster_54 : decode cX4_thruster 54 = .ok (.getfield 10, 3) := by decide +kernel
theorem dX4_thruster_57 : decode cX4_thruster 57 = .ok (.iload_n 1, 1) := by decide +kernel
theorem dX4_thruster_58 : decode cX4_thruster 58 = .ok (.invokevirtual 78, 3) := by decide +kernel
theorem dX4_thruster_61 : decode cX4_thruster 61 = .ok (.ifCond .eq 7, 3) := by decide +kernel
theorem dX4_thruster_64 : decode cX4_thruster 64 = .ok (.iconst 1, 1) := by decide +kernel
theorem dX4_thruster_65 : decode cX4_thruster 65 = .ok (.goto 4, 3) := by decide +kernel
theorem dX4_thruster_68 : decode cX4_thruster 68 = .ok (.iconst 0, 1) := by decide +kernel
theorem dX4_thruster_69 : decode cX4_thruster 69 = .ok (.ireturn, 1) := by decide +kernel
theorem dX4_thruster_70 : decode cX4_thruster 70 = .ok (.aload_n 0, 1) := by decide +kernel
theorem dX4_thruster_71 : decode cX4_thruster 71 = .ok (.getfield 10, 3) := by decide +kernel
theorem dX4_thruster_74 : decode cX4_thruster 74 = .ok (.iload_n 1, 1) := by decide +kernel
theorem dX4_thruster_75 : decode cX4_thruster 75 = .ok (.iload_n 2, 1) := by decide +kernel
theorem dX4_thruster_76 : decode cX4_thruster 76 = .ok (.invokevirtual 67, 3) := by decide +kernel
theorem dX4_thruster_79 : decode cX4_thruster 79 = .ok (.ireturn, 1) := by decide +kernel
theorem dX4_unit_0 : decode cX4_unit 0 = .ok (.aload_n 0, 1) := by decide +kernel
theorem dX4_unit_1 : decode cX4_unit 1 = .ok (.iload_n 1, 1) := by decide +kernel
theorem dX4_unit_2 : decode cX4_unit 2 = .ok (.invokevirtual 64, 3) := by decide +kernel
theorem dX4_unit_5 : decode cX4_unit 5 = .ok (.ifCond .eq 10, 3) := by decide +kernel
theorem dX4_unit_8 : decode cX4_unit 8 = .ok (.iload_n 2, 1) := by decide +kernel
theorem dX4_unit_9 : decode cX4_unit 9 = .ok (.invokestatic 81, 3) := by decide +kernel
theorem dX4_unit_12 : decode cX4_unit 12 = .ok (.ifCond .ne 6, 3) := by decide +kernel
theorem dX4_unit_15 : decode cX4_unit 15 = .ok (.ldc 41, 2) := by decide +kernel
theorem dX4_unit_17 : decode cX4_unit 17 = .ok (.ireturn, 1) := by decide +kernel
theorem dX4_unit_18 : decode cX4_unit 18 = .ok (.aload_n 0, 1) := by decide +kernel
theorem dX4_unit_19 : decode cX4_unit 19 = .ok (.getfield 10, 3) := by decide +kernel
theorem dX4_unit_22 : decode cX4_unit 22 = .ok (.iload_n 1, 1) := by decide +kernel
theorem dX4_unit_23 : decode cX4_unit 23 = .ok (.iload_n 2, 1) := by decide +kernel
theorem dX4_unit_24 : decode cX4_unit 24 = .ok (.invokevirtual 84, 3) := by decide +kernel
theorem dX4_unit_27 : decode cX4_unit 27 = .ok (.ireturn, 1) := by decide +kernel
theorem dX4_determinant_0 : decode cX4_determinant 0 = .ok (.aload_n 0, 1) := by decide +kernel
theorem dX4_determinant_1 : decode cX4_determinant 1 = .ok (.iload_n 1, 1) := by decide +kernel
theorem dX4_determinant_2 : decode cX4_determinant 2 = .ok (.invokevirtual 64, 3) := by decide +kernel
theorem dX4_determinant_5 : decode cX4_determinant 5 = .ok (.ifCond .eq 19, 3) := by decide +kernel
theorem dX4_determinant_8 : decode cX4_determinant 8 = .ok (.aload_n 0, 1) := by decide +kernel
theorem dX4_determinant_9 : decode cX4_determinant 9 = .ok (.iload_n 2, 1) := by decide +kernel
theorem dX4_determinant_10 : decode cX4_determinant 10 = .ok (.invokevirtual 64, 3) := by decide +kernel
theorem dX4_determinant_13 : decode cX4_determinant 13 = .ok (.ifCond .eq 11, 3) := by decide +kernel
theorem dX4_determinant_16 : decode cX4_determinant 16 = .ok (.aload_n 0, 1) := by decide +kernel
theorem dX4_determinant_17 : decode cX4_determinant 17 = .ok (.iload_n 3, 1) := by decide +kernel
theorem dX4_determinant_18 : decode cX4_determinant 18 = .ok (.invokevirtual 64, 3) := by decide +kernel
theorem dX4_determinant_21 : decode cX4_determinant 21 = .ok (.ifCond .ne 6, 3) := by decide +kernel
theorem dX4_determinant_24 : decode cX4_determinant 24 = .ok (.ldc 41, 2) := by decide +kernel
theorem dX4_determinant_26 : decode cX4_determinant 26 = .ok (.ireturn, 1) := by decide +kernel
theorem dX4_determinant_27 : decode cX4_determinant 27 = .ok (.aload_n 0, 1) := by decide +kernel
theorem dX4_determinant_28 : decode cX4_determinant 28 = .ok (.getfield 26, 3) := by decide +kernel
theorem dX4_determinant_31 : decode cX4_determinant 31 = .ok (.aload_n 0, 1) := by decide +kernel
theorem dX4_determinant_32 : decode cX4_determinant 32 = .ok (.getfield 10, 3) := by decide +kernel
theorem dX4_determinant_35 : decode cX4_determinant 35 = .ok (.invokevirtual 87, 3) := by decide +kernel
theorem dX4_determinant_38 : decode cX4_determinant 38 = .ok (.aload_n 0, 1) := by decide +kernel
theorem dX4_determinant_39 : decode cX4_determinant 39 = .ok (.getfield 26, 3) := by decide +kernel
theorem dX4_determinant_42 : decode cX4_determinant 42 = .ok (.iload_n 1, 1) := by decide +kernel
theorem dX4_determinant_43 : decode cX4_determinant 43 = .ok (.iload_n 2, 1) := by decide +kernel
theorem dX4_determinant_44 : decode cX4_determinant 44 = .ok (.iload_n 3, 1) := by decide +kernel
theorem dX4_determinant_45 : decode cX4_determinant 45 = .ok (.invokevirtual 90, 3) := by decide +kernel
theorem dX4_determinant_48 : decode cX4_determinant 48 = .ok (.l2i, 1) := by decide +kernel
theorem dX4_determinant_49 : decode cX4_determinant 49 = .ok (.ireturn, 1) := by decide +kernel
theorem dX4_refuel_0 : decode cX4_refuel 0 = .ok (.iload_n 1, 1) := by decide +kernel
theorem dX4_refuel_1 : decode cX4_refuel 1 = .ok (.invokestatic 37, 3) := by decide +kernel
theorem dX4_refuel_4 : decode cX4_refuel 4 = .ok (.ifCond .ne 6, 3) := by decide +kernel
theorem dX4_refuel_7 : decode cX4_refuel 7 = .ok (.ldc 41, 2) := by decide +kernel
theorem dX4_refuel_9 : decode cX4_refuel 9 = .ok (.ireturn, 1) := by decide +kernel
theorem dX4_refuel_10 : decode cX4_refuel 10 = .ok (.iload_n 2, 1) := by decide +kernel
theorem dX4_refuel_11 : decode cX4_refuel 11 = .ok (.iconst 0, 1) := by decide +kernel
theorem dX4_refuel_12 : decode cX4_refuel 12 = .ok (.ldc 94, 2) := by decide +kernel
theorem dX4_refuel_14 : decode cX4_refuel 14 = .ok (.invokestatic 46, 3) := by decide +kernel
theorem dX4_refuel_17 : decode cX4_refuel 17 = .ok (.ifCond .ne 6, 3) := by decide +kernel
theorem dX4_refuel_20 : decode cX4_refuel 20 = .ok (.ldc 50, 2) := by decide +kernel
theorem dX4_refuel_22 : decode cX4_refuel 22 = .ok (.ireturn, 1) := by decide +kernel
theorem dX4_refuel_23 : decode cX4_refuel 23 = .ok (.aload_n 0, 1) := by decide +kernel
theorem dX4_refuel_24 : decode cX4_refuel 24 = .ok (.getfield 19, 3) := by decide +kernel
theorem dX4_refuel_27 : decode cX4_refuel 27 = .ok (.aload_n 0, 1) := by decide +kernel
theorem dX4_refuel_28 : decode cX4_refuel 28 = .ok (.getfield 10, 3) := by decide +kernel
theorem dX4_refuel_31 : decode cX4_refuel 31 = .ok (.invokevirtual 56, 3) := by decide +kernel
theorem dX4_refuel_34 : decode cX4_refuel 34 = .ok (.aload_n 0, 1) := by decide +kernel
theorem dX4_refuel_35 : decode cX4_refuel 35 = .ok (.getfield 10, 3) := by decide +kernel
theorem dX4_refuel_38 : decode cX4_refuel 38 = .ok (.getfield 95, 3) := by decide +kernel
theorem dX4_refuel_41 : decode cX4_refuel 41 = .ok (.iload_n 1, 1) := by decide +kernel
theorem dX4_refuel_42 : decode cX4_refuel 42 = .ok (.iaload, 1) := by decide +kernel
theorem dX4_refuel_43 : decode cX4_refuel 43 = .ok (.istore_n 3, 1) := by decide +kernel
theorem dX4_refuel_44 : decode cX4_refuel 44 = .ok (.aload_n 0, 1) := by decide +kernel
theorem dX4_refuel_45 : decode cX4_refuel 45 = .ok (.getfield 10, 3) := by decide +kernel
theorem dX4_refuel_48 : decode cX4_refuel 48 = .ok (.getfield 95, 3) := by decide +kernel
theorem dX4_refuel_51 : decode cX4_refuel 51 = .ok (.iload_n 1, 1) := by decide +kernel
theorem dX4_refuel_52 : decode cX4_refuel 52 = .ok (.iload_n 2, 1) := by decide +kernel
theorem dX4_refuel_53 : decode cX4_refuel 53 = .ok (.iastore, 1) := by decide +kernel
theorem dX4_refuel_54 : decode cX4_refuel 54 = .ok (.iload_n 3, 1) := by decide +kernel
theorem dX4_refuel_55 : decode cX4_refuel 55 = .ok (.ireturn, 1) := by decide +kernel
theorem dX4_fuel_0 : decode cX4_fuel 0 = .ok (.iload_n 1, 1) := by decide +kernel
theorem dX4_fuel_1 : decode cX4_fuel 1 = .ok (.invokestatic 37, 3) := by decide +kernel
theorem dX4_fuel_4 : decode cX4_fuel 4 = .ok (.ifCond .eq 15, 3) := by decide +kernel
theorem dX4_fuel_7 : decode cX4_fuel 7 = .ok (.aload_n 0, 1) := by decide +kernel
theorem dX4_fuel_8 : decode cX4_fuel 8 = .ok (.getfield 10, 3) := by decide +kernel
theorem dX4_fuel_11 : decode cX4_fuel 11 = .ok (.getfield 95, 3) := by decide +kernel
theorem dX4_fuel_14 : decode cX4_fuel 14 = .ok (.iload_n 1, 1) := by decide +kernel
theorem dX4_fuel_15 : decode cX4_fuel 15 = .ok (.iaload, 1) := by decide +kernel
theorem dX4_fuel_16 : decode cX4_fuel 16 = .ok (.goto 5, 3) := by decide +kernel
theorem dX4_fuel_19 : decode cX4_fuel 19 = .ok (.ldc 41, 2) := by decide +kernel
theorem dX4_fuel_21 : decode cX4_fuel 21 = .ok (.ireturn, 1) := by decide +kernel
theorem dX4_forbid_0 : decode cX4_forbid 0 = .ok (.iload_n 1, 1) := by decide +kernel
theorem dX4_forbid_1 : decode cX4_forbid 1 = .ok (.iconst 0, 1) := by decide +kernel
theorem dX4_forbid_2 : decode cX4_forbid 2 = .ok (.iconst 1, 1) := by decide +kernel
theorem dX4_forbid_3 : decode cX4_forbid 3 = .ok (.aload_n 0, 1) := by decide +kernel
theorem dX4_forbid_4 : decode cX4_forbid 4 = .ok (.getfield 10, 3) := by decide +kernel
theorem dX4_forbid_7 : decode cX4_forbid 7 = .ok (.getfield 51, 3) := by decide +kernel
theorem dX4_forbid_10 : decode cX4_forbid 10 = .ok (.ishl, 1) := by decide +kernel
theorem dX4_forbid_11 : decode cX4_forbid 11 = .ok (.iconst 1, 1) := by decide +kernel
theorem dX4_forbid_12 : decode cX4_forbid 12 = .ok (.isub, 1) := by decide +kernel
theorem dX4_forbid_13 : decode cX4_forbid 13 = .ok (.invokestatic 46, 3) := by decide +kernel
theorem dX4_forbid_16 : decode cX4_forbid 16 = .ok (.istore_n 2, 1) := by decide +kernel
theorem dX4_forbid_17 : decode cX4_forbid 17 = .ok (.iload_n 2, 1) := by decide +kernel
theorem dX4_forbid_18 : decode cX4_forbid 18 = .ok (.ifCond .eq 11, 3) := by decide +kernel
theorem dX4_forbid_21 : decode cX4_forbid 21 = .ok (.iload_n 1, 1) := by decide +kernel
theorem dX4_forbid_22 : decode cX4_forbid 22 = .ok (.invokestatic 99, 3) := by decide +kernel
theorem dX4_forbid_25 : decode cX4_forbid 25 = .ok (.iconst 2, 1) := by decide +kernel
theorem dX4_forbid_26 : decode cX4_forbid 26 = .ok (.if_icmp .ge 6, 3) := by decide +kernel
theorem dX4_forbid_29 : decode cX4_forbid 29 = .ok (.ldc 50, 2) := by decide +kernel
theorem dX4_forbid_31 : decode cX4_forbid 31 = .ok (.ireturn, 1) := by decide +kernel
theorem dX4_forbid_32 : decode cX4_forbid 32 = .ok (.aload_n 0, 1) := by decide +kernel
theorem dX4_forbid_33 : decode cX4_forbid 33 = .ok (.getfield 10, 3) := by decide +kernel
theorem dX4_forbid_36 : decode cX4_forbid 36 = .ok (.iload_n 1, 1) := by decide +kernel
theorem dX4_forbid_37 : decode cX4_forbid 37 = .ok (.invokevirtual 105, 3) := by decide +kernel
theorem dX4_forbid_40 : decode cX4_forbid 40 = .ok (.ifCond .lt 6, 3) := by decide +kernel
theorem dX4_forbid_43 : decode cX4_forbid 43 = .ok (.ldc 108, 2) := by decide +kernel
theorem dX4_forbid_45 : decode cX4_forbid 45 = .ok (.ireturn, 1) := by decide +kernel
theorem dX4_forbid_46 : decode cX4_forbid 46 = .ok (.aload_n 0, 1) := by decide +kernel
theorem dX4_forbid_47 : decode cX4_forbid 47 = .ok (.getfield 10, 3) := by decide +kernel
theorem dX4_forbid_50 : decode cX4_forbid 50 = .ok (.getfield 109, 3) := by decide +kernel
theorem dX4_forbid_53 : decode cX4_forbid 53 = .ok (.bipush 8, 2) := by decide +kernel
theorem dX4_forbid_55 : decode cX4_forbid 55 = .ok (.if_icmp .lt 6, 3) := by decide +kernel
theorem dX4_forbid_58 : decode cX4_forbid 58 = .ok (.ldc 55, 2) := by decide +kernel
theorem dX4_forbid_60 : decode cX4_forbid 60 = .ok (.ireturn, 1) := by decide +kernel
theorem dX4_forbid_61 : decode cX4_forbid 61 = .ok (.aload_n 0, 1) := by decide +kernel
theorem dX4_forbid_62 : decode cX4_forbid 62 = .ok (.getfield 19, 3) := by decide +kernel
theorem dX4_forbid_65 : decode cX4_forbid 65 = .ok (.aload_n 0, 1) := by decide +kernel
theorem dX4_forbid_66 : decode cX4_forbid 66 = .ok (.getfield 10, 3) := by decide +kernel
theorem dX4_forbid_69 : decode cX4_forbid 69 = .ok (.invokevirtual 56, 3) := by decide +kernel
theorem dX4_forbid_72 : decode cX4_forbid 72 = .ok (.aload_n 0, 1) := by decide +kernel
theorem dX4_forbid_73 : decode cX4_forbid 73 = .ok (.getfield 10, 3) := by decide +kernel
theorem dX4_forbid_76 : decode cX4_forbid 76 = .ok (.iload_n 1, 1) := by decide +kernel
theorem dX4_forbid_77 : decode cX4_forbid 77 = .ok (.invokevirtual 112, 3) := by decide +kernel
theorem dX4_forbid_80 : decode cX4_forbid 80 = .ok (.ireturn, 1) := by decide +kernel
theorem dX4_allow_0 : decode cX4_allow 0 = .ok (.aload_n 0, 1) := by decide +kernel
theorem dX4_allow_1 : decode cX4_allow 1 = .ok (.getfield 10, 3) := by decide +kernel
theorem dX4_allow_4 : decode cX4_allow 4 = .ok (.iload_n 1, 1) := by decide +kernel
theorem dX4_allow_5 : decode cX4_allow 5 = .ok (.invokevirtual 105, 3) := by decide +kernel
theorem dX4_allow_8 : decode cX4_allow 8 = .ok (.istore_n 2, 1) := by decide +kernel
theorem dX4_allow_9 : decode cX4_allow 9 = .ok (.iload_n 2, 1) := by decide +kernel
theorem dX4_allow_10 : decode cX4_allow 10 = .ok (.ifCond .ge 6, 3) := by decide +kernel
theorem dX4_allow_13 : decode cX4_allow 13 = .ok (.ldc 108, 2) := by decide +kernel
theorem dX4_allow_15 : decode cX4_allow 15 = .ok (.ireturn, 1) := by decide +kernel
theorem dX4_allow_16 : decode cX4_allow 16 = .ok (.aload_n 0, 1) := by decide +kernel
theorem dX4_allow_17 : decode cX4_allow 17 = .ok (.getfield 19, 3) := by decide +kernel
theorem dX4_allow_20 : decode cX4_allow 20 = .ok (.aload_n 0, 1) := by decide +kernel
theorem dX4_allow_21 : decode cX4_allow 21 = .ok (.getfield 10, 3) := by decide +kernel
theorem dX4_allow_24 : decode cX4_allow 24 = .ok (.invokevirtual 56, 3) := by decide +kernel
theorem dX4_allow_27 : decode cX4_allow 27 = .ok (.aload_n 0, 1) := by decide +kernel
theorem dX4_allow_28 : decode cX4_allow 28 = .ok (.getfield 10, 3) := by decide +kernel
theorem dX4_allow_31 : decode cX4_allow 31 = .ok (.iload_n 2, 1) := by decide +kernel
theorem dX4_allow_32 : decode cX4_allow 32 = .ok (.invokevirtual 115, 3) := by decide +kernel
theorem dX4_allow_35 : decode cX4_allow 35 = .ok (.ireturn, 1) := by decide +kernel
theorem dX4_isForbidden_0 : decode cX4_isForbidden 0 = .ok (.iload_n 1, 1) := by decide +kernel
theorem dX4_isForbidden_1 : decode cX4_isForbidden 1 = .ok (.iconst 0, 1) := by decide +kernel
theorem dX4_isForbidden_2 : decode cX4_isForbidden 2 = .ok (.sipush 255, 3) := by decide +kernel
theorem dX4_isForbidden_5 : decode cX4_isForbidden 5 = .ok (.invokestatic 46, 3) := by decide +kernel
theorem dX4_isForbidden_8 : decode cX4_isForbidden 8 = .ok (.ifCond .ne 6, 3) := by decide +kernel
theorem dX4_isForbidden_11 : decode cX4_isForbidden 11 = .ok (.ldc 50, 2) := by decide +kernel
theorem dX4_isForbidden_13 : decode cX4_isForbidden 13 = .ok (.ireturn, 1) := by decide +kernel
theorem dX4_isForbidden_14 : decode cX4_isForbidden 14 = .ok (.aload_n 0, 1) := by decide +kernel
theorem dX4_isForbidden_15 : decode cX4_isForbidden 15 = .ok (.getfield 10, 3) := by decide +kernel
theorem dX4_isForbidden_18 : decode cX4_isForbidden 18 = .ok (.iload_n 1, 1) := by decide +kernel
theorem dX4_isForbidden_19 : decode cX4_isForbidden 19 = .ok (.aload_n 0, 1) := by decide +kernel
theorem dX4_isForbidden_20 : decode cX4_isForbidden 20 = .ok (.getfield 10, 3) := by decide +kernel
theorem dX4_isForbidden_23 : decode cX4_isForbidden 23 = .ok (.invokevirtual 118, 3) := by decide +kernel
theorem dX4_isForbidden_26 : decode cX4_isForbidden 26 = .ok (.ior, 1) := by decide +kernel
theorem dX4_isForbidden_27 : decode cX4_isForbidden 27 = .ok (.invokevirtual 122, 3) := by decide +kernel
theorem dX4_isForbidden_30 : decode cX4_isForbidden 30 = .ok (.ifCond .eq 7, 3) := by decide +kernel
theorem dX4_isForbidden_33 : decode cX4_isForbidden 33 = .ok (.iconst 1, 1) := by decide +kernel
theorem dX4_isForbidden_34 : decode cX4_isForbidden 34 = .ok (.goto 4, 3) := by decide +kernel
theorem dX4_isForbidden_37 : decode cX4_isForbidden 37 = .ok (.iconst 0, 1) := by decide +kernel
theorem dX4_isForbidden_38 : decode cX4_isForbidden 38 = .ok (.ireturn, 1) := by decide +kernel
theorem dX4_select_0 : decode cX4_select 0 = .ok (.iload_n 1, 1) := by decide +kernel
theorem dX4_select_1 : decode cX4_select 1 = .ok (.iload_n 2, 1) := by decide +kernel
theorem dX4_select_2 : decode cX4_select 2 = .ok (.iload_n 3, 1) := by decide +kernel
theorem dX4_select_3 : decode cX4_select 3 = .ok (.invokestatic 125, 3) := by decide +kernel
theorem dX4_select_6 : decode cX4_select 6 = .ok (.ifCond .ne 6, 3) := by decide +kernel
theorem dX4_select_9 : decode cX4_select 9 = .ok (.ldc 50, 2) := by decide +kernel
theorem dX4_select_11 : decode cX4_select 11 = .ok (.ireturn, 1) := by decide +kernel
theorem dX4_select_12 : decode cX4_select 12 = .ok (.aload_n 0, 1) := by decide +kernel
theorem dX4_select_13 : decode cX4_select 13 = .ok (.getfield 26, 3) := by decide +kernel
theorem dX4_select_16 : decode cX4_select 16 = .ok (.aload_n 0, 1) := by decide +kernel
theorem dX4_select_17 : decode cX4_select 17 = .ok (.getfield 10, 3) := by decide +kernel
theorem dX4_select_20 : decode cX4_select 20 = .ok (.iload_n 1, 1) := by decide +kernel
theorem dX4_select_21 : decode cX4_select 21 = .ok (.iload_n 2, 1) := by decide +kernel
theorem dX4_select_22 : decode cX4_select 22 = .ok (.iload_n 3, 1) := by decide +kernel
theorem dX4_select_23 : decode cX4_select 23 = .ok (.invokevirtual 128, 3) := by decide +kernel
theorem dX4_select_26 : decode cX4_select 26 = .ok (.aload_n 0, 1) := by decide +kernel
theorem dX4_select_27 : decode cX4_select 27 = .ok (.getfield 26, 3) := by decide +kernel
theorem dX4_select_30 : decode cX4_select 30 = .ok (.getfield 132, 3) := by decide +kernel
theorem dX4_select_33 : decode cX4_select 33 = .ok (.ifCond .eq 13, 3) := by decide +kernel
theorem dX4_select_36 : decode cX4_select 36 = .ok (.aload_n 0, 1) := by decide +kernel
theorem dX4_select_37 : decode cX4_select 37 = .ok (.getfield 26, 3) := by decide +kernel
theorem dX4_select_40 : decode cX4_select 40 = .ok (.getfield 136, 3) := by decide +kernel
theorem dX4_select_43 : decode cX4_select 43 = .ok (.goto 5, 3) := by decide +kernel
theorem dX4_select_46 : decode cX4_select 46 = .ok (.ldc 139, 2) := by decide +kernel
theorem dX4_select_48 : decode cX4_select 48 = .ok (.ireturn, 1) := by decide +kernel
theorem dX4_pulse_0 : decode cX4_pulse 0 = .ok (.aload_n 0, 1) := by decide +kernel
theorem dX4_pulse_1 : decode cX4_pulse 1 = .ok (.iload 4, 2) := by decide +kernel
theorem dX4_pulse_3 : decode cX4_pulse 3 = .ok (.invokevirtual 64, 3) := by decide +kernel
theorem dX4_pulse_6 : decode cX4_pulse 6 = .ok (.ifCond .ne 6, 3) := by decide +kernel
theorem dX4_pulse_9 : decode cX4_pulse 9 = .ok (.ldc 41, 2) := by decide +kernel
theorem dX4_pulse_11 : decode cX4_pulse 11 = .ok (.ireturn, 1) := by decide +kernel
theorem dX4_pulse_12 : decode cX4_pulse 12 = .ok (.iload_n 1, 1) := by decide +kernel
theorem dX4_pulse_13 : decode cX4_pulse 13 = .ok (.iload_n 2, 1) := by decide +kernel
theorem dX4_pulse_14 : decode cX4_pulse 14 = .ok (.iload_n 3, 1) := by decide +kernel
theorem dX4_pulse_15 : decode cX4_pulse 15 = .ok (.invokestatic 125, 3) := by decide +kernel
theorem dX4_pulse_18 : decode cX4_pulse 18 = .ok (.ifCond .ne 6, 3) := by decide +kernel
theorem dX4_pulse_21 : decode cX4_pulse 21 = .ok (.ldc 50, 2) := by decide +kernel
theorem dX4_pulse_23 : decode cX4_pulse 23 = .ok (.ireturn, 1) := by decide +kernel
theorem dX4_pulse_24 : decode cX4_pulse 24 = .ok (.aload_n 0, 1) := by decide +kernel
theorem dX4_pulse_25 : decode cX4_pulse 25 = .ok (.getfield 26, 3) := by decide +kernel
theorem dX4_pulse_28 : decode cX4_pulse 28 = .ok (.aload_n 0, 1) := by decide +kernel
theorem dX4_pulse_29 : decode cX4_pulse 29 = .ok (.getfield 10, 3) := by decide +kernel
theorem dX4_pulse_32 : decode cX4_pulse 32 = .ok (.iload_n 1, 1) := by decide +kernel
theorem dX4_pulse_33 : decode cX4_pulse 33 = .ok (.iload_n 2, 1) := by decide +kernel
theorem dX4_pulse_34 : decode cX4_pulse 34 = .ok (.iload_n 3, 1) := by decide +kernel
theorem dX4_pulse_35 : decode cX4_pulse 35 = .ok (.invokevirtual 128, 3) := by decide +kernel
theorem dX4_pulse_38 : decode cX4_pulse 38 = .ok (.aload_n 0, 1) := by decide +kernel
theorem dX4_pulse_39 : decode cX4_pulse 39 = .ok (.getfield 26, 3) := by decide +kernel
theorem dX4_pulse_42 : decode cX4_pulse 42 = .ok (.getfield 132, 3) := by decide +kernel
theorem dX4_pulse_45 : decode cX4_pulse 45 = .ok (.ifCond .eq 25, 3) := by decide +kernel
theorem dX4_pulse_48 : decode cX4_pulse 48 = .ok (.aload_n 0, 1) := by decide +kernel
theorem dX4_pulse_49 : decode cX4_pulse 49 = .ok (.getfield 26, 3) := by decide +kernel
theorem dX4_pulse_52 : decode cX4_pulse 52 = .ok (.iload 4, 2) := by decide +kernel
theorem dX4_pulse_54 : decode cX4_pulse 54 = .ok (.aload_n 0, 1) := by decide +kernel
theorem dX4_pulse_55 : decode cX4_pulse 55 = .ok (.getfield 10, 3) := by decide +kernel
theorem dX4_pulse_58 : decode cX4_pulse 58 = .ok (.iload 4, 2) := by decide +kernel
theorem dX4_pulse_60 : decode cX4_pulse 60 = .ok (.iconst 5, 1) := by decide +kernel
theorem dX4_pulse_61 : decode cX4_pulse 61 = .ok (.invokevirtual 67, 3) := by decide +kernel
theorem dX4_pulse_64 : decode cX4_pulse 64 = .ok (.invokevirtual 140, 3) := by decide +kernel
theorem dX4_pulse_67 : decode cX4_pulse 67 = .ok (.goto 5, 3) := by decide +kernel
theorem dX4_pulse_70 : decode cX4_pulse 70 = .ok (.ldc 139, 2) := by decide +kernel
theorem dX4_pulse_72 : decode cX4_pulse 72 = .ok (.ireturn, 1) := by decide +kernel
theorem dX4_price_0 : decode cX4_price 0 = .ok (.iload_n 1, 1) := by decide +kernel
theorem dX4_price_1 : decode cX4_price 1 = .ok (.iload_n 2, 1) := by decide +kernel
theorem dX4_price_2 : decode cX4_price 2 = .ok (.iload_n 3, 1) := by decide +kernel
theorem dX4_price_3 : decode cX4_price 3 = .ok (.invokestatic 125, 3) := by decide +kernel
theorem dX4_price_6 : decode cX4_price 6 = .ok (.ifCond .ne 6, 3) := by decide +kernel
theorem dX4_price_9 : decode cX4_price 9 = .ok (.ldc 50, 2) := by decide +kernel
theorem dX4_price_11 : decode cX4_price 11 = .ok (.ireturn, 1) := by decide +kernel
theorem dX4_price_12 : decode cX4_price 12 = .ok (.aload_n 0, 1) := by decide +kernel
theorem dX4_price_13 : decode cX4_price 13 = .ok (.getfield 26, 3) := by decide +kernel
theorem dX4_price_16 : decode cX4_price 16 = .ok (.aload_n 0, 1) := by decide +kernel
theorem dX4_price_17 : decode cX4_price 17 = .ok (.getfield 10, 3) := by decide +kernel
theorem dX4_price_20 : decode cX4_price 20 = .ok (.iload_n 1, 1) := by decide +kernel
theorem dX4_price_21 : decode cX4_price 21 = .ok (.iload_n 2, 1) := by decide +kernel
theorem dX4_price_22 : decode cX4_price 22 = .ok (.iload_n 3, 1) := by decide +kernel
theorem dX4_price_23 : decode cX4_price 23 = .ok (.invokevirtual 128, 3) := by decide +kernel
theorem dX4_price_26 : decode cX4_price 26 = .ok (.aload_n 0, 1) := by decide +kernel
theorem dX4_price_27 : decode cX4_price 27 = .ok (.getfield 26, 3) := by decide +kernel
theorem dX4_price_30 : decode cX4_price 30 = .ok (.getfield 132, 3) := by decide +kernel
theorem dX4_price_33 : decode cX4_price 33 = .ok (.ifCond .eq 13, 3) := by decide +kernel
theorem dX4_price_36 : decode cX4_price 36 = .ok (.aload_n 0, 1) := by decide +kernel
theorem dX4_price_37 : decode cX4_price 37 = .ok (.getfield 26, 3) := by decide +kernel
theorem dX4_price_40 : decode cX4_price 40 = .ok (.invokevirtual 143, 3) := by decide +kernel
theorem dX4_price_43 : decode cX4_price 43 = .ok (.goto 5, 3) := by decide +kernel
theorem dX4_price_46 : decode cX4_price 46 = .ok (.ldc 139, 2) := by decide +kernel
theorem dX4_price_48 : decode cX4_price 48 = .ok (.ireturn, 1) := by decide +kernel
theorem dX4_request_0 : decode cX4_request 0 = .ok (.aload_n 0, 1) := by decide +kernel
theorem dX4_request_1 : decode cX4_request 1 = .ok (.iload_n 1, 1) := by decide +kernel
theorem dX4_request_2 : decode cX4_request 2 = .ok (.iload_n 2, 1) := by decide +kernel
theorem dX4_request_3 : decode cX4_request 3 = .ok (.iload_n 3, 1) := by decide +kernel
theorem dX4_request_4 : decode cX4_request 4 = .ok (.iconst 0, 1) := by decide +kernel
theorem dX4_request_5 : decode cX4_request 5 = .ok (.invokevirtual 146, 3) := by decide +kernel
theorem dX4_request_8 : decode cX4_request 8 = .ok (.ireturn, 1) := by decide +kernel
theorem dX4_urge_0 : decode cX4_urge 0 = .ok (.aload_n 0, 1) := by decide +kernel
theorem dX4_urge_1 : decode cX4_urge 1 = .ok (.iload_n 1, 1) := by decide +kernel
theorem dX4_urge_2 : decode cX4_urge 2 = .ok (.iload_n 2, 1) := by decide +kernel
theorem dX4_urge_3 : decode cX4_urge 3 = .ok (.iload_n 3, 1) := by decide +kernel
theorem dX4_urge_4 : decode cX4_urge 4 = .ok (.iconst 1, 1) := by decide +kernel
theorem dX4_urge_5 : decode cX4_urge 5 = .ok (.invokevirtual 146, 3) := by decide +kernel
theorem dX4_urge_8 : decode cX4_urge 8 = .ok (.ireturn, 1) := by decide +kernel
theorem dX4_cancel_0 : decode cX4_cancel 0 = .ok (.aload_n 0, 1) := by decide +kernel
theorem dX4_cancel_1 : decode cX4_cancel 1 = .ok (.iload_n 1, 1) := by decide +kernel
theorem dX4_cancel_2 : decode cX4_cancel 2 = .ok (.invokevirtual 150, 3) := by decide +kernel
theorem dX4_cancel_5 : decode cX4_cancel 5 = .ok (.ifCond .ne 6, 3) := by decide +kernel
theorem dX4_cancel_8 : decode cX4_cancel 8 = .ok (.ldc 41, 2) := by decide +kernel
theorem dX4_cancel_10 : decode cX4_cancel 10 = .ok (.ireturn, 1) := by decide +kernel
theorem dX4_cancel_11 : decode cX4_cancel 11 = .ok (.aload_n 0, 1) := by decide +kernel
theorem dX4_cancel_12 : decode cX4_cancel 12 = .ok (.getfield 19, 3) := by decide +kernel
theorem dX4_cancel_15 : decode cX4_cancel 15 = .ok (.aload_n 0, 1) := by decide +kernel
theorem dX4_cancel_16 : decode cX4_cancel 16 = .ok (.getfield 10, 3) := by decide +kernel
theorem dX4_cancel_19 : decode cX4_cancel 19 = .ok (.invokevirtual 56, 3) := by decide +kernel
theorem dX4_cancel_22 : decode cX4_cancel 22 = .ok (.aload_n 0, 1) := by decide +kernel
theorem dX4_cancel_23 : decode cX4_cancel 23 = .ok (.getfield 10, 3) := by decide +kernel
theorem dX4_cancel_26 : decode cX4_cancel 26 = .ok (.iload_n 1, 1) := by decide +kernel
theorem dX4_cancel_27 : decode cX4_cancel 27 = .ok (.invokevirtual 153, 3) := by decide +kernel
theorem dX4_cancel_30 : decode cX4_cancel 30 = .ok (.aload_n 0, 1) := by decide +kernel
theorem dX4_cancel_31 : decode cX4_cancel 31 = .ok (.getfield 10, 3) := by decide +kernel
theorem dX4_cancel_34 : decode cX4_cancel 34 = .ok (.getfield 157, 3) := by decide +kernel
theorem dX4_cancel_37 : decode cX4_cancel 37 = .ok (.ireturn, 1) := by decide +kernel
theorem dX4_queued_0 : decode cX4_queued 0 = .ok (.aload_n 0, 1) := by decide +kernel
theorem dX4_queued_1 : decode cX4_queued 1 = .ok (.getfield 10, 3) := by decide +kernel
theorem dX4_queued_4 : decode cX4_queued 4 = .ok (.getfield 157, 3) := by decide +kernel
theorem dX4_queued_7 : decode cX4_queued 7 = .ok (.ireturn, 1) := by decide +kernel
theorem dX4_requested_0 : decode cX4_requested 0 = .ok (.aload_n 0, 1) := by decide +kernel
theorem dX4_requested_1 : decode cX4_requested 1 = .ok (.iload_n 1, 1) := by decide +kernel
theorem dX4_requested_2 : decode cX4_requested 2 = .ok (.invokevirtual 150, 3) := by decide +kernel
theorem dX4_requested_5 : decode cX4_requested 5 = .ok (.ifCond .eq 10, 3) := by decide +kernel
theorem dX4_requested_8 : decode cX4_requested 8 = .ok (.iload_n 2, 1) := by decide +kernel
theorem dX4_requested_9 : decode cX4_requested 9 = .ok (.invokestatic 81, 3) := by decide +kernel
theorem dX4_requested_12 : decode cX4_requested 12 = .ok (.ifCond .ne 6, 3) := by decide +kernel
theorem dX4_requested_15 : decode cX4_requested 15 = .ok (.ldc 41, 2) := by decide +kernel
theorem dX4_requested_17 : decode cX4_requested 17 = .ok (.ireturn, 1) := by decide +kernel
theorem dX4_requested_18 : decode cX4_requested 18 = .ok (.aload_n 0, 1) := by decide +kernel
theorem dX4_requested_19 : decode cX4_requested 19 = .ok (.getfield 10, 3) := by decide +kernel
theorem dX4_requested_22 : decode cX4_requested 22 = .ok (.getfield 160, 3) := by decide +kernel
theorem dX4_requested_25 : decode cX4_requested 25 = .ok (.iload_n 1, 1) := by decide +kernel
theorem dX4_requested_26 : decode cX4_requested 26 = .ok (.iconst 3, 1) := by decide +kernel
theorem dX4_requested_27 : decode cX4_requested 27 = .ok (.imul, 1) := by decide +kernel
theorem dX4_requested_28 : decode cX4_requested 28 = .ok (.iload_n 2, 1) := by decide +kernel
theorem dX4_requested_29 : decode cX4_requested 29 = .ok (.iadd, 1) := by decide +kernel
theorem dX4_requested_30 : decode cX4_requested 30 = .ok (.iaload, 1) := by decide +kernel
theorem dX4_requested_31 : decode cX4_requested 31 = .ok (.ireturn, 1) := by decide +kernel
theorem dX4_cycle_0 : decode cX4_cycle 0 = .ok (.aload_n 0, 1) := by decide +kernel
theorem dX4_cycle_1 : decode cX4_cycle 1 = .ok (.getfield 19, 3) := by decide +kernel
theorem dX4_cycle_4 : decode cX4_cycle 4 = .ok (.aload_n 0, 1) := by decide +kernel
theorem dX4_cycle_5 : decode cX4_cycle 5 = .ok (.getfield 10, 3) := by decide +kernel
theorem dX4_cycle_8 : decode cX4_cycle 8 = .ok (.invokevirtual 56, 3) := by decide +kernel
theorem dX4_cycle_11 : decode cX4_cycle 11 = .ok (.aload_n 0, 1) := by decide +kernel
theorem dX4_cycle_12 : decode cX4_cycle 12 = .ok (.invokevirtual 163, 3) := by decide +kernel
theorem dX4_cycle_15 : decode cX4_cycle 15 = .ok (.ireturn, 1) := by decide +kernel
theorem dX4_cycles_0 : decode cX4_cycles 0 = .ok (.iload_n 1, 1) := by decide +kernel
theorem dX4_cycles_1 : decode cX4_cycles 1 = .ok (.iconst 1, 1) := by decide +kernel
theorem dX4_cycles_2 : decode cX4_cycles 2 = .ok (.bipush 20, 2) := by decide +kernel
theorem dX4_cycles_4 : decode cX4_cycles 4 = .ok (.invokestatic 46, 3) := by decide +kernel
theorem dX4_cycles_7 : decode cX4_cycles 7 = .ok (.ifCond .ne 6, 3) := by decide +kernel
theorem dX4_cycles_10 : decode cX4_cycles 10 = .ok (.ldc 50, 2) := by decide +kernel
theorem dX4_cycles_12 : decode cX4_cycles 12 = .ok (.ireturn, 1) := by decide +kernel
theorem dX4_cycles_13 : decode cX4_cycles 13 = .ok (.aload_n 0, 1) := by decide +kernel
theorem dX4_cycles_14 : decode cX4_cycles 14 = .ok (.getfield 19, 3) := by decide +kernel
theorem dX4_cycles_17 : decode cX4_cycles 17 = .ok (.aload_n 0, 1) := by decide +kernel
theorem dX4_cycles_18 : decode cX4_cycles 18 = .ok (.getfield 10, 3) := by decide +kernel
theorem dX4_cycles_21 : decode cX4_cycles 21 = .ok (.invokevirtual 56, 3) := by decide +kernel
theorem dX4_cycles_24 : decode cX4_cycles 24 = .ok (.iconst 0, 1) := by decide +kernel
theorem dX4_cycles_25 : decode cX4_cycles 25 = .ok (.istore_n 2, 1) := by decide +kernel
theorem dX4_cycles_26 : decode cX4_cycles 26 = .ok (.iconst 0, 1) := by decide +kernel
theorem dX4_cycles_27 : decode cX4_cycles 27 = .ok (.istore_n 3, 1) := by decide +kernel
theorem dX4_cycles_28 : decode cX4_cycles 28 = .ok (.iload_n 3, 1) := by decide +kernel
theorem dX4_cycles_29 : decode cX4_cycles 29 = .ok (.iload_n 1, 1) := by decide +kernel
theorem dX4_cycles_30 : decode cX4_cycles 30 = .ok (.if_icmp .ge 21, 3) := by decide +kernel
theorem dX4_cycles_33 : decode cX4_cycles 33 = .ok (.aload_n 0, 1) := by decide +kernel
theorem dX4_cycles_34 : decode cX4_cycles 34 = .ok (.invokevirtual 163, 3) := by decide +kernel
theorem dX4_cycles_37 : decode cX4_cycles 37 = .ok (.ldc 139, 2) := by decide +kernel
theorem dX4_cycles_39 : decode cX4_cycles 39 = .ok (.if_icmp .eq 6, 3) := by decide +kernel
theorem dX4_cycles_42 : decode cX4_cycles 42 = .ok (.iinc 2 1, 3) := by decide +kernel
theorem dX4_cycles_45 : decode cX4_cycles 45 = .ok (.iinc 3 1, 3) := by decide +kernel
theorem dX4_cycles_48 : decode cX4_cycles 48 = .ok (.goto (-20), 3) := by decide +kernel
theorem dX4_cycles_51 : decode cX4_cycles 51 = .ok (.iload_n 2, 1) := by decide +kernel
theorem dX4_cycles_52 : decode cX4_cycles 52 = .ok (.ireturn, 1) := by decide +kernel
theorem dX4_cycleCount_0 : decode cX4_cycleCount 0 = .ok (.aload_n 0, 1) := by decide +kernel
theorem dX4_cycleCount_1 : decode cX4_cycleCount 1 = .ok (.getfield 10, 3) := by decide +kernel
theorem dX4_cycleCount_4 : decode cX4_cycleCount 4 = .ok (.getfield 166, 3) := by decide +kernel
theorem dX4_cycleCount_7 : decode cX4_cycleCount 7 = .ok (.ireturn, 1) := by decide +kernel
theorem dX4_fired_0 : decode cX4_fired 0 = .ok (.aload_n 0, 1) := by decide +kernel
theorem dX4_fired_1 : decode cX4_fired 1 = .ok (.iload_n 1, 1) := by decide +kernel
theorem dX4_fired_2 : decode cX4_fired 2 = .ok (.invokevirtual 64, 3) := by decide +kernel
theorem dX4_fired_5 : decode cX4_fired 5 = .ok (.ifCond .eq 15, 3) := by decide +kernel
theorem dX4_fired_8 : decode cX4_fired 8 = .ok (.aload_n 0, 1) := by decide +kernel
theorem dX4_fired_9 : decode cX4_fired 9 = .ok (.getfield 10, 3) := by decide +kernel
theorem dX4_fired_12 : decode cX4_fired 12 = .ok (.getfield 169, 3) := by decide +kernel
theorem dX4_fired_15 : decode cX4_fired 15 = .ok (.iload_n 1, 1) := by decide +kernel
theorem dX4_fired_16 : decode cX4_fired 16 = .ok (.iaload, 1) := by decide +kernel
theorem dX4_fired_17 : decode cX4_fired 17 = .ok (.goto 5, 3) := by decide +kernel
theorem dX4_fired_20 : decode cX4_fired 20 = .ok (.ldc 41, 2) := by decide +kernel
theorem dX4_fired_22 : decode cX4_fired 22 = .ok (.ireturn, 1) := by decide +kernel
theorem dX4_impulse_0 : decode cX4_impulse 0 = .ok (.iload_n 2, 1) := by decide +kernel
theorem dX4_impulse_1 : decode cX4_impulse 1 = .ok (.invokestatic 81, 3) := by decide +kernel
theorem dX4_impulse_4 : decode cX4_impulse 4 = .ok (.ifCond .ne 6, 3) := by decide +kernel
theorem dX4_impulse_7 : decode cX4_impulse 7 = .ok (.ldc 41, 2) := by decide +kernel
theorem dX4_impulse_9 : decode cX4_impulse 9 = .ok (.ireturn, 1) := by decide +kernel
theorem dX4_impulse_10 : decode cX4_impulse 10 = .ok (.iload_n 1, 1) := by decide +kernel
theorem dX4_impulse_11 : decode cX4_impulse 11 = .ok (.iconst 0, 1) := by decide +kernel
theorem dX4_impulse_12 : decode cX4_impulse 12 = .ok (.iconst 2, 1) := by decide +kernel
theorem dX4_impulse_13 : decode cX4_impulse 13 = .ok (.invokestatic 46, 3) := by decide +kernel
theorem dX4_impulse_16 : decode cX4_impulse 16 = .ok (.ifCond .ne 6, 3) := by decide +kernel
theorem dX4_impulse_19 : decode cX4_impulse 19 = .ok (.ldc 50, 2) := by decide +kernel
theorem dX4_impulse_21 : decode cX4_impulse 21 = .ok (.ireturn, 1) := by decide +kernel
theorem dX4_impulse_22 : decode cX4_impulse 22 = .ok (.aload_n 0, 1) := by decide +kernel
theorem dX4_impulse_23 : decode cX4_impulse 23 = .ok (.getfield 10, 3) := by decide +kernel
theorem dX4_impulse_26 : decode cX4_impulse 26 = .ok (.iload_n 1, 1) := by decide +kernel
theorem dX4_impulse_27 : decode cX4_impulse 27 = .ok (.iload_n 2, 1) := by decide +kernel
theorem dX4_impulse_28 : decode cX4_impulse 28 = .ok (.invokevirtual 172, 3) := by decide +kernel
theorem dX4_impulse_31 : decode cX4_impulse 31 = .ok (.ireturn, 1) := by decide +kernel
theorem dX4_total_0 : decode cX4_total 0 = .ok (.iload_n 1, 1) := by decide +kernel
theorem dX4_total_1 : decode cX4_total 1 = .ok (.invokestatic 81, 3) := by decide +kernel
theorem dX4_total_4 : decode cX4_total 4 = .ok (.ifCond .eq 15, 3) := by decide +kernel
theorem dX4_total_7 : decode cX4_total 7 = .ok (.aload_n 0, 1) := by decide +kernel
theorem dX4_total_8 : decode cX4_total 8 = .ok (.getfield 10, 3) := by decide +kernel
theorem dX4_total_11 : decode cX4_total 11 = .ok (.getfield 175, 3) := by decide +kernel
theorem dX4_total_14 : decode cX4_total 14 = .ok (.iload_n 1, 1) := by decide +kernel
theorem dX4_total_15 : decode cX4_total 15 = .ok (.laload, 1) := by decide +kernel
theorem dX4_total_16 : decode cX4_total 16 = .ok (.goto 6, 3) := by decide +kernel
theorem dX4_total_19 : decode cX4_total 19 = .ok (.ldc2_w 179, 3) := by decide +kernel
theorem dX4_total_22 : decode cX4_total 22 = .ok (.lreturn, 1) := by decide +kernel
theorem dX4_suspect_0 : decode cX4_suspect 0 = .ok (.iload_n 1, 1) := by decide +kernel
theorem dX4_suspect_1 : decode cX4_suspect 1 = .ok (.iload_n 2, 1) := by decide +kernel
theorem dX4_suspect_2 : decode cX4_suspect 2 = .ok (.iload_n 3, 1) := by decide +kernel
theorem dX4_suspect_3 : decode cX4_suspect 3 = .ok (.ldc 181, 2) := by decide +kernel
theorem dX4_suspect_5 : decode cX4_suspect 5 = .ok (.invokestatic 182, 3) := by decide +kernel
theorem dX4_suspect_8 : decode cX4_suspect 8 = .ok (.ifCond .ne 6, 3) := by decide +kernel
theorem dX4_suspect_11 : decode cX4_suspect 11 = .ok (.ldc 50, 2) := by decide +kernel
theorem dX4_suspect_13 : decode cX4_suspect 13 = .ok (.ireturn, 1) := by decide +kernel
theorem dX4_suspect_14 : decode cX4_suspect 14 = .ok (.aload_n 0, 1) := by decide +kernel
theorem dX4_suspect_15 : decode cX4_suspect 15 = .ok (.getfield 10, 3) := by decide +kernel
theorem dX4_suspect_18 : decode cX4_suspect 18 = .ok (.getfield 166, 3) := by decide +kernel
theorem dX4_suspect_21 : decode cX4_suspect 21 = .ok (.ifCond .ne 6, 3) := by decide +kernel
theorem dX4_suspect_24 : decode cX4_suspect 24 = .ok (.ldc 108, 2) := by decide +kernel
theorem dX4_suspect_26 : decode cX4_suspect 26 = .ok (.ireturn, 1) := by decide +kernel
theorem dX4_suspect_27 : decode cX4_suspect 27 = .ok (.iload_n 1, 1) := by decide +kernel
theorem dX4_suspect_28 : decode cX4_suspect 28 = .ok (.aload_n 0, 1) := by decide +kernel
theorem dX4_suspect_29 : decode cX4_suspect 29 = .ok (.getfield 10, 3) := by decide +kernel
theorem dX4_suspect_32 : decode cX4_suspect 32 = .ok (.iconst 1, 1) := by decide +kernel
theorem dX4_suspect_33 : decode cX4_suspect 33 = .ok (.iconst 0, 1) := by decide +kernel
theorem dX4_suspect_34 : decode cX4_suspect 34 = .ok (.invokevirtual 172, 3) := by decide +kernel
theorem dX4_suspect_37 : decode cX4_suspect 37 = .ok (.isub, 1) := by decide +kernel
theorem dX4_suspect_38 : decode cX4_suspect 38 = .ok (.istore 4, 2) := by decide +kernel
theorem dX4_suspect_40 : decode cX4_suspect 40 = .ok (.iload_n 2, 1) := by decide +kernel
theorem dX4_suspect_41 : decode cX4_suspect 41 = .ok (.aload_n 0, 1) := by decide +kernel
theorem dX4_suspect_42 : decode cX4_suspect 42 = .ok (.getfield 10, 3) := by decide +kernel
theorem dX4_suspect_45 : decode cX4_suspect 45 = .ok (.iconst 1, 1) := by decide +kernel
theorem dX4_suspect_46 : decode cX4_suspect 46 = .ok (.iconst 1, 1) := by decide +kernel
theorem dX4_suspect_47 : decode cX4_suspect 47 = .ok (.invokevirtual 172, 3) := by decide +kernel
theorem dX4_suspect_50 : decode cX4_suspect 50 = .ok (.isub, 1) := by decide +kernel
theorem dX4_suspect_51 : decode cX4_suspect 51 = .ok (.istore 5, 2) := by decide +kernel
theorem dX4_suspect_53 : decode cX4_suspect 53 = .ok (.iload_n 3, 1) := by decide +kernel
theorem dX4_suspect_54 : decode cX4_suspect 54 = .ok (.aload_n 0, 1) := by decide +kernel
theorem dX4_suspect_55 : decode cX4_suspect 55 = .ok (.getfield 10, 3) := by decide +kernel
theorem dX4_suspect_58 : decode cX4_suspect 58 = .ok (.iconst 1, 1) := by decide +kernel
theorem dX4_suspect_59 : decode cX4_suspect 59 = .ok (.iconst 2, 1) := by decide +kernel
theorem dX4_suspect_60 : decode cX4_suspect 60 = .ok (.invokevirtual 172, 3) := by decide +kernel
theorem dX4_suspect_63 : decode cX4_suspect 63 = .ok (.isub, 1) := by decide +kernel
theorem dX4_suspect_64 : decode cX4_suspect 64 = .ok (.istore 6, 2) := by decide +kernel
theorem dX4_suspect_66 : decode cX4_suspect 66 = .ok (.iload 4, 2) := by decide +kernel
theorem dX4_suspect_68 : decode cX4_suspect 68 = .ok (.ifCond .ne 15, 3) := by decide +kernel
theorem dX4_suspect_71 : decode cX4_suspect 71 = .ok (.iload 5, 2) := by decide +kernel
theorem dX4_suspect_73 : decode cX4_suspect 73 = .ok (.ifCond .ne 10, 3) := by decide +kernel
theorem dX4_suspect_76 : decode cX4_suspect 76 = .ok (.iload 6, 2) := by decide +kernel
theorem dX4_suspect_78 : decode cX4_suspect 78 = .ok (.ifCond .ne 5, 3) := by decide +kernel
theorem dX4_suspect_81 : decode cX4_suspect 81 = .ok (.iconst 0, 1) := by decide +kernel
theorem dX4_suspect_82 : decode cX4_suspect 82 = .ok (.ireturn, 1) := by decide +kernel
theorem dX4_suspect_83 : decode cX4_suspect 83 = .ok (.aload_n 0, 1) := by decide +kernel
theorem dX4_suspect_84 : decode cX4_suspect 84 = .ok (.getfield 10, 3) := by decide +kernel
theorem dX4_suspect_87 : decode cX4_suspect 87 = .ok (.iload 4, 2) := by decide +kernel
theorem dX4_suspect_89 : decode cX4_suspect 89 = .ok (.iload 5, 2) := by decide +kernel
theorem dX4_suspect_91 : decode cX4_suspect 91 = .ok (.iload 6, 2) := by decide +kernel
theorem dX4_suspect_93 : decode cX4_suspect 93 = .ok (.invokevirtual 186, 3) := by decide +kernel
theorem dX4_suspect_96 : decode cX4_suspect 96 = .ok (.istore 7, 2) := by decide +kernel
theorem dX4_suspect_98 : decode cX4_suspect 98 = .ok (.iload 7, 2) := by decide +kernel
theorem dX4_suspect_100 : decode cX4_suspect 100 = .ok (.ifCond .lt 9, 3) := by decide +kernel
theorem dX4_suspect_103 : decode cX4_suspect 103 = .ok (.bipush 100, 2) := by decide +kernel
theorem dX4_suspect_105 : decode cX4_suspect 105 = .ok (.iload 7, 2) := by decide +kernel
theorem dX4_suspect_107 : decode cX4_suspect 107 = .ok (.iadd, 1) := by decide +kernel
theorem dX4_suspect_108 : decode cX4_suspect 108 = .ok (.ireturn, 1) := by decide +kernel
theorem dX4_suspect_109 : decode cX4_suspect 109 = .ok (.aload_n 0, 1) := by decide +kernel
theorem dX4_suspect_110 : decode cX4_suspect 110 = .ok (.getfield 10, 3) := by decide +kernel
theorem dX4_suspect_113 : decode cX4_suspect 113 = .ok (.iload 4, 2) := by decide +kernel
theorem dX4_suspect_115 : decode cX4_suspect 115 = .ok (.iload 5, 2) := by decide +kernel
theorem dX4_suspect_117 : decode cX4_suspect 117 = .ok (.iload 6, 2) := by decide +kernel
theorem dX4_suspect_119 : decode cX4_suspect 119 = .ok (.invokevirtual 190, 3) := by decide +kernel
theorem dX4_suspect_122 : decode cX4_suspect 122 = .ok (.istore 8, 2) := by decide +kernel
theorem dX4_suspect_124 : decode cX4_suspect 124 = .ok (.iload 8, 2) := by decide +kernel
theorem dX4_suspect_126 : decode cX4_suspect 126 = .ok (.ifCond .lt 12, 3) := by decide +kernel
theorem dX4_suspect_129 : decode cX4_suspect 129 = .ok (.sipush 200, 3) := by decide +kernel
theorem dX4_suspect_132 : decode cX4_suspect 132 = .ok (.iload 8, 2) := by decide +kernel
theorem dX4_suspect_134 : decode cX4_suspect 134 = .ok (.iadd, 1) := by decide +kernel
theorem dX4_suspect_135 : decode cX4_suspect 135 = .ok (.goto 5, 3) := by decide +kernel
theorem dX4_suspect_138 : decode cX4_suspect 138 = .ok (.ldc 139, 2) := by decide +kernel
theorem dX4_suspect_140 : decode cX4_suspect 140 = .ok (.ireturn, 1) := by decide +kernel
theorem dX4_undo_0 : decode cX4_undo 0 = .ok (.aload_n 0, 1) := by decide +kernel
theorem dX4_undo_1 : decode cX4_undo 1 = .ok (.getfield 19, 3) := by decide +kernel
theorem dX4_undo_4 : decode cX4_undo 4 = .ok (.getfield 193, 3) := by decide +kernel
theorem dX4_undo_7 : decode cX4_undo 7 = .ok (.ifCond .ne 6, 3) := by decide +kernel
theorem dX4_undo_10 : decode cX4_undo 10 = .ok (.ldc 108, 2) := by decide +kernel
theorem dX4_undo_12 : decode cX4_undo 12 = .ok (.ireturn, 1) := by decide +kernel
theorem dX4_undo_13 : decode cX4_undo 13 = .ok (.aload_n 0, 1) := by decide +kernel
theorem dX4_undo_14 : decode cX4_undo 14 = .ok (.getfield 19, 3) := by decide +kernel
theorem dX4_undo_17 : decode cX4_undo 17 = .ok (.aload_n 0, 1) := by decide +kernel
theorem dX4_undo_18 : decode cX4_undo 18 = .ok (.getfield 10, 3) := by decide +kernel
theorem dX4_undo_21 : decode cX4_undo 21 = .ok (.invokevirtual 196, 3) := by decide +kernel
theorem dX4_undo_24 : decode cX4_undo 24 = .ok (.aload_n 0, 1) := by decide +kernel
theorem dX4_undo_25 : decode cX4_undo 25 = .ok (.getfield 19, 3) := by decide +kernel
theorem dX4_undo_28 : decode cX4_undo 28 = .ok (.getfield 193, 3) := by decide +kernel
theorem dX4_undo_31 : decode cX4_undo 31 = .ok (.ireturn, 1) := by decide +kernel
theorem dX4_load_0 : decode cX4_load 0 = .ok (.aload_n 0, 1) := by decide +kernel
theorem dX4_load_1 : decode cX4_load 1 = .ok (.getfield 33, 3) := by decide +kernel
theorem dX4_load_4 : decode cX4_load 4 = .ok (.bipush 10, 2) := by decide +kernel
theorem dX4_load_6 : decode cX4_load 6 = .ok (.aload_n 0, 1) := by decide +kernel
theorem dX4_load_7 : decode cX4_load 7 = .ok (.getfield 10, 3) := by decide +kernel
theorem dX4_load_10 : decode cX4_load 10 = .ok (.getfield 157, 3) := by decide +kernel
theorem dX4_load_13 : decode cX4_load 13 = .ok (.isub, 1) := by decide +kernel
theorem dX4_load_14 : decode cX4_load 14 = .ok (.invokevirtual 205, 3) := by decide +kernel
theorem dX4_load_17 : decode cX4_load 17 = .ok (.ldc 139, 2) := by decide +kernel
theorem dX4_load_19 : decode cX4_load 19 = .ok (.if_icmp .eq 6, 3) := by decide +kernel
theorem dX4_load_22 : decode cX4_load 22 = .ok (.ldc 108, 2) := by decide +kernel
theorem dX4_load_24 : decode cX4_load 24 = .ok (.ireturn, 1) := by decide +kernel
theorem dX4_load_25 : decode cX4_load 25 = .ok (.aload_n 0, 1) := by decide +kernel
theorem dX4_load_26 : decode cX4_load 26 = .ok (.getfield 19, 3) := by decide +kernel
theorem dX4_load_29 : decode cX4_load 29 = .ok (.aload_n 0, 1) := by decide +kernel
theorem dX4_load_30 : decode cX4_load 30 = .ok (.getfield 10, 3) := by decide +kernel
theorem dX4_load_33 : decode cX4_load 33 = .ok (.invokevirtual 56, 3) := by decide +kernel
theorem dX4_load_36 : decode cX4_load 36 = .ok (.iconst 0, 1) := by decide +kernel
theorem dX4_load_37 : decode cX4_load 37 = .ok (.istore_n 1, 1) := by decide +kernel
theorem dX4_load_38 : decode cX4_load 38 = .ok (.iload_n 1, 1) := by decide +kernel
theorem dX4_load_39 : decode cX4_load 39 = .ok (.aload_n 0, 1) := by decide +kernel
theorem dX4_load_40 : decode cX4_load 40 = .ok (.getfield 33, 3) := by decide +kernel
theorem dX4_load_43 : decode cX4_load 43 = .ok (.getfield 208, 3) := by decide +kernel
theorem dX4_load_46 : decode cX4_load 46 = .ok (.if_icmp .ge 60, 3) := by decide +kernel
theorem dX4_load_49 : decode cX4_load 49 = .ok (.iload_n 1, 1) := by decide +kernel
theorem dX4_load_50 : decode cX4_load 50 = .ok (.iconst 3, 1) := by decide +kernel
theorem dX4_load_51 : decode cX4_load 51 = .ok (.imul, 1) := by decide +kernel
theorem dX4_load_52 : decode cX4_load 52 = .ok (.istore_n 2, 1) := by decide +kernel
theorem dX4_load_53 : decode cX4_load 53 = .ok (.aload_n 0, 1) := by decide +kernel
theorem dX4_load_54 : decode cX4_load 54 = .ok (.getfield 10, 3) := by decide +kernel
theorem dX4_load_57 : decode cX4_load 57 = .ok (.aload_n 0, 1) := by decide +kernel
theorem dX4_load_58 : decode cX4_load 58 = .ok (.getfield 33, 3) := by decide +kernel
theorem dX4_load_61 : decode cX4_load 61 = .ok (.getfield 211, 3) := by decide +kernel
theorem dX4_load_64 : decode cX4_load 64 = .ok (.iload_n 2, 1) := by decide +kernel
theorem dX4_load_65 : decode cX4_load 65 = .ok (.iaload, 1) := by decide +kernel
theorem dX4_load_66 : decode cX4_load 66 = .ok (.aload_n 0, 1) := by decide +kernel
theorem dX4_load_67 : decode cX4_load 67 = .ok (.getfield 33, 3) := by decide +kernel
theorem dX4_load_70 : decode cX4_load 70 = .ok (.getfield 211, 3) := by decide +kernel
theorem dX4_load_73 : decode cX4_load 73 = .ok (.iload_n 2, 1) := by decide +kernel
theorem dX4_load_74 : decode cX4_load 74 = .ok (.iconst 1, 1) := by decide +kernel
theorem dX4_load_75 : decode cX4_load 75 = .ok (.iadd, 1) := by decide +kernel
theorem dX4_load_76 : decode cX4_load 76 = .ok (.iaload, 1) := by decide +kernel
theorem dX4_load_77 : decode cX4_load 77 = .ok (.aload_n 0, 1) := by decide +kernel
theorem dX4_load_78 : decode cX4_load 78 = .ok (.getfield 33, 3) := by decide +kernel
theorem dX4_load_81 : decode cX4_load 81 = .ok (.getfield 211, 3) := by decide +kernel
theorem dX4_load_84 : decode cX4_load 84 = .ok (.iload_n 2, 1) := by decide +kernel
theorem dX4_load_85 : decode cX4_load 85 = .ok (.iconst 2, 1) := by decide +kernel
theorem dX4_load_86 : decode cX4_load 86 = .ok (.iadd, 1) := by decide +kernel
theorem dX4_load_87 : decode cX4_load 87 = .ok (.iaload, 1) := by decide +kernel
theorem dX4_load_88 : decode cX4_load 88 = .ok (.aload_n 0, 1) := by decide +kernel
theorem dX4_load_89 : decode cX4_load 89 = .ok (.getfield 33, 3) := by decide +kernel
theorem dX4_load_92 : decode cX4_load 92 = .ok (.getfield 214, 3) := by decide +kernel
theorem dX4_load_95 : decode cX4_load 95 = .ok (.iload_n 1, 1) := by decide +kernel
theorem dX4_load_96 : decode cX4_load 96 = .ok (.baload, 1) := by decide +kernel
theorem dX4_load_97 : decode cX4_load 97 = .ok (.invokevirtual 218, 3) := by decide +kernel
theorem dX4_load_100 : decode cX4_load 100 = .ok (.iinc 1 1, 3) := by decide +kernel
theorem dX4_load_103 : decode cX4_load 103 = .ok (.goto (-65), 3) := by decide +kernel
theorem dX4_load_106 : decode cX4_load 106 = .ok (.aload_n 0, 1) := by decide +kernel
theorem dX4_load_107 : decode cX4_load 107 = .ok (.getfield 10, 3) := by decide +kernel
theorem dX4_load_110 : decode cX4_load 110 = .ok (.getfield 157, 3) := by decide +kernel
theorem dX4_load_113 : decode cX4_load 113 = .ok (.ireturn, 1) := by decide +kernel
theorem dX4_digest_0 : decode cX4_digest 0 = .ok (.ldc2_w 222, 3) := by decide +kernel
theorem dX4_digest_3 : decode cX4_digest 3 = .ok (.aload_n 0, 1) := by decide +kernel
theorem dX4_digest_4 : decode cX4_digest 4 = .ok (.getfield 10, 3) := by decide +kernel
theorem dX4_digest_7 : decode cX4_digest 7 = .ok (.getfield 51, 3) := by decide +kernel
theorem dX4_digest_10 : decode cX4_digest 10 = .ok (.i2l, 1) := by decide +kernel
theorem dX4_digest_11 : decode cX4_digest 11 = .ok (.ladd, 1) := by decide +kernel
theorem dX4_digest_12 : decode cX4_digest 12 = .ok (.lstore_n 1, 1) := by decide +kernel
theorem dX4_digest_13 : decode cX4_digest 13 = .ok (.iconst 0, 1) := by decide +kernel
theorem dX4_digest_14 : decode cX4_digest 14 = .ok (.istore_n 3, 1) := by decide +kernel
theorem dX4_digest_15 : decode cX4_digest 15 = .ok (.iload_n 3, 1) := by decide +kernel
theorem dX4_digest_16 : decode cX4_digest 16 = .ok (.aload_n 0, 1) := by decide +kernel
theorem dX4_digest_17 : decode cX4_digest 17 = .ok (.getfield 10, 3) := by decide +kernel
theorem dX4_digest_20 : decode cX4_digest 20 = .ok (.getfield 51, 3) := by decide +kernel
theorem dX4_digest_23 : decode cX4_digest 23 = .ok (.if_icmp .ge 60, 3) := by decide +kernel
theorem dX4_digest_26 : decode cX4_digest 26 = .ok (.iconst 0, 1) := by decide +kernel
theorem dX4_digest_27 : decode cX4_digest 27 = .ok (.istore 4, 2) := by decide +kernel
theorem dX4_digest_29 : decode cX4_digest 29 = .ok (.iload 4, 2) := by decide +kernel
theorem dX4_digest_31 : decode cX4_digest 31 = .ok (.bipush 7, 2) := by decide +kernel
theorem dX4_digest_33 : decode cX4_digest 33 = .ok (.if_icmp .ge 27, 3) := by decide +kernel
theorem dX4_digest_36 : decode cX4_digest 36 = .ok (.ldc2_w 224, 3) := by decide +kernel
theorem dX4_digest_39 : decode cX4_digest 39 = .ok (.lload_n 1, 1) := by decide +kernel
theorem dX4_digest_40 : decode cX4_digest 40 = .ok (.lmul, 1) := by decide +kernel
theorem dX4_digest_41 : decode cX4_digest 41 = .ok (.aload_n 0, 1) := by decide +kernel
theorem dX4_digest_42 : decode cX4_digest 42 = .ok (.getfield 10, 3) := by decide +kernel
theorem dX4_digest_45 : decode cX4_digest 45 = .ok (.iload_n 3, 1) := by decide +kernel
theorem dX4_digest_46 : decode cX4_digest 46 = .ok (.iload 4, 2) := by decide +kernel
theorem dX4_digest_48 : decode cX4_digest 48 = .ok (.invokevirtual 67, 3) := by decide +kernel
theorem dX4_digest_51 : decode cX4_digest 51 = .ok (.i2l, 1) := by decide +kernel
theorem dX4_digest_52 : decode cX4_digest 52 = .ok (.ladd, 1) := by decide +kernel
theorem dX4_digest_53 : decode cX4_digest 53 = .ok (.lstore_n 1, 1) := by decide +kernel
theorem dX4_digest_54 : decode cX4_digest 54 = .ok (.iinc 4 1, 3) := by decide +kernel
theorem dX4_digest_57 : decode cX4_digest 57 = .ok (.goto (-28), 3) := by decide +kernel
theorem dX4_digest_60 : decode cX4_digest 60 = .ok (.ldc2_w 224, 3) := by decide +kernel
theorem dX4_digest_63 : decode cX4_digest 63 = .ok (.lload_n 1, 1) := by decide +kernel
theorem dX4_digest_64 : decode cX4_digest 64 = .ok (.lmul, 1) := by decide +kernel
theorem dX4_digest_65 : decode cX4_digest 65 = .ok (.aload_n 0, 1) := by decide +kernel
theorem dX4_digest_66 : decode cX4_digest 66 = .ok (.getfield 10, 3) := by decide +kernel
theorem dX4_digest_69 : decode cX4_digest 69 = .ok (.getfield 169, 3) := by decide +kernel
theorem dX4_digest_72 : decode cX4_digest 72 = .ok (.iload_n 3, 1) := by decide +kernel
theorem dX4_digest_73 : decode cX4_digest 73 = .ok (.iaload, 1) := by decide +kernel
theorem dX4_digest_74 : decode cX4_digest 74 = .ok (.i2l, 1) := by decide +kernel
theorem dX4_digest_75 : decode cX4_digest 75 = .ok (.ladd, 1) := by decide +kernel
theorem dX4_digest_76 : decode cX4_digest 76 = .ok (.lstore_n 1, 1) := by decide +kernel
theorem dX4_digest_77 : decode cX4_digest 77 = .ok (.iinc 3 1, 3) := by decide +kernel
theorem dX4_digest_80 : decode cX4_digest 80 = .ok (.goto (-65), 3) := by decide +kernel
theorem dX4_digest_83 : decode cX4_digest 83 = .ok (.iconst 0, 1) := by decide +kernel
theorem dX4_digest_84 : decode cX4_digest 84 = .ok (.istore_n 3, 1) := by decide +kernel
theorem dX4_digest_85 : decode cX4_digest 85 = .ok (.iload_n 3, 1) := by decide +kernel
theorem dX4_digest_86 : decode cX4_digest 86 = .ok (.iconst 2, 1) := by decide +kernel
theorem dX4_digest_87 : decode cX4_digest 87 = .ok (.if_icmp .ge 26, 3) := by decide +kernel
theorem dX4_digest_90 : decode cX4_digest 90 = .ok (.ldc2_w 224, 3) := by decide +kernel
theorem dX4_digest_93 : decode cX4_digest 93 = .ok (.lload_n 1, 1) := by decide +kernel
theorem dX4_digest_94 : decode cX4_digest 94 = .ok (.lmul, 1) := by decide +kernel
theorem dX4_digest_95 : decode cX4_digest 95 = .ok (.aload_n 0, 1) := by decide +kernel
theorem dX4_digest_96 : decode cX4_digest 96 = .ok (.getfield 10, 3) := by decide +kernel
theorem dX4_digest_99 : decode cX4_digest 99 = .ok (.getfield 95, 3) := by decide +kernel
theorem dX4_digest_102 : decode cX4_digest 102 = .ok (.iload_n 3, 1) := by decide +kernel
theorem dX4_digest_103 : decode cX4_digest 103 = .ok (.iaload, 1) := by decide +kernel
theorem dX4_digest_104 : decode cX4_digest 104 = .ok (.i2l, 1) := by decide +kernel
theorem dX4_digest_105 : decode cX4_digest 105 = .ok (.ladd, 1) := by decide +kernel
theorem dX4_digest_106 : decode cX4_digest 106 = .ok (.lstore_n 1, 1) := by decide +kernel
theorem dX4_digest_107 : decode cX4_digest 107 = .ok (.iinc 3 1, 3) := by decide +kernel
theorem dX4_digest_110 : decode cX4_digest 110 = .ok (.goto (-25), 3) := by decide +kernel
theorem dX4_digest_113 : decode cX4_digest 113 = .ok (.ldc2_w 224, 3) := by decide +kernel
theorem dX4_digest_116 : decode cX4_digest 116 = .ok (.lload_n 1, 1) := by decide +kernel
theorem dX4_digest_117 : decode cX4_digest 117 = .ok (.lmul, 1) := by decide +kernel
theorem dX4_digest_118 : decode cX4_digest 118 = .ok (.aload_n 0, 1) := by decide +kernel
theorem dX4_digest_119 : decode cX4_digest 119 = .ok (.getfield 10, 3) := by decide +kernel
theorem dX4_digest_122 : decode cX4_digest 122 = .ok (.getfield 157, 3) := by decide +kernel
theorem dX4_digest_125 : decode cX4_digest 125 = .ok (.i2l, 1) := by decide +kernel
theorem dX4_digest_126 : decode cX4_digest 126 = .ok (.ladd, 1) := by decide +kernel
theorem dX4_digest_127 : decode cX4_digest 127 = .ok (.lstore_n 1, 1) := by decide +kernel
theorem dX4_digest_128 : decode cX4_digest 128 = .ok (.iconst 0, 1) := by decide +kernel
theorem dX4_digest_129 : decode cX4_digest 129 = .ok (.istore_n 3, 1) := by decide +kernel
theorem dX4_digest_130 : decode cX4_digest 130 = .ok (.iload_n 3, 1) := by decide +kernel
theorem dX4_digest_131 : decode cX4_digest 131 = .ok (.aload_n 0, 1) := by decide +kernel
theorem dX4_digest_132 : decode cX4_digest 132 = .ok (.getfield 10, 3) := by decide +kernel
theorem dX4_digest_135 : decode cX4_digest 135 = .ok (.getfield 157, 3) := by decide +kernel
theorem dX4_digest_138 : decode cX4_digest 138 = .ok (.iconst 3, 1) := by decide +kernel
theorem dX4_digest_139 : decode cX4_digest 139 = .ok (.imul, 1) := by decide +kernel
theorem dX4_digest_140 : decode cX4_digest 140 = .ok (.if_icmp .ge 26, 3) := by decide +kernel
theorem dX4_digest_143 : decode cX4_digest 143 = .ok (.ldc2_w 224, 3) := by decide +kernel
theorem dX4_digest_146 : decode cX4_digest 146 = .ok (.lload_n 1, 1) := by decide +kernel
theorem dX4_digest_147 : decode cX4_digest 147 = .ok (.lmul, 1) := by decide +kernel
theorem dX4_digest_148 : decode cX4_digest 148 = .ok (.aload_n 0, 1) := by decide +kernel
theorem dX4_digest_149 : decode cX4_digest 149 = .ok (.getfield 10, 3) := by decide +kernel
theorem dX4_digest_152 : decode cX4_digest 152 = .ok (.getfield 160, 3) := by decide +kernel
theorem dX4_digest_155 : decode cX4_digest 155 = .ok (.iload_n 3, 1) := by decide +kernel
theorem dX4_digest_156 : decode cX4_digest 156 = .ok (.iaload, 1) := by decide +kernel
theorem dX4_digest_157 : decode cX4_digest 157 = .ok (.i2l, 1) := by decide +kernel
theorem dX4_digest_158 : decode cX4_digest 158 = .ok (.ladd, 1) := by decide +kernel
theorem dX4_digest_159 : decode cX4_digest 159 = .ok (.lstore_n 1, 1) := by decide +kernel
theorem dX4_digest_160 : decode cX4_digest 160 = .ok (.iinc 3 1, 3) := by decide +kernel
theorem dX4_digest_163 : decode cX4_digest 163 = .ok (.goto (-33), 3) := by decide +kernel
theorem dX4_digest_166 : decode cX4_digest 166 = .ok (.iconst 0, 1) := by decide +kernel
theorem dX4_digest_167 : decode cX4_digest 167 = .ok (.istore_n 3, 1) := by decide +kernel
theorem dX4_digest_168 : decode cX4_digest 168 = .ok (.iload_n 3, 1) := by decide +kernel
theorem dX4_digest_169 : decode cX4_digest 169 = .ok (.bipush 9, 2) := by decide +kernel
theorem dX4_digest_171 : decode cX4_digest 171 = .ok (.if_icmp .ge 26, 3) := by decide +kernel
theorem dX4_digest_174 : decode cX4_digest 174 = .ok (.ldc2_w 224, 3) := by decide +kernel
theorem dX4_digest_177 : decode cX4_digest 177 = .ok (.lload_n 1, 1) := by decide +kernel
theorem dX4_digest_178 : decode cX4_digest 178 = .ok (.lmul, 1) := by decide +kernel
theorem dX4_digest_179 : decode cX4_digest 179 = .ok (.aload_n 0, 1) := by decide +kernel
theorem dX4_digest_180 : decode cX4_digest 180 = .ok (.getfield 10, 3) := by decide +kernel
theorem dX4_digest_183 : decode cX4_digest 183 = .ok (.getfield 226, 3) := by decide +kernel
theorem dX4_digest_186 : decode cX4_digest 186 = .ok (.iload_n 3, 1) := by decide +kernel
theorem dX4_digest_187 : decode cX4_digest 187 = .ok (.iaload, 1) := by decide +kernel
theorem dX4_digest_188 : decode cX4_digest 188 = .ok (.i2l, 1) := by decide +kernel
theorem dX4_digest_189 : decode cX4_digest 189 = .ok (.ladd, 1) := by decide +kernel
theorem dX4_digest_190 : decode cX4_digest 190 = .ok (.lstore_n 1, 1) := by decide +kernel
theorem dX4_digest_191 : decode cX4_digest 191 = .ok (.iinc 3 1, 3) := by decide +kernel
theorem dX4_digest_194 : decode cX4_digest 194 = .ok (.goto (-26), 3) := by decide +kernel
theorem dX4_digest_197 : decode cX4_digest 197 = .ok (.iconst 0, 1) := by decide +kernel
theorem dX4_digest_198 : decode cX4_digest 198 = .ok (.istore_n 3, 1) := by decide +kernel
theorem dX4_digest_199 : decode cX4_digest 199 = .ok (.iload_n 3, 1) := by decide +kernel
theorem dX4_digest_200 : decode cX4_digest 200 = .ok (.iconst 3, 1) := by decide +kernel
theorem dX4_digest_201 : decode cX4_digest 201 = .ok (.if_icmp .ge 25, 3) := by decide +kernel
theorem dX4_digest_204 : decode cX4_digest 204 = .ok (.ldc2_w 224, 3) := by decide +kernel
theorem dX4_digest_207 : decode cX4_digest 207 = .ok (.lload_n 1, 1) := by decide +kernel
theorem dX4_digest_208 : decode cX4_digest 208 = .ok (.lmul, 1) := by decide +kernel
theorem dX4_digest_209 : decode cX4_digest 209 = .ok (.aload_n 0, 1) := by decide +kernel
theorem dX4_digest_210 : decode cX4_digest 210 = .ok (.getfield 10, 3) := by decide +kernel
theorem dX4_digest_213 : decode cX4_digest 213 = .ok (.getfield 175, 3) := by decide +kernel
theorem dX4_digest_216 : decode cX4_digest 216 = .ok (.iload_n 3, 1) := by decide +kernel
theorem dX4_digest_217 : decode cX4_digest 217 = .ok (.laload, 1) := by decide +kernel
theorem dX4_digest_218 : decode cX4_digest 218 = .ok (.ladd, 1) := by decide +kernel
theorem dX4_digest_219 : decode cX4_digest 219 = .ok (.lstore_n 1, 1) := by decide +kernel
theorem dX4_digest_220 : decode cX4_digest 220 = .ok (.iinc 3 1, 3) := by decide +kernel
theorem dX4_digest_223 : decode cX4_digest 223 = .ok (.goto (-24), 3) := by decide +kernel
theorem dX4_digest_226 : decode cX4_digest 226 = .ok (.ldc2_w 224, 3) := by decide +kernel
theorem dX4_digest_229 : decode cX4_digest 229 = .ok (.lload_n 1, 1) := by decide +kernel
theorem dX4_digest_230 : decode cX4_digest 230 = .ok (.lmul, 1) := by decide +kernel
theorem dX4_digest_231 : decode cX4_digest 231 = .ok (.aload_n 0, 1) := by decide +kernel
theorem dX4_digest_232 : decode cX4_digest 232 = .ok (.getfield 10, 3) := by decide +kernel
theorem dX4_digest_235 : decode cX4_digest 235 = .ok (.getfield 166, 3) := by decide +kernel
theorem dX4_digest_238 : decode cX4_digest 238 = .ok (.i2l, 1) := by decide +kernel
theorem dX4_digest_239 : decode cX4_digest 239 = .ok (.ladd, 1) := by decide +kernel
theorem dX4_digest_240 : decode cX4_digest 240 = .ok (.lreturn, 1) := by decide +kernel
theorem dX4_isWithin_0 : decode cX4_isWithin 0 = .ok (.iload_n 0, 1) := by decide +kernel
theorem dX4_isWithin_1 : decode cX4_isWithin 1 = .ok (.iload_n 1, 1) := by decide +kernel
theorem dX4_isWithin_2 : decode cX4_isWithin 2 = .ok (.if_icmp .lt 12, 3) := by decide +kernel
theorem dX4_isWithin_5 : decode cX4_isWithin 5 = .ok (.iload_n 0, 1) := by decide +kernel
theorem dX4_isWithin_6 : decode cX4_isWithin 6 = .ok (.iload_n 2, 1) := by decide +kernel
theorem dX4_isWithin_7 : decode cX4_isWithin 7 = .ok (.if_icmp .gt 7, 3) := by decide +kernel
theorem dX4_isWithin_10 : decode cX4_isWithin 10 = .ok (.iconst 1, 1) := by decide +kernel
theorem dX4_isWithin_11 : decode cX4_isWithin 11 = .ok (.goto 4, 3) := by decide +kernel
theorem dX4_isWithin_14 : decode cX4_isWithin 14 = .ok (.iconst 0, 1) := by decide +kernel
theorem dX4_isWithin_15 : decode cX4_isWithin 15 = .ok (.ireturn, 1) := by decide +kernel
theorem dX4_isAtMost_0 : decode cX4_isAtMost 0 = .ok (.iload_n 0, 1) := by decide +kernel
theorem dX4_isAtMost_1 : decode cX4_isAtMost 1 = .ok (.iload_n 1, 1) := by decide +kernel
theorem dX4_isAtMost_2 : decode cX4_isAtMost 2 = .ok (.ineg, 1) := by decide +kernel
theorem dX4_isAtMost_3 : decode cX4_isAtMost 3 = .ok (.iload_n 1, 1) := by decide +kernel
theorem dX4_isAtMost_4 : decode cX4_isAtMost 4 = .ok (.invokestatic 46, 3) := by decide +kernel
theorem dX4_isAtMost_7 : decode cX4_isAtMost 7 = .ok (.ireturn, 1) := by decide +kernel
theorem dX4_areAtMost_0 : decode cX4_areAtMost 0 = .ok (.iload_n 0, 1) := by decide +kernel
theorem dX4_areAtMost_1 : decode cX4_areAtMost 1 = .ok (.iload_n 3, 1) := by decide +kernel
theorem dX4_areAtMost_2 : decode cX4_areAtMost 2 = .ok (.invokestatic 42, 3) := by decide +kernel
theorem dX4_areAtMost_5 : decode cX4_areAtMost 5 = .ok (.ifCond .eq 23, 3) := by decide +kernel
theorem dX4_areAtMost_8 : decode cX4_areAtMost 8 = .ok (.iload_n 1, 1) := by decide +kernel
theorem dX4_areAtMost_9 : decode cX4_areAtMost 9 = .ok (.iload_n 3, 1) := by decide +kernel
theorem dX4_areAtMost_10 : decode cX4_areAtMost 10 = .ok (.invokestatic 42, 3) := by decide +kernel
theorem dX4_areAtMost_13 : decode cX4_areAtMost 13 = .ok (.ifCond .eq 15, 3) := by decide +kernel
theorem dX4_areAtMost_16 : decode cX4_areAtMost 16 = .ok (.iload_n 2, 1) := by decide +kernel
theorem dX4_areAtMost_17 : decode cX4_areAtMost 17 = .ok (.iload_n 3, 1) := by decide +kernel
theorem dX4_areAtMost_18 : decode cX4_areAtMost 18 = .ok (.invokestatic 42, 3) := by decide +kernel
theorem dX4_areAtMost_21 : decode cX4_areAtMost 21 = .ok (.ifCond .eq 7, 3) := by decide +kernel
theorem dX4_areAtMost_24 : decode cX4_areAtMost 24 = .ok (.iconst 1, 1) := by decide +kernel
theorem dX4_areAtMost_25 : decode cX4_areAtMost 25 = .ok (.goto 4, 3) := by decide +kernel
theorem dX4_areAtMost_28 : decode cX4_areAtMost 28 = .ok (.iconst 0, 1) := by decide +kernel
theorem dX4_areAtMost_29 : decode cX4_areAtMost 29 = .ok (.ireturn, 1) := by decide +kernel
theorem dX4_isTarget_0 : decode cX4_isTarget 0 = .ok (.iload_n 0, 1) := by decide +kernel
theorem dX4_isTarget_1 : decode cX4_isTarget 1 = .ok (.iload_n 1, 1) := by decide +kernel
theorem dX4_isTarget_2 : decode cX4_isTarget 2 = .ok (.iload_n 2, 1) := by decide +kernel
theorem dX4_isTarget_3 : decode cX4_isTarget 3 = .ok (.ldc 229, 2) := by decide +kernel
theorem dX4_isTarget_5 : decode cX4_isTarget 5 = .ok (.invokestatic 182, 3) := by decide +kernel
theorem dX4_isTarget_8 : decode cX4_isTarget 8 = .ok (.ireturn, 1) := by decide +kernel
theorem dX4_isTank_0 : decode cX4_isTank 0 = .ok (.iload_n 0, 1) := by decide +kernel
theorem dX4_isTank_1 : decode cX4_isTank 1 = .ok (.iconst 0, 1) := by decide +kernel
theorem dX4_isTank_2 : decode cX4_isTank 2 = .ok (.iconst 1, 1) := by decide +kernel
theorem dX4_isTank_3 : decode cX4_isTank 3 = .ok (.invokestatic 46, 3) := by decide +kernel
theorem dX4_isTank_6 : decode cX4_isTank 6 = .ok (.ireturn, 1) := by decide +kernel
theorem dX4_isPart_0 : decode cX4_isPart 0 = .ok (.iload_n 0, 1) := by decide +kernel
theorem dX4_isPart_1 : decode cX4_isPart 1 = .ok (.iconst 0, 1) := by decide +kernel
theorem dX4_isPart_2 : decode cX4_isPart 2 = .ok (.iconst 2, 1) := by decide +kernel
theorem dX4_isPart_3 : decode cX4_isPart 3 = .ok (.invokestatic 46, 3) := by decide +kernel
theorem dX4_isPart_6 : decode cX4_isPart 6 = .ok (.ireturn, 1) := by decide +kernel
theorem dX4_isThruster_0 : decode cX4_isThruster 0 = .ok (.iload_n 1, 1) := by decide +kernel
theorem dX4_isThruster_1 : decode cX4_isThruster 1 = .ok (.iconst 0, 1) := by decide +kernel
theorem dX4_isThruster_2 : decode cX4_isThruster 2 = .ok (.aload_n 0, 1) := by decide +kernel
theorem dX4_isThruster_3 : decode cX4_isThruster 3 = .ok (.getfield 10, 3) := by decide +kernel
theorem dX4_isThruster_6 : decode cX4_isThruster 6 = .ok (.getfield 51, 3) := by decide +kernel
theorem dX4_isThruster_9 : decode cX4_isThruster 9 = .ok (.iconst 1, 1) := by decide +kernel
theorem dX4_isThruster_10 : decode cX4_isThruster 10 = .ok (.isub, 1) := by decide +kernel
theorem dX4_isThruster_11 : decode cX4_isThruster 11 = .ok (.invokestatic 46, 3) := by decide +kernel
theorem dX4_isThruster_14 : decode cX4_isThruster 14 = .ok (.ireturn, 1) := by decide +kernel
theorem dX4_isPlace_0 : decode cX4_isPlace 0 = .ok (.iload_n 1, 1) := by decide +kernel
theorem dX4_isPlace_1 : decode cX4_isPlace 1 = .ok (.iconst 0, 1) := by decide +kernel
theorem dX4_isPlace_2 : decode cX4_isPlace 2 = .ok (.aload_n 0, 1) := by decide +kernel
theorem dX4_isPlace_3 : decode cX4_isPlace 3 = .ok (.getfield 10, 3) := by decide +kernel
theorem dX4_isPlace_6 : decode cX4_isPlace 6 = .ok (.getfield 157, 3) := by decide +kernel
theorem dX4_isPlace_9 : decode cX4_isPlace 9 = .ok (.iconst 1, 1) := by decide +kernel
theorem dX4_isPlace_10 : decode cX4_isPlace 10 = .ok (.isub, 1) := by decide +kernel
theorem dX4_isPlace_11 : decode cX4_isPlace 11 = .ok (.invokestatic 46, 3) := by decide +kernel
theorem dX4_isPlace_14 : decode cX4_isPlace 14 = .ok (.ireturn, 1) := by decide +kernel
theorem dX4_putRequest_0 : decode cX4_putRequest 0 = .ok (.iload_n 1, 1) := by decide +kernel
theorem dX4_putRequest_1 : decode cX4_putRequest 1 = .ok (.iload_n 2, 1) := by decide +kernel
theorem dX4_putRequest_2 : decode cX4_putRequest 2 = .ok (.iload_n 3, 1) := by decide +kernel
theorem dX4_putRequest_3 : decode cX4_putRequest 3 = .ok (.sipush 2000, 3) := by decide +kernel
theorem dX4_putRequest_6 : decode cX4_putRequest 6 = .ok (.invokestatic 182, 3) := by decide +kernel
theorem dX4_putRequest_9 : decode cX4_putRequest 9 = .ok (.ifCond .ne 6, 3) := by decide +kernel
theorem dX4_putRequest_12 : decode cX4_putRequest 12 = .ok (.ldc 50, 2) := by decide +kernel
theorem dX4_putRequest_14 : decode cX4_putRequest 14 = .ok (.ireturn, 1) := by decide +kernel
theorem dX4_putRequest_15 : decode cX4_putRequest 15 = .ok (.aload_n 0, 1) := by decide +kernel
theorem dX4_putRequest_16 : decode cX4_putRequest 16 = .ok (.getfield 10, 3) := by decide +kernel
theorem dX4_putRequest_19 : decode cX4_putRequest 19 = .ok (.getfield 157, 3) := by decide +kernel
theorem dX4_putRequest_22 : decode cX4_putRequest 22 = .ok (.bipush 10, 2) := by decide +kernel
theorem dX4_putRequest_24 : decode cX4_putRequest 24 = .ok (.if_icmp .lt 6, 3) := by decide +kernel
theorem dX4_putRequest_27 : decode cX4_putRequest 27 = .ok (.ldc 55, 2) := by decide +kernel
theorem dX4_putRequest_29 : decode cX4_putRequest 29 = .ok (.ireturn, 1) := by decide +kernel
theorem dX4_putRequest_30 : decode cX4_putRequest 30 = .ok (.aload_n 0, 1) := by decide +kernel
theorem dX4_putRequest_31 : decode cX4_putRequest 31 = .ok (.getfield 19, 3) := by decide +kernel
theorem dX4_putRequest_34 : decode cX4_putRequest 34 = .ok (.aload_n 0, 1) := by decide +kernel
theorem dX4_putRequest_35 : decode cX4_putRequest 35 = .ok (.getfield 10, 3) := by decide +kernel
theorem dX4_putRequest_38 : decode cX4_putRequest 38 = .ok (.invokevirtual 56, 3) := by decide +kernel
theorem dX4_putRequest_41 : decode cX4_putRequest 41 = .ok (.aload_n 0, 1) := by decide +kernel
theorem dX4_putRequest_42 : decode cX4_putRequest 42 = .ok (.getfield 10, 3) := by decide +kernel
theorem dX4_putRequest_45 : decode cX4_putRequest 45 = .ok (.iload_n 1, 1) := by decide +kernel
theorem dX4_putRequest_46 : decode cX4_putRequest 46 = .ok (.iload_n 2, 1) := by decide +kernel
theorem dX4_putRequest_47 : decode cX4_putRequest 47 = .ok (.iload_n 3, 1) := by decide +kernel
theorem dX4_putRequest_48 : decode cX4_putRequest 48 = .ok (.iload 4, 2) := by decide +kernel
theorem dX4_putRequest_50 : decode cX4_putRequest 50 = .ok (.invokevirtual 218, 3) := by decide +kernel
theorem dX4_putRequest_53 : decode cX4_putRequest 53 = .ok (.aload_n 0, 1) := by decide +kernel
theorem dX4_putRequest_54 : decode cX4_putRequest 54 = .ok (.getfield 10, 3) := by decide +kernel
theorem dX4_putRequest_57 : decode cX4_putRequest 57 = .ok (.getfield 157, 3) := by decide +kernel
theorem dX4_putRequest_60 : decode cX4_putRequest 60 = .ok (.ireturn, 1) := by decide +kernel
theorem dX4_runCycle_0 : decode cX4_runCycle 0 = .ok (.aload_n 0, 1) := by decide +kernel
theorem dX4_runCycle_1 : decode cX4_runCycle 1 = .ok (.getfield 10, 3) := by decide +kernel
theorem dX4_runCycle_4 : decode cX4_runCycle 4 = .ok (.invokevirtual 118, 3) := by decide +kernel
theorem dX4_runCycle_7 : decode cX4_runCycle 7 = .ok (.istore_n 1, 1) := by decide +kernel
theorem dX4_runCycle_8 : decode cX4_runCycle 8 = .ok (.aload_n 0, 1) := by decide +kernel
theorem dX4_runCycle_9 : decode cX4_runCycle 9 = .ok (.getfield 10, 3) := by decide +kernel
theorem dX4_runCycle_12 : decode cX4_runCycle 12 = .ok (.iload_n 1, 1) := by decide +kernel
theorem dX4_runCycle_13 : decode cX4_runCycle 13 = .ok (.invokevirtual 230, 3) := by decide +kernel
theorem dX4_runCycle_16 : decode cX4_runCycle 16 = .ok (.aload_n 0, 1) := by decide +kernel
theorem dX4_runCycle_17 : decode cX4_runCycle 17 = .ok (.getfield 26, 3) := by decide +kernel
theorem dX4_runCycle_20 : decode cX4_runCycle 20 = .ok (.aload_n 0, 1) := by decide +kernel
theorem dX4_runCycle_21 : decode cX4_runCycle 21 = .ok (.getfield 10, 3) := by decide +kernel
theorem dX4_runCycle_24 : decode cX4_runCycle 24 = .ok (.aload_n 0, 1) := by decide +kernel
theorem dX4_runCycle_25 : decode cX4_runCycle 25 = .ok (.getfield 10, 3) := by decide +kernel
theorem dX4_runCycle_28 : decode cX4_runCycle 28 = .ok (.iconst 2, 1) := by decide +kernel
theorem dX4_runCycle_29 : decode cX4_runCycle 29 = .ok (.iconst 0, 1) := by decide +kernel
theorem dX4_runCycle_30 : decode cX4_runCycle 30 = .ok (.invokevirtual 172, 3) := by decide +kernel
theorem dX4_runCycle_33 : decode cX4_runCycle 33 = .ok (.aload_n 0, 1) := by decide +kernel
theorem dX4_runCycle_34 : decode cX4_runCycle 34 = .ok (.getfield 10, 3) := by decide +kernel
theorem dX4_runCycle_37 : decode cX4_runCycle 37 = .ok (.iconst 2, 1) := by decide +kernel
theorem dX4_runCycle_38 : decode cX4_runCycle 38 = .ok (.iconst 1, 1) := by decide +kernel
theorem dX4_runCycle_39 : decode cX4_runCycle 39 = .ok (.invokevirtual 172, 3) := by decide +kernel
theorem dX4_runCycle_42 : decode cX4_runCycle 42 = .ok (.aload_n 0, 1) := by decide +kernel
theorem dX4_runCycle_43 : decode cX4_runCycle 43 = .ok (.getfield 10, 3) := by decide +kernel
theorem dX4_runCycle_46 : decode cX4_runCycle 46 = .ok (.iconst 2, 1) := by decide +kernel
theorem dX4_runCycle_47 : decode cX4_runCycle 47 = .ok (.iconst 2, 1) := by decide +kernel
theorem dX4_runCycle_48 : decode cX4_runCycle 48 = .ok (.invokevirtual 172, 3) := by decide +kernel
theorem dX4_runCycle_51 : decode cX4_runCycle 51 = .ok (.invokevirtual 128, 3) := by decide +kernel
theorem dX4_runCycle_54 : decode cX4_runCycle 54 = .ok (.aload_n 0, 1) := by decide +kernel
theorem dX4_runCycle_55 : decode cX4_runCycle 55 = .ok (.getfield 10, 3) := by decide +kernel
theorem dX4_runCycle_58 : decode cX4_runCycle 58 = .ok (.aload_n 0, 1) := by decide +kernel
theorem dX4_runCycle_59 : decode cX4_runCycle 59 = .ok (.getfield 26, 3) := by decide +kernel
theorem dX4_runCycle_62 : decode cX4_runCycle 62 = .ok (.invokevirtual 233, 3) := by decide +kernel
theorem dX4_runCycle_65 : decode cX4_runCycle 65 = .ok (.istore_n 2, 1) := by decide +kernel
theorem dX4_runCycle_66 : decode cX4_runCycle 66 = .ok (.aload_n 0, 1) := by decide +kernel
theorem dX4_runCycle_67 : decode cX4_runCycle 67 = .ok (.getfield 10, 3) := by decide +kernel
theorem dX4_runCycle_70 : decode cX4_runCycle 70 = .ok (.iload_n 1, 1) := by decide +kernel
theorem dX4_runCycle_71 : decode cX4_runCycle 71 = .ok (.invokevirtual 237, 3) := by decide +kernel
theorem dX4_runCycle_74 : decode cX4_runCycle 74 = .ok (.aload_n 0, 1) := by decide +kernel
theorem dX4_runCycle_75 : decode cX4_runCycle 75 = .ok (.getfield 10, 3) := by decide +kernel
theorem dX4_runCycle_78 : decode cX4_runCycle 78 = .ok (.iload_n 1, 1) := by decide +kernel
theorem dX4_runCycle_79 : decode cX4_runCycle 79 = .ok (.invokevirtual 240, 3) := by decide +kernel
theorem dX4_runCycle_82 : decode cX4_runCycle 82 = .ok (.aload_n 0, 1) := by decide +kernel
theorem dX4_runCycle_83 : decode cX4_runCycle 83 = .ok (.getfield 10, 3) := by decide +kernel
theorem dX4_runCycle_86 : decode cX4_runCycle 86 = .ok (.dup, 1) := by decide +kernel
theorem dX4_runCycle_87 : decode cX4_runCycle 87 = .ok (.getfield 166, 3) := by decide +kernel
theorem dX4_runCycle_90 : decode cX4_runCycle 90 = .ok (.iconst 1, 1) := by decide +kernel
theorem dX4_runCycle_91 : decode cX4_runCycle 91 = .ok (.iadd, 1) := by decide +kernel
theorem dX4_runCycle_92 : decode cX4_runCycle 92 = .ok (.putfield 166, 3) := by decide +kernel
theorem dX4_runCycle_95 : decode cX4_runCycle 95 = .ok (.aload_n 0, 1) := by decide +kernel
theorem dX4_runCycle_96 : decode cX4_runCycle 96 = .ok (.getfield 26, 3) := by decide +kernel
theorem dX4_runCycle_99 : decode cX4_runCycle 99 = .ok (.getfield 132, 3) := by decide +kernel
theorem dX4_runCycle_102 : decode cX4_runCycle 102 = .ok (.ifCond .eq 7, 3) := by decide +kernel
theorem dX4_runCycle_105 : decode cX4_runCycle 105 = .ok (.iload_n 2, 1) := by decide +kernel
theorem dX4_runCycle_106 : decode cX4_runCycle 106 = .ok (.goto 5, 3) := by decide +kernel
theorem dX4_runCycle_109 : decode cX4_runCycle 109 = .ok (.ldc 139, 2) := by decide +kernel
theorem dX4_runCycle_111 : decode cX4_runCycle 111 = .ok (.ireturn, 1) := by decide +kernel
theorem dJ6_bitCount_0f7a4_0 : decode cJ6_bitCount_0f7a4 0 = .ok (.iload_n 0, 1) := by decide +kernel
theorem dJ6_bitCount_0f7a4_1 : decode cJ6_bitCount_0f7a4 1 = .ok (.iload_n 0, 1) := by decide +kernel
theorem dJ6_bitCount_0f7a4_2 : decode cJ6_bitCount_0f7a4 2 = .ok (.iconst 1, 1) := by decide +kernel
theorem dJ6_bitCount_0f7a4_3 : decode cJ6_bitCount_0f7a4 3 = .ok (.iushr, 1) := by decide +kernel
theorem dJ6_bitCount_0f7a4_4 : decode cJ6_bitCount_0f7a4 4 = .ok (.ldc_w 265, 3) := by decide +kernel
theorem dJ6_bitCount_0f7a4_7 : decode cJ6_bitCount_0f7a4 7 = .ok (.iand, 1) := by decide +kernel
theorem dJ6_bitCount_0f7a4_8 : decode cJ6_bitCount_0f7a4 8 = .ok (.isub, 1) := by decide +kernel
theorem dJ6_bitCount_0f7a4_9 : decode cJ6_bitCount_0f7a4 9 = .ok (.istore_n 0, 1) := by decide +kernel
theorem dJ6_bitCount_0f7a4_10 : decode cJ6_bitCount_0f7a4 10 = .ok (.iload_n 0, 1) := by decide +kernel
theorem dJ6_bitCount_0f7a4_11 : decode cJ6_bitCount_0f7a4 11 = .ok (.ldc_w 266, 3) := by decide +kernel
theorem dJ6_bitCount_0f7a4_14 : decode cJ6_bitCount_0f7a4 14 = .ok (.iand, 1) := by decide +kernel
theorem dJ6_bitCount_0f7a4_15 : decode cJ6_bitCount_0f7a4 15 = .ok (.iload_n 0, 1) := by decide +kernel
theorem dJ6_bitCount_0f7a4_16 : decode cJ6_bitCount_0f7a4 16 = .ok (.iconst 2, 1) := by decide +kernel
theorem dJ6_bitCount_0f7a4_17 : decode cJ6_bitCount_0f7a4 17 = .ok (.iushr, 1) := by decide +kernel
theorem dJ6_bitCount_0f7a4_18 : decode cJ6_bitCount_0f7a4 18 = .ok (.ldc_w 266, 3) := by decide +kernel
theorem dJ6_bitCount_0f7a4_21 : decode cJ6_bitCount_0f7a4 21 = .ok (.iand, 1) := by decide +kernel
theorem dJ6_bitCount_0f7a4_22 : decode cJ6_bitCount_0f7a4 22 = .ok (.iadd, 1) := by decide +kernel
theorem dJ6_bitCount_0f7a4_23 : decode cJ6_bitCount_0f7a4 23 = .ok (.istore_n 0, 1) := by decide +kernel
theorem dJ6_bitCount_0f7a4_24 : decode cJ6_bitCount_0f7a4 24 = .ok (.iload_n 0, 1) := by decide +kernel
theorem dJ6_bitCount_0f7a4_25 : decode cJ6_bitCount_0f7a4 25 = .ok (.iload_n 0, 1) := by decide +kernel
theorem dJ6_bitCount_0f7a4_26 : decode cJ6_bitCount_0f7a4 26 = .ok (.iconst 4, 1) := by decide +kernel
theorem dJ6_bitCount_0f7a4_27 : decode cJ6_bitCount_0f7a4 27 = .ok (.iushr, 1) := by decide +kernel
theorem dJ6_bitCount_0f7a4_28 : decode cJ6_bitCount_0f7a4 28 = .ok (.iadd, 1) := by decide +kernel
theorem dJ6_bitCount_0f7a4_29 : decode cJ6_bitCount_0f7a4 29 = .ok (.ldc_w 267, 3) := by decide +kernel
theorem dJ6_bitCount_0f7a4_32 : decode cJ6_bitCount_0f7a4 32 = .ok (.iand, 1) := by decide +kernel
theorem dJ6_bitCount_0f7a4_33 : decode cJ6_bitCount_0f7a4 33 = .ok (.istore_n 0, 1) := by decide +kernel
theorem dJ6_bitCount_0f7a4_34 : decode cJ6_bitCount_0f7a4 34 = .ok (.iload_n 0, 1) := by decide +kernel
theorem dJ6_bitCount_0f7a4_35 : decode cJ6_bitCount_0f7a4 35 = .ok (.iload_n 0, 1) := by decide +kernel
theorem dJ6_bitCount_0f7a4_36 : decode cJ6_bitCount_0f7a4 36 = .ok (.bipush 8, 2) := by decide +kernel
theorem dJ6_bitCount_0f7a4_38 : decode cJ6_bitCount_0f7a4 38 = .ok (.iushr, 1) := by decide +kernel
theorem dJ6_bitCount_0f7a4_39 : decode cJ6_bitCount_0f7a4 39 = .ok (.iadd, 1) := by decide +kernel
theorem dJ6_bitCount_0f7a4_40 : decode cJ6_bitCount_0f7a4 40 = .ok (.istore_n 0, 1) := by decide +kernel
theorem dJ6_bitCount_0f7a4_41 : decode cJ6_bitCount_0f7a4 41 = .ok (.iload_n 0, 1) := by decide +kernel
theorem dJ6_bitCount_0f7a4_42 : decode cJ6_bitCount_0f7a4 42 = .ok (.iload_n 0, 1) := by decide +kernel
theorem dJ6_bitCount_0f7a4_43 : decode cJ6_bitCount_0f7a4 43 = .ok (.bipush 16, 2) := by decide +kernel
theorem dJ6_bitCount_0f7a4_45 : decode cJ6_bitCount_0f7a4 45 = .ok (.iushr, 1) := by decide +kernel
theorem dJ6_bitCount_0f7a4_46 : decode cJ6_bitCount_0f7a4 46 = .ok (.iadd, 1) := by decide +kernel
theorem dJ6_bitCount_0f7a4_47 : decode cJ6_bitCount_0f7a4 47 = .ok (.istore_n 0, 1) := by decide +kernel
theorem dJ6_bitCount_0f7a4_48 : decode cJ6_bitCount_0f7a4 48 = .ok (.iload_n 0, 1) := by decide +kernel
theorem dJ6_bitCount_0f7a4_49 : decode cJ6_bitCount_0f7a4 49 = .ok (.bipush 63, 2) := by decide +kernel
theorem dJ6_bitCount_0f7a4_51 : decode cJ6_bitCount_0f7a4 51 = .ok (.iand, 1) := by decide +kernel
theorem dJ6_bitCount_0f7a4_52 : decode cJ6_bitCount_0f7a4 52 = .ok (.ireturn, 1) := by decide +kernel
theorem dJ9_max_7cf53_0 : decode cJ9_max_7cf53 0 = .ok (.iload_n 0, 1) := by decide +kernel
theorem dJ9_max_7cf53_1 : decode cJ9_max_7cf53 1 = .ok (.iload_n 1, 1) := by decide +kernel
theorem dJ9_max_7cf53_2 : decode cJ9_max_7cf53 2 = .ok (.if_icmp .lt 7, 3) := by decide +kernel
theorem dJ9_max_7cf53_5 : decode cJ9_max_7cf53 5 = .ok (.iload_n 0, 1) := by decide +kernel
theorem dJ9_max_7cf53_6 : decode cJ9_max_7cf53 6 = .ok (.goto 4, 3) := by decide +kernel
theorem dJ9_max_7cf53_9 : decode cJ9_max_7cf53 9 = .ok (.iload_n 1, 1) := by decide +kernel
theorem dJ9_max_7cf53_10 : decode cJ9_max_7cf53 10 = .ok (.ireturn, 1) := by decide +kernel
theorem dJ9_min_7cf53_0 : decode cJ9_min_7cf53 0 = .ok (.iload_n 0, 1) := by decide +kernel
theorem dJ9_min_7cf53_1 : decode cJ9_min_7cf53 1 = .ok (.iload_n 1, 1) := by decide +kernel
theorem dJ9_min_7cf53_2 : decode cJ9_min_7cf53 2 = .ok (.if_icmp .gt 7, 3) := by decide +kernel
theorem dJ9_min_7cf53_5 : decode cJ9_min_7cf53 5 = .ok (.iload_n 0, 1) := by decide +kernel
theorem dJ9_min_7cf53_6 : decode cJ9_min_7cf53 6 = .ok (.goto 4, 3) := by decide +kernel
theorem dJ9_min_7cf53_9 : decode cJ9_min_7cf53 9 = .ok (.iload_n 1, 1) := by decide +kernel
theorem dJ9_min_7cf53_10 : decode cJ9_min_7cf53 10 = .ok (.ireturn, 1) := by decide +kernel
theorem dJ7_fill_d0a16_0 : decode cJ7_fill_d0a16 0 = .ok (.iconst 0, 1) := by decide +kernel
theorem dJ7_fill_d0a16_1 : decode cJ7_fill_d0a16 1 = .ok (.istore_n 3, 1) := by decide +kernel
theorem dJ7_fill_d0a16_2 : decode cJ7_fill_d0a16 2 = .ok (.aload_n 0, 1) := by decide +kernel
theorem dJ7_fill_d0a16_3 : decode cJ7_fill_d0a16 3 = .ok (.arraylength, 1) := by decide +kernel
theorem dJ7_fill_d0a16_4 : decode cJ7_fill_d0a16 4 = .ok (.istore 4, 2) := by decide +kernel
theorem dJ7_fill_d0a16_6 : decode cJ7_fill_d0a16 6 = .ok (.iload_n 3, 1) := by decide +kernel
theorem dJ7_fill_d0a16_7 : decode cJ7_fill_d0a16 7 = .ok (.iload 4, 2) := by decide +kernel
theorem dJ7_fill_d0a16_9 : decode cJ7_fill_d0a16 9 = .ok (.if_icmp .ge 13, 3) := by decide +kernel
theorem dJ7_fill_d0a16_12 : decode cJ7_fill_d0a16 12 = .ok (.aload_n 0, 1) := by decide +kernel
theorem dJ7_fill_d0a16_13 : decode cJ7_fill_d0a16 13 = .ok (.iload_n 3, 1) := by decide +kernel
theorem dJ7_fill_d0a16_14 : decode cJ7_fill_d0a16 14 = .ok (.lload_n 1, 1) := by decide +kernel
theorem dJ7_fill_d0a16_15 : decode cJ7_fill_d0a16 15 = .ok (.lastore, 1) := by decide +kernel
theorem dJ7_fill_d0a16_16 : decode cJ7_fill_d0a16 16 = .ok (.iinc 3 1, 3) := by decide +kernel
theorem dJ7_fill_d0a16_19 : decode cJ7_fill_d0a16 19 = .ok (.goto (-13), 3) := by decide +kernel
theorem dJ7_fill_d0a16_22 : decode cJ7_fill_d0a16 22 = .ok (.return_, 1) := by decide +kernel
theorem dJ7_fill_53178_0 : decode cJ7_fill_53178 0 = .ok (.iconst 0, 1) := by decide +kernel
theorem dJ7_fill_53178_1 : decode cJ7_fill_53178 1 = .ok (.istore_n 2, 1) := by decide +kernel
theorem dJ7_fill_53178_2 : decode cJ7_fill_53178 2 = .ok (.aload_n 0, 1) := by decide +kernel
theorem dJ7_fill_53178_3 : decode cJ7_fill_53178 3 = .ok (.arraylength, 1) := by decide +kernel
theorem dJ7_fill_53178_4 : decode cJ7_fill_53178 4 = .ok (.istore_n 3, 1) := by decide +kernel
theorem dJ7_fill_53178_5 : decode cJ7_fill_53178 5 = .ok (.iload_n 2, 1) := by decide +kernel
theorem dJ7_fill_53178_6 : decode cJ7_fill_53178 6 = .ok (.iload_n 3, 1) := by decide +kernel
theorem dJ7_fill_53178_7 : decode cJ7_fill_53178 7 = .ok (.if_icmp .ge 13, 3) := by decide +kernel
theorem dJ7_fill_53178_10 : decode cJ7_fill_53178 10 = .ok (.aload_n 0, 1) := by decide +kernel
theorem dJ7_fill_53178_11 : decode cJ7_fill_53178 11 = .ok (.iload_n 2, 1) := by decide +kernel
theorem dJ7_fill_53178_12 : decode cJ7_fill_53178 12 = .ok (.iload_n 1, 1) := by decide +kernel
theorem dJ7_fill_53178_13 : decode cJ7_fill_53178 13 = .ok (.iastore, 1) := by decide +kernel
theorem dJ7_fill_53178_14 : decode cJ7_fill_53178 14 = .ok (.iinc 2 1, 3) := by decide +kernel
theorem dJ7_fill_53178_17 : decode cJ7_fill_53178 17 = .ok (.goto (-12), 3) := by decide +kernel
theorem dJ7_fill_53178_20 : decode cJ7_fill_53178 20 = .ok (.return_, 1) := by decide +kernel
theorem dL_cell_0 : decode cL_cell 0 = .ok (.iload_n 1, 1) := by decide +kernel
theorem dL_cell_1 : decode cL_cell 1 = .ok (.aload_n 0, 1) := by decide +kernel
theorem dL_cell_2 : decode cL_cell 2 = .ok (.arraylength, 1) := by decide +kernel
theorem dL_cell_3 : decode cL_cell 3 = .ok (.if_icmp .ge 9, 3) := by decide +kernel
theorem dL_cell_6 : decode cL_cell 6 = .ok (.aload_n 0, 1) := by decide +kernel
theorem dL_cell_7 : decode cL_cell 7 = .ok (.iload_n 1, 1) := by decide +kernel
theorem dL_cell_8 : decode cL_cell 8 = .ok (.iaload, 1) := by decide +kernel
theorem dL_cell_9 : decode cL_cell 9 = .ok (.goto 15, 3) := by decide +kernel
theorem dL_cell_12 : decode cL_cell 12 = .ok (.sipush 7919, 3) := by decide +kernel
theorem dL_cell_15 : decode cL_cell 15 = .ok (.iload_n 1, 1) := by decide +kernel
theorem dL_cell_16 : decode cL_cell 16 = .ok (.iconst 3, 1) := by decide +kernel
theorem dL_cell_17 : decode cL_cell 17 = .ok (.iadd, 1) := by decide +kernel
theorem dL_cell_18 : decode cL_cell 18 = .ok (.imul, 1) := by decide +kernel
theorem dL_cell_19 : decode cL_cell 19 = .ok (.iload_n 1, 1) := by decide +kernel
theorem dL_cell_20 : decode cL_cell 20 = .ok (.bipush 11, 2) := by decide +kernel
theorem dL_cell_22 : decode cL_cell 22 = .ok (.iadd, 1) := by decide +kernel
theorem dL_cell_23 : decode cL_cell 23 = .ok (.imul, 1) := by decide +kernel
theorem dL_cell_24 : decode cL_cell 24 = .ok (.ireturn, 1) := by decide +kernel
theorem dL_low_0 : decode cL_low 0 = .ok (.iload_n 0, 1) := by decide +kernel
theorem dL_low_1 : decode cL_low 1 = .ok (.ldc 7, 2) := by decide +kernel
theorem dL_low_3 : decode cL_low 3 = .ok (.iand, 1) := by decide +kernel
theorem dL_low_4 : decode cL_low 4 = .ok (.iload_n 1, 1) := by decide +kernel
theorem dL_low_5 : decode cL_low 5 = .ok (.irem, 1) := by decide +kernel
theorem dL_low_6 : decode cL_low 6 = .ok (.ireturn, 1) := by decide +kernel
theorem dL_bits_0 : decode cL_bits 0 = .ok (.iconst 0, 1) := by decide +kernel
theorem dL_bits_1 : decode cL_bits 1 = .ok (.istore_n 1, 1) := by decide +kernel
theorem dL_bits_2 : decode cL_bits 2 = .ok (.iconst 0, 1) := by decide +kernel
theorem dL_bits_3 : decode cL_bits 3 = .ok (.istore_n 2, 1) := by decide +kernel
theorem dL_bits_4 : decode cL_bits 4 = .ok (.iload_n 2, 1) := by decide +kernel
theorem dL_bits_5 : decode cL_bits 5 = .ok (.bipush 8, 2) := by decide +kernel
theorem dL_bits_7 : decode cL_bits 7 = .ok (.if_icmp .ge 17, 3) := by decide +kernel
theorem dL_bits_10 : decode cL_bits 10 = .ok (.iload_n 1, 1) := by decide +kernel
theorem dL_bits_11 : decode cL_bits 11 = .ok (.iload_n 0, 1) := by decide +kernel
theorem dL_bits_12 : decode cL_bits 12 = .ok (.iload_n 2, 1) := by decide +kernel
theorem dL_bits_13 : decode cL_bits 13 = .ok (.ishr, 1) := by decide +kernel
theorem dL_bits_14 : decode cL_bits 14 = .ok (.iconst 1, 1) := by decide +kernel
theorem dL_bits_15 : decode cL_bits 15 = .ok (.iand, 1) := by decide +kernel
theorem dL_bits_16 : decode cL_bits 16 = .ok (.iadd, 1) := by decide +kernel
theorem dL_bits_17 : decode cL_bits 17 = .ok (.istore_n 1, 1) := by decide +kernel
theorem dL_bits_18 : decode cL_bits 18 = .ok (.iinc 2 1, 3) := by decide +kernel
theorem dL_bits_21 : decode cL_bits 21 = .ok (.goto (-17), 3) := by decide +kernel
theorem dL_bits_24 : decode cL_bits 24 = .ok (.iload_n 1, 1) := by decide +kernel
theorem dL_bits_25 : decode cL_bits 25 = .ok (.ireturn, 1) := by decide +kernel
theorem dL_isSelectionSound_0 : decode cL_isSelectionSound 0 = .ok (.aload_n 0, 1) := by decide +kernel
theorem dL_isSelectionSound_1 : decode cL_isSelectionSound 1 = .ok (.iload_n 1, 1) := by decide +kernel
theorem dL_isSelectionSound_2 : decode cL_isSelectionSound 2 = .ok (.iload_n 2, 1) := by decide +kernel
theorem dL_isSelectionSound_3 : decode cL_isSelectionSound 3 = .ok (.iload_n 3, 1) := by decide +kernel
theorem dL_isSelectionSound_4 : decode cL_isSelectionSound 4 = .ok (.invokevirtual 8, 3) := by decide +kernel
theorem dL_isSelectionSound_7 : decode cL_isSelectionSound 7 = .ok (.istore 4, 2) := by decide +kernel
theorem dL_isSelectionSound_9 : decode cL_isSelectionSound 9 = .ok (.aload_n 0, 1) := by decide +kernel
theorem dL_isSelectionSound_10 : decode cL_isSelectionSound 10 = .ok (.iload_n 1, 1) := by decide +kernel
theorem dL_isSelectionSound_11 : decode cL_isSelectionSound 11 = .ok (.iload_n 2, 1) := by decide +kernel
theorem dL_isSelectionSound_12 : decode cL_isSelectionSound 12 = .ok (.iload_n 3, 1) := by decide +kernel
theorem dL_isSelectionSound_13 : decode cL_isSelectionSound 13 = .ok (.invokevirtual 14, 3) := by decide +kernel
theorem dL_isSelectionSound_16 : decode cL_isSelectionSound 16 = .ok (.istore 5, 2) := by decide +kernel
theorem dL_isSelectionSound_18 : decode cL_isSelectionSound 18 = .ok (.iload 4, 2) := by decide +kernel
theorem dL_isSelectionSound_20 : decode cL_isSelectionSound 20 = .ok (.ldc 19, 2) := by decide +kernel
theorem dL_isSelectionSound_22 : decode cL_isSelectionSound 22 = .ok (.if_icmp .ne 48, 3) := by decide +kernel
theorem dL_isSelectionSound_25 : decode cL_isSelectionSound 25 = .ok (.iload 5, 2) := by decide +kernel
theorem dL_isSelectionSound_27 : decode cL_isSelectionSound 27 = .ok (.ldc 19, 2) := by decide +kernel
theorem dL_isSelectionSound_29 : decode cL_isSelectionSound 29 = .ok (.if_icmp .ne 39, 3) := by decide +kernel
theorem dL_isSelectionSound_32 : decode cL_isSelectionSound 32 = .ok (.aload_n 0, 1) := by decide +kernel
theorem dL_isSelectionSound_33 : decode cL_isSelectionSound 33 = .ok (.invokevirtual 20, 3) := by decide +kernel
theorem dL_isSelectionSound_36 : decode cL_isSelectionSound 36 = .ok (.ifCond .eq 16, 3) := by decide +kernel
theorem dL_isSelectionSound_39 : decode cL_isSelectionSound 39 = .ok (.aload_n 0, 1) := by decide +kernel
theorem dL_isSelectionSound_40 : decode cL_isSelectionSound 40 = .ok (.iload_n 1, 1) := by decide +kernel
theorem dL_isSelectionSound_41 : decode cL_isSelectionSound 41 = .ok (.iload_n 2, 1) := by decide +kernel
theorem dL_isSelectionSound_42 : decode cL_isSelectionSound 42 = .ok (.iload_n 3, 1) := by decide +kernel
theorem dL_isSelectionSound_43 : decode cL_isSelectionSound 43 = .ok (.iconst 0, 1) := by decide +kernel
theorem dL_isSelectionSound_44 : decode cL_isSelectionSound 44 = .ok (.invokevirtual 24, 3) := by decide +kernel
theorem dL_isSelectionSound_47 : decode cL_isSelectionSound 47 = .ok (.ldc 19, 2) := by decide +kernel
theorem dL_isSelectionSound_49 : decode cL_isSelectionSound 49 = .ok (.if_icmp .ne 19, 3) := by decide +kernel
theorem dL_isSelectionSound_52 : decode cL_isSelectionSound 52 = .ok (.iload_n 1, 1) := by decide +kernel
theorem dL_isSelectionSound_53 : decode cL_isSelectionSound 53 = .ok (.ifCond .ne 11, 3) := by decide +kernel
theorem dL_isSelectionSound_56 : decode cL_isSelectionSound 56 = .ok (.iload_n 2, 1) := by decide +kernel
theorem dL_isSelectionSound_57 : decode cL_isSelectionSound 57 = .ok (.ifCond .ne 7, 3) := by decide +kernel
theorem dL_isSelectionSound_60 : decode cL_isSelectionSound 60 = .ok (.iload_n 3, 1) := by decide +kernel
theorem dL_isSelectionSound_61 : decode cL_isSelectionSound 61 = .ok (.ifCond .eq 7, 3) := by decide +kernel
theorem dL_isSelectionSound_64 : decode cL_isSelectionSound 64 = .ok (.iconst 1, 1) := by decide +kernel
theorem dL_isSelectionSound_65 : decode cL_isSelectionSound 65 = .ok (.goto 4, 3) := by decide +kernel
theorem dL_isSelectionSound_68 : decode cL_isSelectionSound 68 = .ok (.iconst 0, 1) := by decide +kernel
theorem dL_isSelectionSound_69 : decode cL_isSelectionSound 69 = .ok (.ireturn, 1) := by decide +kernel
theorem dL_isSelectionSound_70 : decode cL_isSelectionSound 70 = .ok (.iload 4, 2) := by decide +kernel
theorem dL_isSelectionSound_72 : decode cL_isSelectionSound 72 = .ok (.invokestatic 28, 3) := by decide +kernel
theorem dL_isSelectionSound_75 : decode cL_isSelectionSound 75 = .ok (.iconst 3, 1) := by decide +kernel
theorem dL_isSelectionSound_76 : decode cL_isSelectionSound 76 = .ok (.if_icmp .gt 55, 3) := by decide +kernel
theorem dL_isSelectionSound_79 : decode cL_isSelectionSound 79 = .ok (.iload 4, 2) := by decide +kernel
theorem dL_isSelectionSound_81 : decode cL_isSelectionSound 81 = .ok (.aload_n 0, 1) := by decide +kernel
theorem dL_isSelectionSound_82 : decode cL_isSelectionSound 82 = .ok (.invokevirtual 20, 3) := by decide +kernel
theorem dL_isSelectionSound_85 : decode cL_isSelectionSound 85 = .ok (.ishr, 1) := by decide +kernel
theorem dL_isSelectionSound_86 : decode cL_isSelectionSound 86 = .ok (.ifCond .ne 45, 3) := by decide +kernel
theorem dL_isSelectionSound_89 : decode cL_isSelectionSound 89 = .ok (.iload 5, 2) := by decide +kernel
theorem dL_isSelectionSound_91 : decode cL_isSelectionSound 91 = .ok (.ifCond .lt 40, 3) := by decide +kernel
theorem dL_isSelectionSound_94 : decode cL_isSelectionSound 94 = .ok (.iload 5, 2) := by decide +kernel
theorem dL_isSelectionSound_96 : decode cL_isSelectionSound 96 = .ok (.ldc 32, 2) := by decide +kernel
theorem dL_isSelectionSound_98 : decode cL_isSelectionSound 98 = .ok (.if_icmp .gt 33, 3) := by decide +kernel
theorem dL_isSelectionSound_101 : decode cL_isSelectionSound 101 = .ok (.iload 4, 2) := by decide +kernel
theorem dL_isSelectionSound_103 : decode cL_isSelectionSound 103 = .ok (.ifCond .ne 7, 3) := by decide +kernel
theorem dL_isSelectionSound_106 : decode cL_isSelectionSound 106 = .ok (.iconst 1, 1) := by decide +kernel
theorem dL_isSelectionSound_107 : decode cL_isSelectionSound 107 = .ok (.goto 4, 3) := by decide +kernel
theorem dL_isSelectionSound_110 : decode cL_isSelectionSound 110 = .ok (.iconst 0, 1) := by decide +kernel
theorem dL_isSelectionSound_111 : decode cL_isSelectionSound 111 = .ok (.iload_n 1, 1) := by decide +kernel
theorem dL_isSelectionSound_112 : decode cL_isSelectionSound 112 = .ok (.ifCond .ne 15, 3) := by decide +kernel
theorem dL_isSelectionSound_115 : decode cL_isSelectionSound 115 = .ok (.iload_n 2, 1) := by decide +kernel
theorem dL_isSelectionSound_116 : decode cL_isSelectionSound 116 = .ok (.ifCond .ne 11, 3) := by decide +kernel
theorem dL_isSelectionSound_119 : decode cL_isSelectionSound 119 = .ok (.iload_n 3, 1) := by decide +kernel
theorem dL_isSelectionSound_120 : decode cL_isSelectionSound 120 = .ok (.ifCond .ne 7, 3) := by decide +kernel
theorem dL_isSelectionSound_123 : decode cL_isSelectionSound 123 = .ok (.iconst 1, 1) := by decide +kernel
theorem dL_isSelectionSound_124 : decode cL_isSelectionSound 124 = .ok (.goto 4, 3) := by decide +kernel
theorem dL_isSelectionSound_127 : decode cL_isSelectionSound 127 = .ok (.iconst 0, 1) := by decide +kernel
theorem dL_isSelectionSound_128 : decode cL_isSelectionSound 128 = .ok (.if_icmp .eq 5, 3) := by decide +kernel
theorem dL_isSelectionSound_131 : decode cL_isSelectionSound 131 = .ok (.iconst 0, 1) := by decide +kernel
theorem dL_isSelectionSound_132 : decode cL_isSelectionSound 132 = .ok (.ireturn, 1) := by decide +kernel
theorem dL_isSelectionSound_133 : decode cL_isSelectionSound 133 = .ok (.iload 4, 2) := by decide +kernel
theorem dL_isSelectionSound_135 : decode cL_isSelectionSound 135 = .ok (.ifCond .eq 12, 3) := by decide +kernel
theorem dL_isSelectionSound_138 : decode cL_isSelectionSound 138 = .ok (.aload_n 0, 1) := by decide +kernel
theorem dL_isSelectionSound_139 : decode cL_isSelectionSound 139 = .ok (.iload 4, 2) := by decide +kernel
theorem dL_isSelectionSound_141 : decode cL_isSelectionSound 141 = .ok (.invokevirtual 33, 3) := by decide +kernel
theorem dL_isSelectionSound_144 : decode cL_isSelectionSound 144 = .ok (.ifCond .ne 13, 3) := by decide +kernel
theorem dL_isSelectionSound_147 : decode cL_isSelectionSound 147 = .ok (.iload 4, 2) := by decide +kernel
theorem dL_isSelectionSound_149 : decode cL_isSelectionSound 149 = .ok (.ifCond .ne 10, 3) := by decide +kernel
theorem dL_isSelectionSound_152 : decode cL_isSelectionSound 152 = .ok (.iload 5, 2) := by decide +kernel
theorem dL_isSelectionSound_154 : decode cL_isSelectionSound 154 = .ok (.ifCond .eq 5, 3) := by decide +kernel
theorem dL_isSelectionSound_157 : decode cL_isSelectionSound 157 = .ok (.iconst 0, 1) := by decide +kernel
theorem dL_isSelectionSound_158 : decode cL_isSelectionSound 158 = .ok (.ireturn, 1) := by decide +kernel
theorem dL_isSelectionSound_159 : decode cL_isSelectionSound 159 = .ok (.iconst 0, 1) := by decide +kernel
theorem dL_isSelectionSound_160 : decode cL_isSelectionSound 160 = .ok (.istore 6, 2) := by decide +kernel
theorem dL_isSelectionSound_162 : decode cL_isSelectionSound 162 = .ok (.iload 6, 2) := by decide +kernel
theorem dL_isSelectionSound_164 : decode cL_isSelectionSound 164 = .ok (.aload_n 0, 1) := by decide +kernel
theorem dL_isSelectionSound_165 : decode cL_isSelectionSound 165 = .ok (.invokevirtual 20, 3) := by decide +kernel
theorem dL_isSelectionSound_168 : decode cL_isSelectionSound 168 = .ok (.if_icmp .ge 91, 3) := by decide +kernel
theorem dL_isSelectionSound_171 : decode cL_isSelectionSound 171 = .ok (.aload_n 0, 1) := by decide +kernel
theorem dL_isSelectionSound_172 : decode cL_isSelectionSound 172 = .ok (.iload_n 1, 1) := by decide +kernel
theorem dL_isSelectionSound_173 : decode cL_isSelectionSound 173 = .ok (.iload_n 2, 1) := by decide +kernel
theorem dL_isSelectionSound_174 : decode cL_isSelectionSound 174 = .ok (.iload_n 3, 1) := by decide +kernel
theorem dL_isSelectionSound_175 : decode cL_isSelectionSound 175 = .ok (.iload 6, 2) := by decide +kernel
theorem dL_isSelectionSound_177 : decode cL_isSelectionSound 177 = .ok (.invokevirtual 24, 3) := by decide +kernel
theorem dL_isSelectionSound_180 : decode cL_isSelectionSound 180 = .ok (.istore 7, 2) := by decide +kernel
theorem dL_isSelectionSound_182 : decode cL_isSelectionSound 182 = .ok (.iload 4, 2) := by decide +kernel
theorem dL_isSelectionSound_184 : decode cL_isSelectionSound 184 = .ok (.iload 6, 2) := by decide +kernel
theorem dL_isSelectionSound_186 : decode cL_isSelectionSound 186 = .ok (.ishr, 1) := by decide +kernel
theorem dL_isSelectionSound_187 : decode cL_isSelectionSound 187 = .ok (.iconst 1, 1) := by decide +kernel
theorem dL_isSelectionSound_188 : decode cL_isSelectionSound 188 = .ok (.iand, 1) := by decide +kernel
theorem dL_isSelectionSound_189 : decode cL_isSelectionSound 189 = .ok (.iconst 1, 1) := by decide +kernel
theorem dL_isSelectionSound_190 : decode cL_isSelectionSound 190 = .ok (.if_icmp .ne 7, 3) := by decide +kernel
theorem dL_isSelectionSound_193 : decode cL_isSelectionSound 193 = .ok (.iconst 1, 1) := by decide +kernel
theorem dL_isSelectionSound_194 : decode cL_isSelectionSound 194 = .ok (.goto 4, 3) := by decide +kernel
theorem dL_isSelectionSound_197 : decode cL_isSelectionSound 197 = .ok (.iconst 0, 1) := by decide +kernel
theorem dL_isSelectionSound_198 : decode cL_isSelectionSound 198 = .ok (.istore 8, 2) := by decide +kernel
theorem dL_isSelectionSound_200 : decode cL_isSelectionSound 200 = .ok (.iload 8, 2) := by decide +kernel
theorem dL_isSelectionSound_202 : decode cL_isSelectionSound 202 = .ok (.ifCond .eq 15, 3) := by decide +kernel
theorem dL_isSelectionSound_205 : decode cL_isSelectionSound 205 = .ok (.aload_n 0, 1) := by decide +kernel
theorem dL_isSelectionSound_206 : decode cL_isSelectionSound 206 = .ok (.iload 6, 2) := by decide +kernel
theorem dL_isSelectionSound_208 : decode cL_isSelectionSound 208 = .ok (.bipush 7, 2) := by decide +kernel
theorem dL_isSelectionSound_210 : decode cL_isSelectionSound 210 = .ok (.invokevirtual 36, 3) := by decide +kernel
theorem dL_isSelectionSound_213 : decode cL_isSelectionSound 213 = .ok (.iconst 1, 1) := by decide +kernel
theorem dL_isSelectionSound_214 : decode cL_isSelectionSound 214 = .ok (.if_icmp .ne 37, 3) := by decide +kernel
theorem dL_isSelectionSound_217 : decode cL_isSelectionSound 217 = .ok (.iload 8, 2) := by decide +kernel
theorem dL_isSelectionSound_219 : decode cL_isSelectionSound 219 = .ok (.ifCond .ne 8, 3) := by decide +kernel
theorem dL_isSelectionSound_222 : decode cL_isSelectionSound 222 = .ok (.iload 7, 2) := by decide +kernel
theorem dL_isSelectionSound_224 : decode cL_isSelectionSound 224 = .ok (.ifCond .ne 27, 3) := by decide +kernel
theorem dL_isSelectionSound_227 : decode cL_isSelectionSound 227 = .ok (.iload 7, 2) := by decide +kernel
theorem dL_isSelectionSound_229 : decode cL_isSelectionSound 229 = .ok (.ifCond .eq 24, 3) := by decide +kernel
theorem dL_isSelectionSound_232 : decode cL_isSelectionSound 232 = .ok (.iload 7, 2) := by decide +kernel
theorem dL_isSelectionSound_234 : decode cL_isSelectionSound 234 = .ok (.aload_n 0, 1) := by decide +kernel
theorem dL_isSelectionSound_235 : decode cL_isSelectionSound 235 = .ok (.iload 6, 2) := by decide +kernel
theorem dL_isSelectionSound_237 : decode cL_isSelectionSound 237 = .ok (.iconst 5, 1) := by decide +kernel
theorem dL_isSelectionSound_238 : decode cL_isSelectionSound 238 = .ok (.invokevirtual 36, 3) := by decide +kernel
theorem dL_isSelectionSound_241 : decode cL_isSelectionSound 241 = .ok (.if_icmp .lt 10, 3) := by decide +kernel
theorem dL_isSelectionSound_244 : decode cL_isSelectionSound 244 = .ok (.iload 7, 2) := by decide +kernel
theorem dL_isSelectionSound_246 : decode cL_isSelectionSound 246 = .ok (.bipush 20, 2) := by decide +kernel
theorem dL_isSelectionSound_248 : decode cL_isSelectionSound 248 = .ok (.if_icmp .le 5, 3) := by decide +kernel
theorem dL_isSelectionSound_251 : decode cL_isSelectionSound 251 = .ok (.iconst 0, 1) := by decide +kernel
theorem dL_isSelectionSound_252 : decode cL_isSelectionSound 252 = .ok (.ireturn, 1) := by decide +kernel
theorem dL_isSelectionSound_253 : decode cL_isSelectionSound 253 = .ok (.iinc 6 1, 3) := by decide +kernel
theorem dL_isSelectionSound_256 : decode cL_isSelectionSound 256 = .ok (.goto (-94), 3) := by decide +kernel
theorem dL_isSelectionSound_259 : decode cL_isSelectionSound 259 = .ok (.iconst 1, 1) := by decide +kernel
theorem dL_isSelectionSound_260 : decode cL_isSelectionSound 260 = .ok (.ireturn, 1) := by decide +kernel
theorem dL_isEnd_0 : decode cL_isEnd 0 = .ok (.iload_n 0, 1) := by decide +kernel
theorem dL_isEnd_1 : decode cL_isEnd 1 = .ok (.sipush 4000, 3) := by decide +kernel
theorem dL_isEnd_4 : decode cL_isEnd 4 = .ok (.if_icmp .eq 10, 3) := by decide +kernel
theorem dL_isEnd_7 : decode cL_isEnd 7 = .ok (.iload_n 0, 1) := by decide +kernel
theorem dL_isEnd_8 : decode cL_isEnd 8 = .ok (.sipush (-4000), 3) := by decide +kernel
theorem dL_isEnd_11 : decode cL_isEnd 11 = .ok (.if_icmp .ne 7, 3) := by decide +kernel
theorem dL_isEnd_14 : decode cL_isEnd 14 = .ok (.iconst 1, 1) := by decide +kernel
theorem dL_isEnd_15 : decode cL_isEnd 15 = .ok (.goto 4, 3) := by decide +kernel
theorem dL_isEnd_18 : decode cL_isEnd 18 = .ok (.iconst 0, 1) := by decide +kernel
theorem dL_isEnd_19 : decode cL_isEnd 19 = .ok (.ireturn, 1) := by decide +kernel
theorem dL_isCycleSound_0 : decode cL_isCycleSound 0 = .ok (.aload_n 0, 1) := by decide +kernel
theorem dL_isCycleSound_1 : decode cL_isCycleSound 1 = .ok (.invokevirtual 40, 3) := by decide +kernel
theorem dL_isCycleSound_4 : decode cL_isCycleSound 4 = .ok (.ifCond .le 7, 3) := by decide +kernel
theorem dL_isCycleSound_7 : decode cL_isCycleSound 7 = .ok (.iconst 1, 1) := by decide +kernel
theorem dL_isCycleSound_8 : decode cL_isCycleSound 8 = .ok (.goto 4, 3) := by decide +kernel
theorem dL_isCycleSound_11 : decode cL_isCycleSound 11 = .ok (.iconst 0, 1) := by decide +kernel
theorem dL_isCycleSound_12 : decode cL_isCycleSound 12 = .ok (.istore_n 1, 1) := by decide +kernel
theorem dL_isCycleSound_13 : decode cL_isCycleSound 13 = .ok (.aload_n 0, 1) := by decide +kernel
theorem dL_isCycleSound_14 : decode cL_isCycleSound 14 = .ok (.invokevirtual 40, 3) := by decide +kernel
theorem dL_isCycleSound_17 : decode cL_isCycleSound 17 = .ok (.istore_n 2, 1) := by decide +kernel
theorem dL_isCycleSound_18 : decode cL_isCycleSound 18 = .ok (.iconst 0, 1) := by decide +kernel
theorem dL_isCycleSound_19 : decode cL_isCycleSound 19 = .ok (.istore_n 3, 1) := by decide +kernel
theorem dL_isCycleSound_20 : decode cL_isCycleSound 20 = .ok (.iconst 0, 1) := by decide +kernel
theorem dL_isCycleSound_21 : decode cL_isCycleSound 21 = .ok (.istore 4, 2) := by decide +kernel
theorem dL_isCycleSound_23 : decode cL_isCycleSound 23 = .ok (.iconst 0, 1) := by decide +kernel
theorem dL_isCycleSound_24 : decode cL_isCycleSound 24 = .ok (.istore 5, 2) := by decide +kernel
theorem dL_isCycleSound_26 : decode cL_isCycleSound 26 = .ok (.iload 5, 2) := by decide +kernel
theorem dL_isCycleSound_28 : decode cL_isCycleSound 28 = .ok (.aload_n 0, 1) := by decide +kernel
theorem dL_isCycleSound_29 : decode cL_isCycleSound 29 = .ok (.invokevirtual 20, 3) := by decide +kernel
theorem dL_isCycleSound_32 : decode cL_isCycleSound 32 = .ok (.if_icmp .ge 35, 3) := by decide +kernel
theorem dL_isCycleSound_35 : decode cL_isCycleSound 35 = .ok (.iload_n 3, 1) := by decide +kernel
theorem dL_isCycleSound_36 : decode cL_isCycleSound 36 = .ok (.aload_n 0, 1) := by decide +kernel
theorem dL_isCycleSound_37 : decode cL_isCycleSound 37 = .ok (.iload 5, 2) := by decide +kernel
theorem dL_isCycleSound_39 : decode cL_isCycleSound 39 = .ok (.bipush 8, 2) := by decide +kernel
theorem dL_isCycleSound_41 : decode cL_isCycleSound 41 = .ok (.invokevirtual 36, 3) := by decide +kernel
theorem dL_isCycleSound_44 : decode cL_isCycleSound 44 = .ok (.iload 5, 2) := by decide +kernel
theorem dL_isCycleSound_46 : decode cL_isCycleSound 46 = .ok (.ishl, 1) := by decide +kernel
theorem dL_isCycleSound_47 : decode cL_isCycleSound 47 = .ok (.ior, 1) := by decide +kernel
theorem dL_isCycleSound_48 : decode cL_isCycleSound 48 = .ok (.istore_n 3, 1) := by decide +kernel
theorem dL_isCycleSound_49 : decode cL_isCycleSound 49 = .ok (.iload 4, 2) := by decide +kernel
theorem dL_isCycleSound_51 : decode cL_isCycleSound 51 = .ok (.aload_n 0, 1) := by decide +kernel
theorem dL_isCycleSound_52 : decode cL_isCycleSound 52 = .ok (.iload 5, 2) := by decide +kernel
theorem dL_isCycleSound_54 : decode cL_isCycleSound 54 = .ok (.iconst 3, 1) := by decide +kernel
theorem dL_isCycleSound_55 : decode cL_isCycleSound 55 = .ok (.invokevirtual 36, 3) := by decide +kernel
theorem dL_isCycleSound_58 : decode cL_isCycleSound 58 = .ok (.iadd, 1) := by decide +kernel
theorem dL_isCycleSound_59 : decode cL_isCycleSound 59 = .ok (.istore 4, 2) := by decide +kernel
theorem dL_isCycleSound_61 : decode cL_isCycleSound 61 = .ok (.iinc 5 1, 3) := by decide +kernel
theorem dL_isCycleSound_64 : decode cL_isCycleSound 64 = .ok (.goto (-38), 3) := by decide +kernel
theorem dL_isCycleSound_67 : decode cL_isCycleSound 67 = .ok (.aload_n 0, 1) := by decide +kernel
theorem dL_isCycleSound_68 : decode cL_isCycleSound 68 = .ok (.iconst 0, 1) := by decide +kernel
theorem dL_isCycleSound_69 : decode cL_isCycleSound 69 = .ok (.iconst 0, 1) := by decide +kernel
theorem dL_isCycleSound_70 : decode cL_isCycleSound 70 = .ok (.invokevirtual 43, 3) := by decide +kernel
theorem dL_isCycleSound_73 : decode cL_isCycleSound 73 = .ok (.iload_n 1, 1) := by decide +kernel
theorem dL_isCycleSound_74 : decode cL_isCycleSound 74 = .ok (.ifCond .eq 12, 3) := by decide +kernel
theorem dL_isCycleSound_77 : decode cL_isCycleSound 77 = .ok (.aload_n 0, 1) := by decide +kernel
theorem dL_isCycleSound_78 : decode cL_isCycleSound 78 = .ok (.iconst 0, 1) := by decide +kernel
theorem dL_isCycleSound_79 : decode cL_isCycleSound 79 = .ok (.iconst 0, 1) := by decide +kernel
theorem dL_isCycleSound_80 : decode cL_isCycleSound 80 = .ok (.invokevirtual 46, 3) := by decide +kernel
theorem dL_isCycleSound_83 : decode cL_isCycleSound 83 = .ok (.goto 4, 3) := by decide +kernel
theorem dL_isCycleSound_86 : decode cL_isCycleSound 86 = .ok (.iconst 0, 1) := by decide +kernel
theorem dL_isCycleSound_87 : decode cL_isCycleSound 87 = .ok (.iadd, 1) := by decide +kernel
theorem dL_isCycleSound_88 : decode cL_isCycleSound 88 = .ok (.istore 5, 2) := by decide +kernel
theorem dL_isCycleSound_90 : decode cL_isCycleSound 90 = .ok (.aload_n 0, 1) := by decide +kernel
theorem dL_isCycleSound_91 : decode cL_isCycleSound 91 = .ok (.iconst 0, 1) := by decide +kernel
theorem dL_isCycleSound_92 : decode cL_isCycleSound 92 = .ok (.iconst 1, 1) := by decide +kernel
theorem dL_isCycleSound_93 : decode cL_isCycleSound 93 = .ok (.invokevirtual 43, 3) := by decide +kernel
theorem dL_isCycleSound_96 : decode cL_isCycleSound 96 = .ok (.iload_n 1, 1) := by decide +kernel
theorem dL_isCycleSound_97 : decode cL_isCycleSound 97 = .ok (.ifCond .eq 12, 3) := by decide +kernel
theorem dL_isCycleSound_100 : decode cL_isCycleSound 100 = .ok (.aload_n 0, 1) := by decide +kernel
theorem dL_isCycleSound_101 : decode cL_isCycleSound 101 = .ok (.iconst 0, 1) := by decide +kernel
theorem dL_isCycleSound_102 : decode cL_isCycleSound 102 = .ok (.iconst 1, 1) := by decide +kernel
theorem dL_isCycleSound_103 : decode cL_isCycleSound 103 = .ok (.invokevirtual 46, 3) := by decide +kernel
theorem dL_isCycleSound_106 : decode cL_isCycleSound 106 = .ok (.goto 4, 3) := by decide +kernel
theorem dL_isCycleSound_109 : decode cL_isCycleSound 109 = .ok (.iconst 0, 1) := by decide +kernel
theorem dL_isCycleSound_110 : decode cL_isCycleSound 110 = .ok (.iadd, 1) := by decide +kernel
theorem dL_isCycleSound_111 : decode cL_isCycleSound 111 = .ok (.istore 6, 2) := by decide +kernel
theorem dL_isCycleSound_113 : decode cL_isCycleSound 113 = .ok (.aload_n 0, 1) := by decide +kernel
theorem dL_isCycleSound_114 : decode cL_isCycleSound 114 = .ok (.iconst 0, 1) := by decide +kernel
theorem dL_isCycleSound_115 : decode cL_isCycleSound 115 = .ok (.iconst 2, 1) := by decide +kernel
theorem dL_isCycleSound_116 : decode cL_isCycleSound 116 = .ok (.invokevirtual 43, 3) := by decide +kernel
theorem dL_isCycleSound_119 : decode cL_isCycleSound 119 = .ok (.iload_n 1, 1) := by decide +kernel
theorem dL_isCycleSound_120 : decode cL_isCycleSound 120 = .ok (.ifCond .eq 12, 3) := by decide +kernel
theorem dL_isCycleSound_123 : decode cL_isCycleSound 123 = .ok (.aload_n 0, 1) := by decide +kernel
theorem dL_isCycleSound_124 : decode cL_isCycleSound 124 = .ok (.iconst 0, 1) := by decide +kernel
theorem dL_isCycleSound_125 : decode cL_isCycleSound 125 = .ok (.iconst 2, 1) := by decide +kernel
theorem dL_isCycleSound_126 : decode cL_isCycleSound 126 = .ok (.invokevirtual 46, 3) := by decide +kernel
theorem dL_isCycleSound_129 : decode cL_isCycleSound 129 = .ok (.goto 4, 3) := by decide +kernel
theorem dL_isCycleSound_132 : decode cL_isCycleSound 132 = .ok (.iconst 0, 1) := by decide +kernel
theorem dL_isCycleSound_133 : decode cL_isCycleSound 133 = .ok (.iadd, 1) := by decide +kernel
theorem dL_isCycleSound_134 : decode cL_isCycleSound 134 = .ok (.istore 7, 2) := by decide +kernel
theorem dL_isCycleSound_136 : decode cL_isCycleSound 136 = .ok (.aload_n 0, 1) := by decide +kernel
theorem dL_isCycleSound_137 : decode cL_isCycleSound 137 = .ok (.iconst 1, 1) := by decide +kernel
theorem dL_isCycleSound_138 : decode cL_isCycleSound 138 = .ok (.invokevirtual 49, 3) := by decide +kernel
theorem dL_isCycleSound_141 : decode cL_isCycleSound 141 = .ok (.lstore 8, 2) := by decide +kernel
theorem dL_isCycleSound_143 : decode cL_isCycleSound 143 = .ok (.aload_n 0, 1) := by decide +kernel
theorem dL_isCycleSound_144 : decode cL_isCycleSound 144 = .ok (.iconst 0, 1) := by decide +kernel
theorem dL_isCycleSound_145 : decode cL_isCycleSound 145 = .ok (.invokevirtual 53, 3) := by decide +kernel
theorem dL_isCycleSound_148 : decode cL_isCycleSound 148 = .ok (.aload_n 0, 1) := by decide +kernel
theorem dL_isCycleSound_149 : decode cL_isCycleSound 149 = .ok (.iconst 1, 1) := by decide +kernel
theorem dL_isCycleSound_150 : decode cL_isCycleSound 150 = .ok (.invokevirtual 53, 3) := by decide +kernel
theorem dL_isCycleSound_153 : decode cL_isCycleSound 153 = .ok (.iadd, 1) := by decide +kernel
theorem dL_isCycleSound_154 : decode cL_isCycleSound 154 = .ok (.istore 10, 2) := by decide +kernel
theorem dL_isCycleSound_156 : decode cL_isCycleSound 156 = .ok (.aload_n 0, 1) := by decide +kernel
theorem dL_isCycleSound_157 : decode cL_isCycleSound 157 = .ok (.invokevirtual 56, 3) := by decide +kernel
theorem dL_isCycleSound_160 : decode cL_isCycleSound 160 = .ok (.istore 11, 2) := by decide +kernel
theorem dL_isCycleSound_162 : decode cL_isCycleSound 162 = .ok (.aload_n 0, 1) := by decide +kernel
theorem dL_isCycleSound_163 : decode cL_isCycleSound 163 = .ok (.invokevirtual 59, 3) := by decide +kernel
theorem dL_isCycleSound_166 : decode cL_isCycleSound 166 = .ok (.istore 12, 2) := by decide +kernel
theorem dL_isCycleSound_168 : decode cL_isCycleSound 168 = .ok (.iconst 0, 1) := by decide +kernel
theorem dL_isCycleSound_169 : decode cL_isCycleSound 169 = .ok (.istore 13, 2) := by decide +kernel
theorem dL_isCycleSound_171 : decode cL_isCycleSound 171 = .ok (.iconst 0, 1) := by decide +kernel
theorem dL_isCycleSound_172 : decode cL_isCycleSound 172 = .ok (.istore 14, 2) := by decide +kernel
theorem dL_isCycleSound_174 : decode cL_isCycleSound 174 = .ok (.iload 14, 2) := by decide +kernel
theorem dL_isCycleSound_176 : decode cL_isCycleSound 176 = .ok (.aload_n 0, 1) := by decide +kernel
theorem dL_isCycleSound_177 : decode cL_isCycleSound 177 = .ok (.invokevirtual 20, 3) := by decide +kernel
theorem dL_isCycleSound_180 : decode cL_isCycleSound 180 = .ok (.if_icmp .ge 31, 3) := by decide +kernel
theorem dL_isCycleSound_183 : decode cL_isCycleSound 183 = .ok (.iload 13, 2) := by decide +kernel
theorem dL_isCycleSound_185 : decode cL_isCycleSound 185 = .ok (.aload_n 0, 1) := by decide +kernel
theorem dL_isCycleSound_186 : decode cL_isCycleSound 186 = .ok (.iload 14, 2) := by decide +kernel
theorem dL_isCycleSound_188 : decode cL_isCycleSound 188 = .ok (.invokevirtual 62, 3) := by decide +kernel
theorem dL_isCycleSound_191 : decode cL_isCycleSound 191 = .ok (.ifCond .le 10, 3) := by decide +kernel
theorem dL_isCycleSound_194 : decode cL_isCycleSound 194 = .ok (.iconst 1, 1) := by decide +kernel
theorem dL_isCycleSound_195 : decode cL_isCycleSound 195 = .ok (.iload 14, 2) := by decide +kernel
theorem dL_isCycleSound_197 : decode cL_isCycleSound 197 = .ok (.ishl, 1) := by decide +kernel
theorem dL_isCycleSound_198 : decode cL_isCycleSound 198 = .ok (.goto 4, 3) := by decide +kernel
theorem dL_isCycleSound_201 : decode cL_isCycleSound 201 = .ok (.iconst 0, 1) := by decide +kernel
theorem dL_isCycleSound_202 : decode cL_isCycleSound 202 = .ok (.ior, 1) := by decide +kernel
theorem dL_isCycleSound_203 : decode cL_isCycleSound 203 = .ok (.istore 13, 2) := by decide +kernel
theorem dL_isCycleSound_205 : decode cL_isCycleSound 205 = .ok (.iinc 14 1, 3) := by decide +kernel
theorem dL_isCycleSound_208 : decode cL_isCycleSound 208 = .ok (.goto (-34), 3) := by decide +kernel
theorem dL_isCycleSound_211 : decode cL_isCycleSound 211 = .ok (.iload 12, 2) := by decide +kernel
theorem dL_isCycleSound_213 : decode cL_isCycleSound 213 = .ok (.ldc 19, 2) := by decide +kernel
theorem dL_isCycleSound_215 : decode cL_isCycleSound 215 = .ok (.if_icmp .eq 10, 3) := by decide +kernel
theorem dL_isCycleSound_218 : decode cL_isCycleSound 218 = .ok (.iload 12, 2) := by decide +kernel
theorem dL_isCycleSound_220 : decode cL_isCycleSound 220 = .ok (.iload 13, 2) := by decide +kernel
theorem dL_isCycleSound_222 : decode cL_isCycleSound 222 = .ok (.if_icmp .ne 44, 3) := by decide +kernel
theorem dL_isCycleSound_225 : decode cL_isCycleSound 225 = .ok (.iload 12, 2) := by decide +kernel
theorem dL_isCycleSound_227 : decode cL_isCycleSound 227 = .ok (.ldc 19, 2) := by decide +kernel
theorem dL_isCycleSound_229 : decode cL_isCycleSound 229 = .ok (.if_icmp .ne 8, 3) := by decide +kernel
theorem dL_isCycleSound_232 : decode cL_isCycleSound 232 = .ok (.iload 13, 2) := by decide +kernel
theorem dL_isCycleSound_234 : decode cL_isCycleSound 234 = .ok (.ifCond .ne 32, 3) := by decide +kernel
theorem dL_isCycleSound_237 : decode cL_isCycleSound 237 = .ok (.aload_n 0, 1) := by decide +kernel
theorem dL_isCycleSound_238 : decode cL_isCycleSound 238 = .ok (.invokevirtual 40, 3) := by decide +kernel
theorem dL_isCycleSound_241 : decode cL_isCycleSound 241 = .ok (.iload_n 1, 1) := by decide +kernel
theorem dL_isCycleSound_242 : decode cL_isCycleSound 242 = .ok (.ifCond .eq 9, 3) := by decide +kernel
theorem dL_isCycleSound_245 : decode cL_isCycleSound 245 = .ok (.iload_n 2, 1) := by decide +kernel
theorem dL_isCycleSound_246 : decode cL_isCycleSound 246 = .ok (.iconst 1, 1) := by decide +kernel
theorem dL_isCycleSound_247 : decode cL_isCycleSound 247 = .ok (.isub, 1) := by decide +kernel
theorem dL_isCycleSound_248 : decode cL_isCycleSound 248 = .ok (.goto 4, 3) := by decide +kernel
theorem dL_isCycleSound_251 : decode cL_isCycleSound 251 = .ok (.iconst 0, 1) := by decide +kernel
theorem dL_isCycleSound_252 : decode cL_isCycleSound 252 = .ok (.if_icmp .ne 14, 3) := by decide +kernel
theorem dL_isCycleSound_255 : decode cL_isCycleSound 255 = .ok (.aload_n 0, 1) := by decide +kernel
theorem dL_isCycleSound_256 : decode cL_isCycleSound 256 = .ok (.invokevirtual 56, 3) := by decide +kernel
theorem dL_isCycleSound_259 : decode cL_isCycleSound 259 = .ok (.iload 11, 2) := by decide +kernel
theorem dL_isCycleSound_261 : decode cL_isCycleSound 261 = .ok (.iconst 1, 1) := by decide +kernel
theorem dL_isCycleSound_262 : decode cL_isCycleSound 262 = .ok (.iadd, 1) := by decide +kernel
theorem dL_isCycleSound_263 : decode cL_isCycleSound 263 = .ok (.if_icmp .eq 5, 3) := by decide +kernel
theorem dL_isCycleSound_266 : decode cL_isCycleSound 266 = .ok (.iconst 0, 1) := by decide +kernel
theorem dL_isCycleSound_267 : decode cL_isCycleSound 267 = .ok (.ireturn, 1) := by decide +kernel
theorem dL_isCycleSound_268 : decode cL_isCycleSound 268 = .ok (.iconst 0, 1) := by decide +kernel
theorem dL_isCycleSound_269 : decode cL_isCycleSound 269 = .ok (.istore 14, 2) := by decide +kernel
theorem dL_isCycleSound_271 : decode cL_isCycleSound 271 = .ok (.iload 14, 2) := by decide +kernel
theorem dL_isCycleSound_273 : decode cL_isCycleSound 273 = .ok (.iconst 3, 1) := by decide +kernel
theorem dL_isCycleSound_274 : decode cL_isCycleSound 274 = .ok (.if_icmp .ge 198, 3) := by decide +kernel
theorem dL_isCycleSound_277 : decode cL_isCycleSound 277 = .ok (.iload 14, 2) := by decide +kernel
theorem dL_isCycleSound_279 : decode cL_isCycleSound 279 = .ok (.ifCond .ne 8, 3) := by decide +kernel
theorem dL_isCycleSound_282 : decode cL_isCycleSound 282 = .ok (.iload 5, 2) := by decide +kernel
theorem dL_isCycleSound_284 : decode cL_isCycleSound 284 = .ok (.goto 16, 3) := by decide +kernel
theorem dL_isCycleSound_287 : decode cL_isCycleSound 287 = .ok (.iload 14, 2) := by decide +kernel
theorem dL_isCycleSound_289 : decode cL_isCycleSound 289 = .ok (.iconst 1, 1) := by decide +kernel
theorem dL_isCycleSound_290 : decode cL_isCycleSound 290 = .ok (.if_icmp .ne 8, 3) := by decide +kernel
theorem dL_isCycleSound_293 : decode cL_isCycleSound 293 = .ok (.iload 6, 2) := by decide +kernel
theorem dL_isCycleSound_295 : decode cL_isCycleSound 295 = .ok (.goto 5, 3) := by decide +kernel
theorem dL_isCycleSound_298 : decode cL_isCycleSound 298 = .ok (.iload 7, 2) := by decide +kernel
theorem dL_isCycleSound_300 : decode cL_isCycleSound 300 = .ok (.istore 15, 2) := by decide +kernel
theorem dL_isCycleSound_302 : decode cL_isCycleSound 302 = .ok (.iconst 0, 1) := by decide +kernel
theorem dL_isCycleSound_303 : decode cL_isCycleSound 303 = .ok (.istore 16, 2) := by decide +kernel
theorem dL_isCycleSound_305 : decode cL_isCycleSound 305 = .ok (.iconst 0, 1) := by decide +kernel
theorem dL_isCycleSound_306 : decode cL_isCycleSound 306 = .ok (.istore 17, 2) := by decide +kernel
theorem dL_isCycleSound_308 : decode cL_isCycleSound 308 = .ok (.iconst 0, 1) := by decide +kernel
theorem dL_isCycleSound_309 : decode cL_isCycleSound 309 = .ok (.istore 18, 2) := by decide +kernel
theorem dL_isCycleSound_311 : decode cL_isCycleSound 311 = .ok (.iload 18, 2) := by decide +kernel
theorem dL_isCycleSound_313 : decode cL_isCycleSound 313 = .ok (.aload_n 0, 1) := by decide +kernel
theorem dL_isCycleSound_314 : decode cL_isCycleSound 314 = .ok (.invokevirtual 20, 3) := by decide +kernel
theorem dL_isCycleSound_317 : decode cL_isCycleSound 317 = .ok (.if_icmp .ge 52, 3) := by decide +kernel
theorem dL_isCycleSound_320 : decode cL_isCycleSound 320 = .ok (.iload 16, 2) := by decide +kernel
theorem dL_isCycleSound_322 : decode cL_isCycleSound 322 = .ok (.aload_n 0, 1) := by decide +kernel
theorem dL_isCycleSound_323 : decode cL_isCycleSound 323 = .ok (.iload 18, 2) := by decide +kernel
theorem dL_isCycleSound_325 : decode cL_isCycleSound 325 = .ok (.invokevirtual 62, 3) := by decide +kernel
theorem dL_isCycleSound_328 : decode cL_isCycleSound 328 = .ok (.aload_n 0, 1) := by decide +kernel
theorem dL_isCycleSound_329 : decode cL_isCycleSound 329 = .ok (.iload 18, 2) := by decide +kernel
theorem dL_isCycleSound_331 : decode cL_isCycleSound 331 = .ok (.iload 14, 2) := by decide +kernel
theorem dL_isCycleSound_333 : decode cL_isCycleSound 333 = .ok (.invokevirtual 65, 3) := by decide +kernel
theorem dL_isCycleSound_336 : decode cL_isCycleSound 336 = .ok (.imul, 1) := by decide +kernel
theorem dL_isCycleSound_337 : decode cL_isCycleSound 337 = .ok (.iadd, 1) := by decide +kernel
theorem dL_isCycleSound_338 : decode cL_isCycleSound 338 = .ok (.istore 16, 2) := by decide +kernel
theorem dL_isCycleSound_340 : decode cL_isCycleSound 340 = .ok (.iload 17, 2) := by decide +kernel
theorem dL_isCycleSound_342 : decode cL_isCycleSound 342 = .ok (.bipush 20, 2) := by decide +kernel
theorem dL_isCycleSound_344 : decode cL_isCycleSound 344 = .ok (.iload_n 3, 1) := by decide +kernel
theorem dL_isCycleSound_345 : decode cL_isCycleSound 345 = .ok (.iload 18, 2) := by decide +kernel
theorem dL_isCycleSound_347 : decode cL_isCycleSound 347 = .ok (.ishr, 1) := by decide +kernel
theorem dL_isCycleSound_348 : decode cL_isCycleSound 348 = .ok (.iconst 1, 1) := by decide +kernel
theorem dL_isCycleSound_349 : decode cL_isCycleSound 349 = .ok (.iand, 1) := by decide +kernel
theorem dL_isCycleSound_350 : decode cL_isCycleSound 350 = .ok (.imul, 1) := by decide +kernel
theorem dL_isCycleSound_351 : decode cL_isCycleSound 351 = .ok (.aload_n 0, 1) := by decide +kernel
theorem dL_isCycleSound_352 : decode cL_isCycleSound 352 = .ok (.iload 18, 2) := by decide +kernel
theorem dL_isCycleSound_354 : decode cL_isCycleSound 354 = .ok (.iload 14, 2) := by decide +kernel
theorem dL_isCycleSound_356 : decode cL_isCycleSound 356 = .ok (.invokevirtual 65, 3) := by decide +kernel
theorem dL_isCycleSound_359 : decode cL_isCycleSound 359 = .ok (.imul, 1) := by decide +kernel
theorem dL_isCycleSound_360 : decode cL_isCycleSound 360 = .ok (.iadd, 1) := by decide +kernel
theorem dL_isCycleSound_361 : decode cL_isCycleSound 361 = .ok (.istore 17, 2) := by decide +kernel
theorem dL_isCycleSound_363 : decode cL_isCycleSound 363 = .ok (.iinc 18 1, 3) := by decide +kernel
theorem dL_isCycleSound_366 : decode cL_isCycleSound 366 = .ok (.goto (-55), 3) := by decide +kernel
theorem dL_isCycleSound_369 : decode cL_isCycleSound 369 = .ok (.aload_n 0, 1) := by decide +kernel
theorem dL_isCycleSound_370 : decode cL_isCycleSound 370 = .ok (.iconst 0, 1) := by decide +kernel
theorem dL_isCycleSound_371 : decode cL_isCycleSound 371 = .ok (.iload 14, 2) := by decide +kernel
theorem dL_isCycleSound_373 : decode cL_isCycleSound 373 = .ok (.invokevirtual 43, 3) := by decide +kernel
theorem dL_isCycleSound_376 : decode cL_isCycleSound 376 = .ok (.istore 18, 2) := by decide +kernel
theorem dL_isCycleSound_378 : decode cL_isCycleSound 378 = .ok (.aload_n 0, 1) := by decide +kernel
theorem dL_isCycleSound_379 : decode cL_isCycleSound 379 = .ok (.iconst 1, 1) := by decide +kernel
theorem dL_isCycleSound_380 : decode cL_isCycleSound 380 = .ok (.iload 14, 2) := by decide +kernel
theorem dL_isCycleSound_382 : decode cL_isCycleSound 382 = .ok (.invokevirtual 43, 3) := by decide +kernel
theorem dL_isCycleSound_385 : decode cL_isCycleSound 385 = .ok (.iload 16, 2) := by decide +kernel
theorem dL_isCycleSound_387 : decode cL_isCycleSound 387 = .ok (.iload 17, 2) := by decide +kernel
theorem dL_isCycleSound_389 : decode cL_isCycleSound 389 = .ok (.iadd, 1) := by decide +kernel
theorem dL_isCycleSound_390 : decode cL_isCycleSound 390 = .ok (.if_icmp .ne 34, 3) := by decide +kernel
theorem dL_isCycleSound_393 : decode cL_isCycleSound 393 = .ok (.aload_n 0, 1) := by decide +kernel
theorem dL_isCycleSound_394 : decode cL_isCycleSound 394 = .ok (.iconst 2, 1) := by decide +kernel
theorem dL_isCycleSound_395 : decode cL_isCycleSound 395 = .ok (.iload 14, 2) := by decide +kernel
theorem dL_isCycleSound_397 : decode cL_isCycleSound 397 = .ok (.invokevirtual 43, 3) := by decide +kernel
theorem dL_isCycleSound_400 : decode cL_isCycleSound 400 = .ok (.iload 15, 2) := by decide +kernel
theorem dL_isCycleSound_402 : decode cL_isCycleSound 402 = .ok (.iload 17, 2) := by decide +kernel
theorem dL_isCycleSound_404 : decode cL_isCycleSound 404 = .ok (.isub, 1) := by decide +kernel
theorem dL_isCycleSound_405 : decode cL_isCycleSound 405 = .ok (.if_icmp .ne 19, 3) := by decide +kernel
theorem dL_isCycleSound_408 : decode cL_isCycleSound 408 = .ok (.iload 18, 2) := by decide +kernel
theorem dL_isCycleSound_410 : decode cL_isCycleSound 410 = .ok (.sipush (-4000), 3) := by decide +kernel
theorem dL_isCycleSound_413 : decode cL_isCycleSound 413 = .ok (.if_icmp .lt 11, 3) := by decide +kernel
theorem dL_isCycleSound_416 : decode cL_isCycleSound 416 = .ok (.iload 18, 2) := by decide +kernel
theorem dL_isCycleSound_418 : decode cL_isCycleSound 418 = .ok (.sipush 4000, 3) := by decide +kernel
theorem dL_isCycleSound_421 : decode cL_isCycleSound 421 = .ok (.if_icmp .le 5, 3) := by decide +kernel
theorem dL_isCycleSound_424 : decode cL_isCycleSound 424 = .ok (.iconst 0, 1) := by decide +kernel
theorem dL_isCycleSound_425 : decode cL_isCycleSound 425 = .ok (.ireturn, 1) := by decide +kernel
theorem dL_isCycleSound_426 : decode cL_isCycleSound 426 = .ok (.iload 18, 2) := by decide +kernel
theorem dL_isCycleSound_428 : decode cL_isCycleSound 428 = .ok (.invokestatic 68, 3) := by decide +kernel
theorem dL_isCycleSound_431 : decode cL_isCycleSound 431 = .ok (.ifCond .ne 35, 3) := by decide +kernel
theorem dL_isCycleSound_434 : decode cL_isCycleSound 434 = .ok (.iload 18, 2) := by decide +kernel
theorem dL_isCycleSound_436 : decode cL_isCycleSound 436 = .ok (.aload_n 0, 1) := by decide +kernel
theorem dL_isCycleSound_437 : decode cL_isCycleSound 437 = .ok (.iconst 1, 1) := by decide +kernel
theorem dL_isCycleSound_438 : decode cL_isCycleSound 438 = .ok (.iload 14, 2) := by decide +kernel
theorem dL_isCycleSound_440 : decode cL_isCycleSound 440 = .ok (.invokevirtual 43, 3) := by decide +kernel
theorem dL_isCycleSound_443 : decode cL_isCycleSound 443 = .ok (.iadd, 1) := by decide +kernel
theorem dL_isCycleSound_444 : decode cL_isCycleSound 444 = .ok (.iload 15, 2) := by decide +kernel
theorem dL_isCycleSound_446 : decode cL_isCycleSound 446 = .ok (.if_icmp .ne 18, 3) := by decide +kernel
theorem dL_isCycleSound_449 : decode cL_isCycleSound 449 = .ok (.aload_n 0, 1) := by decide +kernel
theorem dL_isCycleSound_450 : decode cL_isCycleSound 450 = .ok (.iconst 2, 1) := by decide +kernel
theorem dL_isCycleSound_451 : decode cL_isCycleSound 451 = .ok (.iload 14, 2) := by decide +kernel
theorem dL_isCycleSound_453 : decode cL_isCycleSound 453 = .ok (.invokevirtual 43, 3) := by decide +kernel
theorem dL_isCycleSound_456 : decode cL_isCycleSound 456 = .ok (.iload 16, 2) := by decide +kernel
theorem dL_isCycleSound_458 : decode cL_isCycleSound 458 = .ok (.isub, 1) := by decide +kernel
theorem dL_isCycleSound_459 : decode cL_isCycleSound 459 = .ok (.iload 18, 2) := by decide +kernel
theorem dL_isCycleSound_461 : decode cL_isCycleSound 461 = .ok (.if_icmp .eq 5, 3) := by decide +kernel
theorem dL_isCycleSound_464 : decode cL_isCycleSound 464 = .ok (.iconst 0, 1) := by decide +kernel
theorem dL_isCycleSound_465 : decode cL_isCycleSound 465 = .ok (.ireturn, 1) := by decide +kernel
theorem dL_isCycleSound_466 : decode cL_isCycleSound 466 = .ok (.iinc 14 1, 3) := by decide +kernel
theorem dL_isCycleSound_469 : decode cL_isCycleSound 469 = .ok (.goto (-198), 3) := by decide +kernel
theorem dL_isCycleSound_472 : decode cL_isCycleSound 472 = .ok (.aload_n 0, 1) := by decide +kernel
theorem dL_isCycleSound_473 : decode cL_isCycleSound 473 = .ok (.iconst 0, 1) := by decide +kernel
theorem dL_isCycleSound_474 : decode cL_isCycleSound 474 = .ok (.invokevirtual 53, 3) := by decide +kernel
theorem dL_isCycleSound_477 : decode cL_isCycleSound 477 = .ok (.aload_n 0, 1) := by decide +kernel
theorem dL_isCycleSound_478 : decode cL_isCycleSound 478 = .ok (.iconst 1, 1) := by decide +kernel
theorem dL_isCycleSound_479 : decode cL_isCycleSound 479 = .ok (.invokevirtual 53, 3) := by decide +kernel
theorem dL_isCycleSound_482 : decode cL_isCycleSound 482 = .ok (.iadd, 1) := by decide +kernel
theorem dL_isCycleSound_483 : decode cL_isCycleSound 483 = .ok (.istore 14, 2) := by decide +kernel
theorem dL_isCycleSound_485 : decode cL_isCycleSound 485 = .ok (.aload_n 0, 1) := by decide +kernel
theorem dL_isCycleSound_486 : decode cL_isCycleSound 486 = .ok (.iconst 1, 1) := by decide +kernel
theorem dL_isCycleSound_487 : decode cL_isCycleSound 487 = .ok (.invokevirtual 49, 3) := by decide +kernel
theorem dL_isCycleSound_490 : decode cL_isCycleSound 490 = .ok (.lload 8, 2) := by decide +kernel
theorem dL_isCycleSound_492 : decode cL_isCycleSound 492 = .ok (.aload_n 0, 1) := by decide +kernel
theorem dL_isCycleSound_493 : decode cL_isCycleSound 493 = .ok (.iconst 1, 1) := by decide +kernel
theorem dL_isCycleSound_494 : decode cL_isCycleSound 494 = .ok (.iconst 1, 1) := by decide +kernel
theorem dL_isCycleSound_495 : decode cL_isCycleSound 495 = .ok (.invokevirtual 43, 3) := by decide +kernel
theorem dL_isCycleSound_498 : decode cL_isCycleSound 498 = .ok (.i2l, 1) := by decide +kernel
theorem dL_isCycleSound_499 : decode cL_isCycleSound 499 = .ok (.ladd, 1) := by decide +kernel
theorem dL_isCycleSound_500 : decode cL_isCycleSound 500 = .ok (.lcmp, 1) := by decide +kernel
theorem dL_isCycleSound_501 : decode cL_isCycleSound 501 = .ok (.ifCond .ne 68, 3) := by decide +kernel
theorem dL_isCycleSound_504 : decode cL_isCycleSound 504 = .ok (.iload 14, 2) := by decide +kernel
theorem dL_isCycleSound_506 : decode cL_isCycleSound 506 = .ok (.iload 10, 2) := by decide +kernel
theorem dL_isCycleSound_508 : decode cL_isCycleSound 508 = .ok (.if_icmp .gt 61, 3) := by decide +kernel
theorem dL_isCycleSound_511 : decode cL_isCycleSound 511 = .ok (.iload 14, 2) := by decide +kernel
theorem dL_isCycleSound_513 : decode cL_isCycleSound 513 = .ok (.iload 10, 2) := by decide +kernel
theorem dL_isCycleSound_515 : decode cL_isCycleSound 515 = .ok (.bipush 20, 2) := by decide +kernel
theorem dL_isCycleSound_517 : decode cL_isCycleSound 517 = .ok (.iload 4, 2) := by decide +kernel
theorem dL_isCycleSound_519 : decode cL_isCycleSound 519 = .ok (.imul, 1) := by decide +kernel
theorem dL_isCycleSound_520 : decode cL_isCycleSound 520 = .ok (.isub, 1) := by decide +kernel
theorem dL_isCycleSound_521 : decode cL_isCycleSound 521 = .ok (.if_icmp .lt 48, 3) := by decide +kernel
theorem dL_isCycleSound_524 : decode cL_isCycleSound 524 = .ok (.aload_n 0, 1) := by decide +kernel
theorem dL_isCycleSound_525 : decode cL_isCycleSound 525 = .ok (.iconst 0, 1) := by decide +kernel
theorem dL_isCycleSound_526 : decode cL_isCycleSound 526 = .ok (.invokevirtual 53, 3) := by decide +kernel
theorem dL_isCycleSound_529 : decode cL_isCycleSound 529 = .ok (.ifCond .lt 40, 3) := by decide +kernel
theorem dL_isCycleSound_532 : decode cL_isCycleSound 532 = .ok (.aload_n 0, 1) := by decide +kernel
theorem dL_isCycleSound_533 : decode cL_isCycleSound 533 = .ok (.iconst 1, 1) := by decide +kernel
theorem dL_isCycleSound_534 : decode cL_isCycleSound 534 = .ok (.invokevirtual 53, 3) := by decide +kernel
theorem dL_isCycleSound_537 : decode cL_isCycleSound 537 = .ok (.ifCond .lt 32, 3) := by decide +kernel
theorem dL_isCycleSound_540 : decode cL_isCycleSound 540 = .ok (.aload_n 0, 1) := by decide +kernel
theorem dL_isCycleSound_541 : decode cL_isCycleSound 541 = .ok (.aload_n 0, 1) := by decide +kernel
theorem dL_isCycleSound_542 : decode cL_isCycleSound 542 = .ok (.iconst 1, 1) := by decide +kernel
theorem dL_isCycleSound_543 : decode cL_isCycleSound 543 = .ok (.iconst 0, 1) := by decide +kernel
theorem dL_isCycleSound_544 : decode cL_isCycleSound 544 = .ok (.invokevirtual 43, 3) := by decide +kernel
theorem dL_isCycleSound_547 : decode cL_isCycleSound 547 = .ok (.aload_n 0, 1) := by decide +kernel
theorem dL_isCycleSound_548 : decode cL_isCycleSound 548 = .ok (.iconst 1, 1) := by decide +kernel
theorem dL_isCycleSound_549 : decode cL_isCycleSound 549 = .ok (.iconst 1, 1) := by decide +kernel
theorem dL_isCycleSound_550 : decode cL_isCycleSound 550 = .ok (.invokevirtual 43, 3) := by decide +kernel
theorem dL_isCycleSound_553 : decode cL_isCycleSound 553 = .ok (.aload_n 0, 1) := by decide +kernel
theorem dL_isCycleSound_554 : decode cL_isCycleSound 554 = .ok (.iconst 1, 1) := by decide +kernel
theorem dL_isCycleSound_555 : decode cL_isCycleSound 555 = .ok (.iconst 2, 1) := by decide +kernel
theorem dL_isCycleSound_556 : decode cL_isCycleSound 556 = .ok (.invokevirtual 43, 3) := by decide +kernel
theorem dL_isCycleSound_559 : decode cL_isCycleSound 559 = .ok (.invokevirtual 72, 3) := by decide +kernel
theorem dL_isCycleSound_562 : decode cL_isCycleSound 562 = .ok (.ifCond .ne 7, 3) := by decide +kernel
theorem dL_isCycleSound_565 : decode cL_isCycleSound 565 = .ok (.iconst 1, 1) := by decide +kernel
theorem dL_isCycleSound_566 : decode cL_isCycleSound 566 = .ok (.goto 4, 3) := by decide +kernel
theorem dL_isCycleSound_569 : decode cL_isCycleSound 569 = .ok (.iconst 0, 1) := by decide +kernel
theorem dL_isCycleSound_570 : decode cL_isCycleSound 570 = .ok (.ireturn, 1) := by decide +kernel
theorem dL_changes_0 : decode cL_changes 0 = .ok (.iload_n 1, 1) := by decide +kernel
theorem dL_changes_1 : decode cL_changes 1 = .ok (.iconst 4, 1) := by decide +kernel
theorem dL_changes_2 : decode cL_changes 2 = .ok (.ishr, 1) := by decide +kernel
theorem dL_changes_3 : decode cL_changes 3 = .ok (.bipush 8, 2) := by decide +kernel
theorem dL_changes_5 : decode cL_changes 5 = .ok (.invokestatic 75, 3) := by decide +kernel
theorem dL_changes_8 : decode cL_changes 8 = .ok (.istore_n 2, 1) := by decide +kernel
theorem dL_changes_9 : decode cL_changes 9 = .ok (.iload_n 1, 1) := by decide +kernel
theorem dL_changes_10 : decode cL_changes 10 = .ok (.bipush 11, 2) := by decide +kernel
theorem dL_changes_12 : decode cL_changes 12 = .ok (.invokestatic 75, 3) := by decide +kernel
theorem dL_changes_15 : decode cL_changes 15 = .ok (.tableswitch 269 0 7 #[45, 45, 107, 142, 156, 170, 210, 223], 45) := by decide +kernel
theorem dL_changes_60 : decode cL_changes 60 = .ok (.aload_n 0, 1) := by decide +kernel
theorem dL_changes_61 : decode cL_changes 61 = .ok (.iload_n 1, 1) := by decide +kernel
theorem dL_changes_62 : decode cL_changes 62 = .ok (.iconst 4, 1) := by decide +kernel
theorem dL_changes_63 : decode cL_changes 63 = .ok (.ishr, 1) := by decide +kernel
theorem dL_changes_64 : decode cL_changes 64 = .ok (.bipush 21, 2) := by decide +kernel
theorem dL_changes_66 : decode cL_changes 66 = .ok (.invokestatic 75, 3) := by decide +kernel
theorem dL_changes_69 : decode cL_changes 69 = .ok (.bipush 10, 2) := by decide +kernel
theorem dL_changes_71 : decode cL_changes 71 = .ok (.isub, 1) := by decide +kernel
theorem dL_changes_72 : decode cL_changes 72 = .ok (.iload_n 1, 1) := by decide +kernel
theorem dL_changes_73 : decode cL_changes 73 = .ok (.bipush 9, 2) := by decide +kernel
theorem dL_changes_75 : decode cL_changes 75 = .ok (.ishr, 1) := by decide +kernel
theorem dL_changes_76 : decode cL_changes 76 = .ok (.bipush 21, 2) := by decide +kernel
theorem dL_changes_78 : decode cL_changes 78 = .ok (.invokestatic 75, 3) := by decide +kernel
theorem dL_changes_81 : decode cL_changes 81 = .ok (.bipush 10, 2) := by decide +kernel
theorem dL_changes_83 : decode cL_changes 83 = .ok (.isub, 1) := by decide +kernel
theorem dL_changes_84 : decode cL_changes 84 = .ok (.iload_n 1, 1) := by decide +kernel
theorem dL_changes_85 : decode cL_changes 85 = .ok (.bipush 14, 2) := by decide +kernel
theorem dL_changes_87 : decode cL_changes 87 = .ok (.ishr, 1) := by decide +kernel
theorem dL_changes_88 : decode cL_changes 88 = .ok (.iconst 3, 1) := by decide +kernel
theorem dL_changes_89 : decode cL_changes 89 = .ok (.iand, 1) := by decide +kernel
theorem dL_changes_90 : decode cL_changes 90 = .ok (.iconst 1, 1) := by decide +kernel
theorem dL_changes_91 : decode cL_changes 91 = .ok (.iload_n 1, 1) := by decide +kernel
theorem dL_changes_92 : decode cL_changes 92 = .ok (.bipush 16, 2) := by decide +kernel
theorem dL_changes_94 : decode cL_changes 94 = .ok (.ishr, 1) := by decide +kernel
theorem dL_changes_95 : decode cL_changes 95 = .ok (.bipush 10, 2) := by decide +kernel
theorem dL_changes_97 : decode cL_changes 97 = .ok (.invokestatic 75, 3) := by decide +kernel
theorem dL_changes_100 : decode cL_changes 100 = .ok (.iadd, 1) := by decide +kernel
theorem dL_changes_101 : decode cL_changes 101 = .ok (.iload_n 1, 1) := by decide +kernel
theorem dL_changes_102 : decode cL_changes 102 = .ok (.bipush 20, 2) := by decide +kernel
theorem dL_changes_104 : decode cL_changes 104 = .ok (.ishr, 1) := by decide +kernel
theorem dL_changes_105 : decode cL_changes 105 = .ok (.iconst 1, 1) := by decide +kernel
theorem dL_changes_106 : decode cL_changes 106 = .ok (.iand, 1) := by decide +kernel
theorem dL_changes_107 : decode cL_changes 107 = .ok (.iconst 1, 1) := by decide +kernel
theorem dL_changes_108 : decode cL_changes 108 = .ok (.iload_n 1, 1) := by decide +kernel
theorem dL_changes_109 : decode cL_changes 109 = .ok (.bipush 21, 2) := by decide +kernel
theorem dL_changes_111 : decode cL_changes 111 = .ok (.ishr, 1) := by decide +kernel
theorem dL_changes_112 : decode cL_changes 112 = .ok (.bipush 10, 2) := by decide +kernel
theorem dL_changes_114 : decode cL_changes 114 = .ok (.invokestatic 75, 3) := by decide +kernel
theorem dL_changes_117 : decode cL_changes 117 = .ok (.iadd, 1) := by decide +kernel
theorem dL_changes_118 : decode cL_changes 118 = .ok (.invokevirtual 78, 3) := by decide +kernel
theorem dL_changes_121 : decode cL_changes 121 = .ok (.ireturn, 1) := by decide +kernel
theorem dL_changes_122 : decode cL_changes 122 = .ok (.aload_n 0, 1) := by decide +kernel
theorem dL_changes_123 : decode cL_changes 123 = .ok (.iload_n 2, 1) := by decide +kernel
theorem dL_changes_124 : decode cL_changes 124 = .ok (.iload_n 1, 1) := by decide +kernel
theorem dL_changes_125 : decode cL_changes 125 = .ok (.bipush 7, 2) := by decide +kernel
theorem dL_changes_127 : decode cL_changes 127 = .ok (.ishr, 1) := by decide +kernel
theorem dL_changes_128 : decode cL_changes 128 = .ok (.iconst 3, 1) := by decide +kernel
theorem dL_changes_129 : decode cL_changes 129 = .ok (.iand, 1) := by decide +kernel
theorem dL_changes_130 : decode cL_changes 130 = .ok (.iconst 3, 1) := by decide +kernel
theorem dL_changes_131 : decode cL_changes 131 = .ok (.if_icmp .ne 7, 3) := by decide +kernel
theorem dL_changes_134 : decode cL_changes 134 = .ok (.iconst 2, 1) := by decide +kernel
theorem dL_changes_135 : decode cL_changes 135 = .ok (.goto 18, 3) := by decide +kernel
theorem dL_changes_138 : decode cL_changes 138 = .ok (.iload_n 1, 1) := by decide +kernel
theorem dL_changes_139 : decode cL_changes 139 = .ok (.bipush 7, 2) := by decide +kernel
theorem dL_changes_141 : decode cL_changes 141 = .ok (.ishr, 1) := by decide +kernel
theorem dL_changes_142 : decode cL_changes 142 = .ok (.iconst 3, 1) := by decide +kernel
theorem dL_changes_143 : decode cL_changes 143 = .ok (.iand, 1) := by decide +kernel
theorem dL_changes_144 : decode cL_changes 144 = .ok (.iconst 2, 1) := by decide +kernel
theorem dL_changes_145 : decode cL_changes 145 = .ok (.if_icmp .ne 7, 3) := by decide +kernel
theorem dL_changes_148 : decode cL_changes 148 = .ok (.iconst 1, 1) := by decide +kernel
theorem dL_changes_149 : decode cL_changes 149 = .ok (.goto 4, 3) := by decide +kernel
theorem dL_changes_152 : decode cL_changes 152 = .ok (.iconst 0, 1) := by decide +kernel
theorem dL_changes_153 : decode cL_changes 153 = .ok (.invokevirtual 82, 3) := by decide +kernel
theorem dL_changes_156 : decode cL_changes 156 = .ok (.ireturn, 1) := by decide +kernel
theorem dL_changes_157 : decode cL_changes 157 = .ok (.aload_n 0, 1) := by decide +kernel
theorem dL_changes_158 : decode cL_changes 158 = .ok (.iload_n 1, 1) := by decide +kernel
theorem dL_changes_159 : decode cL_changes 159 = .ok (.iconst 4, 1) := by decide +kernel
theorem dL_changes_160 : decode cL_changes 160 = .ok (.ishr, 1) := by decide +kernel
theorem dL_changes_161 : decode cL_changes 161 = .ok (.sipush 256, 3) := by decide +kernel
theorem dL_changes_164 : decode cL_changes 164 = .ok (.invokestatic 75, 3) := by decide +kernel
theorem dL_changes_167 : decode cL_changes 167 = .ok (.invokevirtual 85, 3) := by decide +kernel
theorem dL_changes_170 : decode cL_changes 170 = .ok (.ireturn, 1) := by decide +kernel
theorem dL_changes_171 : decode cL_changes 171 = .ok (.aload_n 0, 1) := by decide +kernel
theorem dL_changes_172 : decode cL_changes 172 = .ok (.iload_n 1, 1) := by decide +kernel
theorem dL_changes_173 : decode cL_changes 173 = .ok (.iconst 4, 1) := by decide +kernel
theorem dL_changes_174 : decode cL_changes 174 = .ok (.ishr, 1) := by decide +kernel
theorem dL_changes_175 : decode cL_changes 175 = .ok (.sipush 256, 3) := by decide +kernel
theorem dL_changes_178 : decode cL_changes 178 = .ok (.invokestatic 75, 3) := by decide +kernel
theorem dL_changes_181 : decode cL_changes 181 = .ok (.invokevirtual 88, 3) := by decide +kernel
theorem dL_changes_184 : decode cL_changes 184 = .ok (.ireturn, 1) := by decide +kernel
theorem dL_changes_185 : decode cL_changes 185 = .ok (.aload_n 0, 1) := by decide +kernel
theorem dL_changes_186 : decode cL_changes 186 = .ok (.iload_n 1, 1) := by decide +kernel
theorem dL_changes_187 : decode cL_changes 187 = .ok (.iconst 4, 1) := by decide +kernel
theorem dL_changes_188 : decode cL_changes 188 = .ok (.ishr, 1) := by decide +kernel
theorem dL_changes_189 : decode cL_changes 189 = .ok (.iconst 1, 1) := by decide +kernel
theorem dL_changes_190 : decode cL_changes 190 = .ok (.iand, 1) := by decide +kernel
theorem dL_changes_191 : decode cL_changes 191 = .ok (.iload_n 1, 1) := by decide +kernel
theorem dL_changes_192 : decode cL_changes 192 = .ok (.iconst 5, 1) := by decide +kernel
theorem dL_changes_193 : decode cL_changes 193 = .ok (.ishr, 1) := by decide +kernel
theorem dL_changes_194 : decode cL_changes 194 = .ok (.iconst 3, 1) := by decide +kernel
theorem dL_changes_195 : decode cL_changes 195 = .ok (.iand, 1) := by decide +kernel
theorem dL_changes_196 : decode cL_changes 196 = .ok (.ifCond .ne 16, 3) := by decide +kernel
theorem dL_changes_199 : decode cL_changes 199 = .ok (.iload_n 1, 1) := by decide +kernel
theorem dL_changes_200 : decode cL_changes 200 = .ok (.bipush 7, 2) := by decide +kernel
theorem dL_changes_202 : decode cL_changes 202 = .ok (.ishr, 1) := by decide +kernel
theorem dL_changes_203 : decode cL_changes 203 = .ok (.sipush 1500, 3) := by decide +kernel
theorem dL_changes_206 : decode cL_changes 206 = .ok (.invokestatic 75, 3) := by decide +kernel
theorem dL_changes_209 : decode cL_changes 209 = .ok (.goto 12, 3) := by decide +kernel
theorem dL_changes_212 : decode cL_changes 212 = .ok (.iload_n 1, 1) := by decide +kernel
theorem dL_changes_213 : decode cL_changes 213 = .ok (.bipush 7, 2) := by decide +kernel
theorem dL_changes_215 : decode cL_changes 215 = .ok (.ishr, 1) := by decide +kernel
theorem dL_changes_216 : decode cL_changes 216 = .ok (.ldc 91, 2) := by decide +kernel
theorem dL_changes_218 : decode cL_changes 218 = .ok (.invokestatic 75, 3) := by decide +kernel
theorem dL_changes_221 : decode cL_changes 221 = .ok (.invokevirtual 92, 3) := by decide +kernel
theorem dL_changes_224 : decode cL_changes 224 = .ok (.ireturn, 1) := by decide +kernel
theorem dL_changes_225 : decode cL_changes 225 = .ok (.aload_n 0, 1) := by decide +kernel
theorem dL_changes_226 : decode cL_changes 226 = .ok (.iload_n 1, 1) := by decide +kernel
theorem dL_changes_227 : decode cL_changes 227 = .ok (.iconst 4, 1) := by decide +kernel
theorem dL_changes_228 : decode cL_changes 228 = .ok (.ishr, 1) := by decide +kernel
theorem dL_changes_229 : decode cL_changes 229 = .ok (.bipush 11, 2) := by decide +kernel
theorem dL_changes_231 : decode cL_changes 231 = .ok (.invokestatic 75, 3) := by decide +kernel
theorem dL_changes_234 : decode cL_changes 234 = .ok (.invokevirtual 95, 3) := by decide +kernel
theorem dL_changes_237 : decode cL_changes 237 = .ok (.ireturn, 1) := by decide +kernel
theorem dL_changes_238 : decode cL_changes 238 = .ok (.aload_n 0, 1) := by decide +kernel
theorem dL_changes_239 : decode cL_changes 239 = .ok (.iload_n 1, 1) := by decide +kernel
theorem dL_changes_240 : decode cL_changes 240 = .ok (.iconst 4, 1) := by decide +kernel
theorem dL_changes_241 : decode cL_changes 241 = .ok (.ishr, 1) := by decide +kernel
theorem dL_changes_242 : decode cL_changes 242 = .ok (.sipush 600, 3) := by decide +kernel
theorem dL_changes_245 : decode cL_changes 245 = .ok (.invokestatic 75, 3) := by decide +kernel
theorem dL_changes_248 : decode cL_changes 248 = .ok (.sipush 300, 3) := by decide +kernel
theorem dL_changes_251 : decode cL_changes 251 = .ok (.isub, 1) := by decide +kernel
theorem dL_changes_252 : decode cL_changes 252 = .ok (.iload_n 1, 1) := by decide +kernel
theorem dL_changes_253 : decode cL_changes 253 = .ok (.bipush 9, 2) := by decide +kernel
theorem dL_changes_255 : decode cL_changes 255 = .ok (.ishr, 1) := by decide +kernel
theorem dL_changes_256 : decode cL_changes 256 = .ok (.sipush 600, 3) := by decide +kernel
theorem dL_changes_259 : decode cL_changes 259 = .ok (.invokestatic 75, 3) := by decide +kernel
theorem dL_changes_262 : decode cL_changes 262 = .ok (.sipush 300, 3) := by decide +kernel
theorem dL_changes_265 : decode cL_changes 265 = .ok (.isub, 1) := by decide +kernel
theorem dL_changes_266 : decode cL_changes 266 = .ok (.iload_n 1, 1) := by decide +kernel
theorem dL_changes_267 : decode cL_changes 267 = .ok (.bipush 14, 2) := by decide +kernel
theorem dL_changes_269 : decode cL_changes 269 = .ok (.ishr, 1) := by decide +kernel
theorem dL_changes_270 : decode cL_changes 270 = .ok (.sipush 1200, 3) := by decide +kernel
theorem dL_changes_273 : decode cL_changes 273 = .ok (.invokestatic 75, 3) := by decide +kernel
theorem dL_changes_276 : decode cL_changes 276 = .ok (.sipush 600, 3) := by decide +kernel
theorem dL_changes_279 : decode cL_changes 279 = .ok (.isub, 1) := by decide +kernel
theorem dL_changes_280 : decode cL_changes 280 = .ok (.invokevirtual 98, 3) := by decide +kernel
theorem dL_changes_283 : decode cL_changes 283 = .ok (.ireturn, 1) := by decide +kernel
theorem dL_changes_284 : decode cL_changes 284 = .ok (.aload_n 0, 1) := by decide +kernel
theorem dL_changes_285 : decode cL_changes 285 = .ok (.iload_n 1, 1) := by decide +kernel
theorem dL_changes_286 : decode cL_changes 286 = .ok (.iconst 4, 1) := by decide +kernel
theorem dL_changes_287 : decode cL_changes 287 = .ok (.ishr, 1) := by decide +kernel
theorem dL_changes_288 : decode cL_changes 288 = .ok (.sipush 600, 3) := by decide +kernel
theorem dL_changes_291 : decode cL_changes 291 = .ok (.invokestatic 75, 3) := by decide +kernel
theorem dL_changes_294 : decode cL_changes 294 = .ok (.sipush 300, 3) := by decide +kernel
theorem dL_changes_297 : decode cL_changes 297 = .ok (.isub, 1) := by decide +kernel
theorem dL_changes_298 : decode cL_changes 298 = .ok (.iload_n 1, 1) := by decide +kernel
theorem dL_changes_299 : decode cL_changes 299 = .ok (.bipush 9, 2) := by decide +kernel
theorem dL_changes_301 : decode cL_changes 301 = .ok (.ishr, 1) := by decide +kernel
theorem dL_changes_302 : decode cL_changes 302 = .ok (.sipush 600, 3) := by decide +kernel
theorem dL_changes_305 : decode cL_changes 305 = .ok (.invokestatic 75, 3) := by decide +kernel
theorem dL_changes_308 : decode cL_changes 308 = .ok (.sipush 300, 3) := by decide +kernel
theorem dL_changes_311 : decode cL_changes 311 = .ok (.isub, 1) := by decide +kernel
theorem dL_changes_312 : decode cL_changes 312 = .ok (.iload_n 1, 1) := by decide +kernel
theorem dL_changes_313 : decode cL_changes 313 = .ok (.bipush 14, 2) := by decide +kernel
theorem dL_changes_315 : decode cL_changes 315 = .ok (.ishr, 1) := by decide +kernel
theorem dL_changes_316 : decode cL_changes 316 = .ok (.sipush 1200, 3) := by decide +kernel
theorem dL_changes_319 : decode cL_changes 319 = .ok (.invokestatic 75, 3) := by decide +kernel
theorem dL_changes_322 : decode cL_changes 322 = .ok (.sipush 600, 3) := by decide +kernel
theorem dL_changes_325 : decode cL_changes 325 = .ok (.isub, 1) := by decide +kernel
theorem dL_changes_326 : decode cL_changes 326 = .ok (.invokevirtual 101, 3) := by decide +kernel
theorem dL_changes_329 : decode cL_changes 329 = .ok (.ireturn, 1) := by decide +kernel
theorem dL_law_0 : decode cL_law 0 = .ok (.new 9, 3) := by decide +kernel
theorem dL_law_3 : decode cL_law 3 = .ok (.dup, 1) := by decide +kernel
theorem dL_law_4 : decode cL_law 4 = .ok (.invokespecial 104, 3) := by decide +kernel
theorem dL_law_7 : decode cL_law 7 = .ok (.astore_n 1, 1) := by decide +kernel
theorem dL_law_8 : decode cL_law 8 = .ok (.aload_n 0, 1) := by decide +kernel
theorem dL_law_9 : decode cL_law 9 = .ok (.iconst 0, 1) := by decide +kernel
theorem dL_law_10 : decode cL_law 10 = .ok (.invokestatic 105, 3) := by decide +kernel
theorem dL_law_13 : decode cL_law 13 = .ok (.istore_n 2, 1) := by decide +kernel
theorem dL_law_14 : decode cL_law 14 = .ok (.aload_n 1, 1) := by decide +kernel
theorem dL_law_15 : decode cL_law 15 = .ok (.invokevirtual 109, 3) := by decide +kernel
theorem dL_law_18 : decode cL_law 18 = .ok (.ldc 112, 2) := by decide +kernel
theorem dL_law_20 : decode cL_law 20 = .ok (.if_icmp .ne 46, 3) := by decide +kernel
theorem dL_law_23 : decode cL_law 23 = .ok (.aload_n 1, 1) := by decide +kernel
theorem dL_law_24 : decode cL_law 24 = .ok (.iconst 0, 1) := by decide +kernel
theorem dL_law_25 : decode cL_law 25 = .ok (.iconst 0, 1) := by decide +kernel
theorem dL_law_26 : decode cL_law 26 = .ok (.iconst 0, 1) := by decide +kernel
theorem dL_law_27 : decode cL_law 27 = .ok (.invokevirtual 8, 3) := by decide +kernel
theorem dL_law_30 : decode cL_law 30 = .ok (.ifCond .ne 36, 3) := by decide +kernel
theorem dL_law_33 : decode cL_law 33 = .ok (.aload_n 1, 1) := by decide +kernel
theorem dL_law_34 : decode cL_law 34 = .ok (.iconst 1, 1) := by decide +kernel
theorem dL_law_35 : decode cL_law 35 = .ok (.iconst 0, 1) := by decide +kernel
theorem dL_law_36 : decode cL_law 36 = .ok (.iconst 0, 1) := by decide +kernel
theorem dL_law_37 : decode cL_law 37 = .ok (.invokevirtual 8, 3) := by decide +kernel
theorem dL_law_40 : decode cL_law 40 = .ok (.ldc 19, 2) := by decide +kernel
theorem dL_law_42 : decode cL_law 42 = .ok (.if_icmp .ne 24, 3) := by decide +kernel
theorem dL_law_45 : decode cL_law 45 = .ok (.aload_n 1, 1) := by decide +kernel
theorem dL_law_46 : decode cL_law 46 = .ok (.iconst 0, 1) := by decide +kernel
theorem dL_law_47 : decode cL_law 47 = .ok (.iconst 0, 1) := by decide +kernel
theorem dL_law_48 : decode cL_law 48 = .ok (.iconst 0, 1) := by decide +kernel
theorem dL_law_49 : decode cL_law 49 = .ok (.invokevirtual 72, 3) := by decide +kernel
theorem dL_law_52 : decode cL_law 52 = .ok (.ldc 112, 2) := by decide +kernel
theorem dL_law_54 : decode cL_law 54 = .ok (.if_icmp .ne 12, 3) := by decide +kernel
theorem dL_law_57 : decode cL_law 57 = .ok (.aload_n 1, 1) := by decide +kernel
theorem dL_law_58 : decode cL_law 58 = .ok (.invokevirtual 113, 3) := by decide +kernel
theorem dL_law_61 : decode cL_law 61 = .ok (.ldc 112, 2) := by decide +kernel
theorem dL_law_63 : decode cL_law 63 = .ok (.if_icmp .eq 5, 3) := by decide +kernel
theorem dL_law_66 : decode cL_law 66 = .ok (.iconst 0, 1) := by decide +kernel
theorem dL_law_67 : decode cL_law 67 = .ok (.ireturn, 1) := by decide +kernel
theorem dL_law_68 : decode cL_law 68 = .ok (.iconst 0, 1) := by decide +kernel
theorem dL_law_69 : decode cL_law 69 = .ok (.istore_n 3, 1) := by decide +kernel
theorem dL_law_70 : decode cL_law 70 = .ok (.iload_n 3, 1) := by decide +kernel
theorem dL_law_71 : decode cL_law 71 = .ok (.iconst 3, 1) := by decide +kernel
theorem dL_law_72 : decode cL_law 72 = .ok (.iload_n 2, 1) := by decide +kernel
theorem dL_law_73 : decode cL_law 73 = .ok (.bipush 6, 2) := by decide +kernel
theorem dL_law_75 : decode cL_law 75 = .ok (.invokestatic 75, 3) := by decide +kernel
theorem dL_law_78 : decode cL_law 78 = .ok (.iadd, 1) := by decide +kernel
theorem dL_law_79 : decode cL_law 79 = .ok (.if_icmp .ge 96, 3) := by decide +kernel
theorem dL_law_82 : decode cL_law 82 = .ok (.aload_n 0, 1) := by decide +kernel
theorem dL_law_83 : decode cL_law 83 = .ok (.iconst 1, 1) := by decide +kernel
theorem dL_law_84 : decode cL_law 84 = .ok (.iload_n 3, 1) := by decide +kernel
theorem dL_law_85 : decode cL_law 85 = .ok (.iadd, 1) := by decide +kernel
theorem dL_law_86 : decode cL_law 86 = .ok (.invokestatic 105, 3) := by decide +kernel
theorem dL_law_89 : decode cL_law 89 = .ok (.istore 4, 2) := by decide +kernel
theorem dL_law_91 : decode cL_law 91 = .ok (.aload_n 1, 1) := by decide +kernel
theorem dL_law_92 : decode cL_law 92 = .ok (.iload 4, 2) := by decide +kernel
theorem dL_law_94 : decode cL_law 94 = .ok (.bipush 21, 2) := by decide +kernel
theorem dL_law_96 : decode cL_law 96 = .ok (.invokestatic 75, 3) := by decide +kernel
theorem dL_law_99 : decode cL_law 99 = .ok (.bipush 10, 2) := by decide +kernel
theorem dL_law_101 : decode cL_law 101 = .ok (.isub, 1) := by decide +kernel
theorem dL_law_102 : decode cL_law 102 = .ok (.iload 4, 2) := by decide +kernel
theorem dL_law_104 : decode cL_law 104 = .ok (.iconst 5, 1) := by decide +kernel
theorem dL_law_105 : decode cL_law 105 = .ok (.ishr, 1) := by decide +kernel
theorem dL_law_106 : decode cL_law 106 = .ok (.bipush 21, 2) := by decide +kernel
theorem dL_law_108 : decode cL_law 108 = .ok (.invokestatic 75, 3) := by decide +kernel
theorem dL_law_111 : decode cL_law 111 = .ok (.bipush 10, 2) := by decide +kernel
theorem dL_law_113 : decode cL_law 113 = .ok (.isub, 1) := by decide +kernel
theorem dL_law_114 : decode cL_law 114 = .ok (.iload_n 3, 1) := by decide +kernel
theorem dL_law_115 : decode cL_law 115 = .ok (.iconst 4, 1) := by decide +kernel
theorem dL_law_116 : decode cL_law 116 = .ok (.if_icmp .ge 7, 3) := by decide +kernel
theorem dL_law_119 : decode cL_law 119 = .ok (.iload_n 3, 1) := by decide +kernel
theorem dL_law_120 : decode cL_law 120 = .ok (.goto 10, 3) := by decide +kernel
theorem dL_law_123 : decode cL_law 123 = .ok (.iload 4, 2) := by decide +kernel
theorem dL_law_125 : decode cL_law 125 = .ok (.bipush 10, 2) := by decide +kernel
theorem dL_law_127 : decode cL_law 127 = .ok (.ishr, 1) := by decide +kernel
theorem dL_law_128 : decode cL_law 128 = .ok (.iconst 3, 1) := by decide +kernel
theorem dL_law_129 : decode cL_law 129 = .ok (.iand, 1) := by decide +kernel
theorem dL_law_130 : decode cL_law 130 = .ok (.iconst 1, 1) := by decide +kernel
theorem dL_law_131 : decode cL_law 131 = .ok (.iload 4, 2) := by decide +kernel
theorem dL_law_133 : decode cL_law 133 = .ok (.bipush 12, 2) := by decide +kernel
theorem dL_law_135 : decode cL_law 135 = .ok (.ishr, 1) := by decide +kernel
theorem dL_law_136 : decode cL_law 136 = .ok (.bipush 10, 2) := by decide +kernel
theorem dL_law_138 : decode cL_law 138 = .ok (.invokestatic 75, 3) := by decide +kernel
theorem dL_law_141 : decode cL_law 141 = .ok (.iadd, 1) := by decide +kernel
theorem dL_law_142 : decode cL_law 142 = .ok (.iload 4, 2) := by decide +kernel
theorem dL_law_144 : decode cL_law 144 = .ok (.bipush 16, 2) := by decide +kernel
theorem dL_law_146 : decode cL_law 146 = .ok (.ishr, 1) := by decide +kernel
theorem dL_law_147 : decode cL_law 147 = .ok (.iconst 1, 1) := by decide +kernel
theorem dL_law_148 : decode cL_law 148 = .ok (.iand, 1) := by decide +kernel
theorem dL_law_149 : decode cL_law 149 = .ok (.iconst 1, 1) := by decide +kernel
theorem dL_law_150 : decode cL_law 150 = .ok (.iload 4, 2) := by decide +kernel
theorem dL_law_152 : decode cL_law 152 = .ok (.bipush 17, 2) := by decide +kernel
theorem dL_law_154 : decode cL_law 154 = .ok (.ishr, 1) := by decide +kernel
theorem dL_law_155 : decode cL_law 155 = .ok (.iconst 5, 1) := by decide +kernel
theorem dL_law_156 : decode cL_law 156 = .ok (.invokestatic 75, 3) := by decide +kernel
theorem dL_law_159 : decode cL_law 159 = .ok (.iadd, 1) := by decide +kernel
theorem dL_law_160 : decode cL_law 160 = .ok (.invokevirtual 78, 3) := by decide +kernel
theorem dL_law_163 : decode cL_law 163 = .ok (.iload_n 3, 1) := by decide +kernel
theorem dL_law_164 : decode cL_law 164 = .ok (.if_icmp .eq 5, 3) := by decide +kernel
theorem dL_law_167 : decode cL_law 167 = .ok (.iconst 0, 1) := by decide +kernel
theorem dL_law_168 : decode cL_law 168 = .ok (.ireturn, 1) := by decide +kernel
theorem dL_law_169 : decode cL_law 169 = .ok (.iinc 3 1, 3) := by decide +kernel
theorem dL_law_172 : decode cL_law 172 = .ok (.goto (-102), 3) := by decide +kernel
theorem dL_law_175 : decode cL_law 175 = .ok (.iconst 0, 1) := by decide +kernel
theorem dL_law_176 : decode cL_law 176 = .ok (.istore_n 3, 1) := by decide +kernel
theorem dL_law_177 : decode cL_law 177 = .ok (.iload_n 3, 1) := by decide +kernel
theorem dL_law_178 : decode cL_law 178 = .ok (.bipush 22, 2) := by decide +kernel
theorem dL_law_180 : decode cL_law 180 = .ok (.if_icmp .ge 188, 3) := by decide +kernel
theorem dL_law_183 : decode cL_law 183 = .ok (.aload_n 0, 1) := by decide +kernel
theorem dL_law_184 : decode cL_law 184 = .ok (.bipush 9, 2) := by decide +kernel
theorem dL_law_186 : decode cL_law 186 = .ok (.iload_n 3, 1) := by decide +kernel
theorem dL_law_187 : decode cL_law 187 = .ok (.iadd, 1) := by decide +kernel
theorem dL_law_188 : decode cL_law 188 = .ok (.invokestatic 105, 3) := by decide +kernel
theorem dL_law_191 : decode cL_law 191 = .ok (.istore 4, 2) := by decide +kernel
theorem dL_law_193 : decode cL_law 193 = .ok (.aload_n 1, 1) := by decide +kernel
theorem dL_law_194 : decode cL_law 194 = .ok (.invokevirtual 116, 3) := by decide +kernel
theorem dL_law_197 : decode cL_law 197 = .ok (.lstore 5, 2) := by decide +kernel
theorem dL_law_199 : decode cL_law 199 = .ok (.aload_n 1, 1) := by decide +kernel
theorem dL_law_200 : decode cL_law 200 = .ok (.sipush 255, 3) := by decide +kernel
theorem dL_law_203 : decode cL_law 203 = .ok (.invokevirtual 33, 3) := by decide +kernel
theorem dL_law_206 : decode cL_law 206 = .ok (.istore 7, 2) := by decide +kernel
theorem dL_law_208 : decode cL_law 208 = .ok (.aload_n 1, 1) := by decide +kernel
theorem dL_law_209 : decode cL_law 209 = .ok (.iload 4, 2) := by decide +kernel
theorem dL_law_211 : decode cL_law 211 = .ok (.invokestatic 120, 3) := by decide +kernel
theorem dL_law_214 : decode cL_law 214 = .ok (.istore 8, 2) := by decide +kernel
theorem dL_law_216 : decode cL_law 216 = .ok (.iload 8, 2) := by decide +kernel
theorem dL_law_218 : decode cL_law 218 = .ok (.ldc 19, 2) := by decide +kernel
theorem dL_law_220 : decode cL_law 220 = .ok (.if_icmp .ge 27, 3) := by decide +kernel
theorem dL_law_223 : decode cL_law 223 = .ok (.aload_n 1, 1) := by decide +kernel
theorem dL_law_224 : decode cL_law 224 = .ok (.invokevirtual 116, 3) := by decide +kernel
theorem dL_law_227 : decode cL_law 227 = .ok (.lload 5, 2) := by decide +kernel
theorem dL_law_229 : decode cL_law 229 = .ok (.lcmp, 1) := by decide +kernel
theorem dL_law_230 : decode cL_law 230 = .ok (.ifCond .ne 15, 3) := by decide +kernel
theorem dL_law_233 : decode cL_law 233 = .ok (.aload_n 1, 1) := by decide +kernel
theorem dL_law_234 : decode cL_law 234 = .ok (.sipush 255, 3) := by decide +kernel
theorem dL_law_237 : decode cL_law 237 = .ok (.invokevirtual 33, 3) := by decide +kernel
theorem dL_law_240 : decode cL_law 240 = .ok (.iload 7, 2) := by decide +kernel
theorem dL_law_242 : decode cL_law 242 = .ok (.if_icmp .eq 5, 3) := by decide +kernel
theorem dL_law_245 : decode cL_law 245 = .ok (.iconst 0, 1) := by decide +kernel
theorem dL_law_246 : decode cL_law 246 = .ok (.ireturn, 1) := by decide +kernel
theorem dL_law_247 : decode cL_law 247 = .ok (.iload 8, 2) := by decide +kernel
theorem dL_law_249 : decode cL_law 249 = .ok (.ldc 19, 2) := by decide +kernel
theorem dL_law_251 : decode cL_law 251 = .ok (.if_icmp .le 44, 3) := by decide +kernel
theorem dL_law_254 : decode cL_law 254 = .ok (.iload 4, 2) := by decide +kernel
theorem dL_law_256 : decode cL_law 256 = .ok (.bipush 27, 2) := by decide +kernel
theorem dL_law_258 : decode cL_law 258 = .ok (.ishr, 1) := by decide +kernel
theorem dL_law_259 : decode cL_law 259 = .ok (.iconst 3, 1) := by decide +kernel
theorem dL_law_260 : decode cL_law 260 = .ok (.iand, 1) := by decide +kernel
theorem dL_law_261 : decode cL_law 261 = .ok (.ifCond .ne 34, 3) := by decide +kernel
theorem dL_law_264 : decode cL_law 264 = .ok (.aload_n 1, 1) := by decide +kernel
theorem dL_law_265 : decode cL_law 265 = .ok (.invokevirtual 109, 3) := by decide +kernel
theorem dL_law_268 : decode cL_law 268 = .ok (.ifCond .lt 25, 3) := by decide +kernel
theorem dL_law_271 : decode cL_law 271 = .ok (.aload_n 1, 1) := by decide +kernel
theorem dL_law_272 : decode cL_law 272 = .ok (.invokevirtual 116, 3) := by decide +kernel
theorem dL_law_275 : decode cL_law 275 = .ok (.lload 5, 2) := by decide +kernel
theorem dL_law_277 : decode cL_law 277 = .ok (.lcmp, 1) := by decide +kernel
theorem dL_law_278 : decode cL_law 278 = .ok (.ifCond .ne 15, 3) := by decide +kernel
theorem dL_law_281 : decode cL_law 281 = .ok (.aload_n 1, 1) := by decide +kernel
theorem dL_law_282 : decode cL_law 282 = .ok (.sipush 255, 3) := by decide +kernel
theorem dL_law_285 : decode cL_law 285 = .ok (.invokevirtual 33, 3) := by decide +kernel
theorem dL_law_288 : decode cL_law 288 = .ok (.iload 7, 2) := by decide +kernel
theorem dL_law_290 : decode cL_law 290 = .ok (.if_icmp .eq 5, 3) := by decide +kernel
theorem dL_law_293 : decode cL_law 293 = .ok (.iconst 0, 1) := by decide +kernel
theorem dL_law_294 : decode cL_law 294 = .ok (.ireturn, 1) := by decide +kernel
theorem dL_law_295 : decode cL_law 295 = .ok (.aload_n 1, 1) := by decide +kernel
theorem dL_law_296 : decode cL_law 296 = .ok (.iload 4, 2) := by decide +kernel
theorem dL_law_298 : decode cL_law 298 = .ok (.iconst 3, 1) := by decide +kernel
theorem dL_law_299 : decode cL_law 299 = .ok (.ishr, 1) := by decide +kernel
theorem dL_law_300 : decode cL_law 300 = .ok (.sipush 200, 3) := by decide +kernel
theorem dL_law_303 : decode cL_law 303 = .ok (.invokestatic 75, 3) := by decide +kernel
theorem dL_law_306 : decode cL_law 306 = .ok (.bipush 100, 2) := by decide +kernel
theorem dL_law_308 : decode cL_law 308 = .ok (.isub, 1) := by decide +kernel
theorem dL_law_309 : decode cL_law 309 = .ok (.iload 4, 2) := by decide +kernel
theorem dL_law_311 : decode cL_law 311 = .ok (.bipush 8, 2) := by decide +kernel
theorem dL_law_313 : decode cL_law 313 = .ok (.ishr, 1) := by decide +kernel
theorem dL_law_314 : decode cL_law 314 = .ok (.sipush 200, 3) := by decide +kernel
theorem dL_law_317 : decode cL_law 317 = .ok (.invokestatic 75, 3) := by decide +kernel
theorem dL_law_320 : decode cL_law 320 = .ok (.bipush 100, 2) := by decide +kernel
theorem dL_law_322 : decode cL_law 322 = .ok (.isub, 1) := by decide +kernel
theorem dL_law_323 : decode cL_law 323 = .ok (.iload 4, 2) := by decide +kernel
theorem dL_law_325 : decode cL_law 325 = .ok (.bipush 12, 2) := by decide +kernel
theorem dL_law_327 : decode cL_law 327 = .ok (.ishr, 1) := by decide +kernel
theorem dL_law_328 : decode cL_law 328 = .ok (.sipush 800, 3) := by decide +kernel
theorem dL_law_331 : decode cL_law 331 = .ok (.invokestatic 75, 3) := by decide +kernel
theorem dL_law_334 : decode cL_law 334 = .ok (.sipush 400, 3) := by decide +kernel
theorem dL_law_337 : decode cL_law 337 = .ok (.isub, 1) := by decide +kernel
theorem dL_law_338 : decode cL_law 338 = .ok (.invokestatic 124, 3) := by decide +kernel
theorem dL_law_341 : decode cL_law 341 = .ok (.ifCond .ne 5, 3) := by decide +kernel
theorem dL_law_344 : decode cL_law 344 = .ok (.iconst 0, 1) := by decide +kernel
theorem dL_law_345 : decode cL_law 345 = .ok (.ireturn, 1) := by decide +kernel
theorem dL_law_346 : decode cL_law 346 = .ok (.iload 4, 2) := by decide +kernel
theorem dL_law_348 : decode cL_law 348 = .ok (.iconst 1, 1) := by decide +kernel
theorem dL_law_349 : decode cL_law 349 = .ok (.iand, 1) := by decide +kernel
theorem dL_law_350 : decode cL_law 350 = .ok (.ifCond .ne 12, 3) := by decide +kernel
theorem dL_law_353 : decode cL_law 353 = .ok (.aload_n 1, 1) := by decide +kernel
theorem dL_law_354 : decode cL_law 354 = .ok (.invokestatic 128, 3) := by decide +kernel
theorem dL_law_357 : decode cL_law 357 = .ok (.ifCond .ne 5, 3) := by decide +kernel
theorem dL_law_360 : decode cL_law 360 = .ok (.iconst 0, 1) := by decide +kernel
theorem dL_law_361 : decode cL_law 361 = .ok (.ireturn, 1) := by decide +kernel
theorem dL_law_362 : decode cL_law 362 = .ok (.iinc 3 1, 3) := by decide +kernel
theorem dL_law_365 : decode cL_law 365 = .ok (.goto (-188), 3) := by decide +kernel
theorem dL_law_368 : decode cL_law 368 = .ok (.iload_n 2, 1) := by decide +kernel
theorem dL_law_369 : decode cL_law 369 = .ok (.iconst 4, 1) := by decide +kernel
theorem dL_law_370 : decode cL_law 370 = .ok (.ishr, 1) := by decide +kernel
theorem dL_law_371 : decode cL_law 371 = .ok (.aload_n 1, 1) := by decide +kernel
theorem dL_law_372 : decode cL_law 372 = .ok (.invokevirtual 20, 3) := by decide +kernel
theorem dL_law_375 : decode cL_law 375 = .ok (.invokestatic 75, 3) := by decide +kernel
theorem dL_law_378 : decode cL_law 378 = .ok (.istore_n 3, 1) := by decide +kernel
theorem dL_law_379 : decode cL_law 379 = .ok (.iload_n 2, 1) := by decide +kernel
theorem dL_law_380 : decode cL_law 380 = .ok (.bipush 8, 2) := by decide +kernel
theorem dL_law_382 : decode cL_law 382 = .ok (.ishr, 1) := by decide +kernel
theorem dL_law_383 : decode cL_law 383 = .ok (.aload_n 1, 1) := by decide +kernel
theorem dL_law_384 : decode cL_law 384 = .ok (.invokevirtual 20, 3) := by decide +kernel
theorem dL_law_387 : decode cL_law 387 = .ok (.invokestatic 75, 3) := by decide +kernel
theorem dL_law_390 : decode cL_law 390 = .ok (.istore 4, 2) := by decide +kernel
theorem dL_law_392 : decode cL_law 392 = .ok (.iload_n 2, 1) := by decide +kernel
theorem dL_law_393 : decode cL_law 393 = .ok (.bipush 12, 2) := by decide +kernel
theorem dL_law_395 : decode cL_law 395 = .ok (.ishr, 1) := by decide +kernel
theorem dL_law_396 : decode cL_law 396 = .ok (.aload_n 1, 1) := by decide +kernel
theorem dL_law_397 : decode cL_law 397 = .ok (.invokevirtual 20, 3) := by decide +kernel
theorem dL_law_400 : decode cL_law 400 = .ok (.invokestatic 75, 3) := by decide +kernel
theorem dL_law_403 : decode cL_law 403 = .ok (.istore 5, 2) := by decide +kernel
theorem dL_law_405 : decode cL_law 405 = .ok (.aload_n 1, 1) := by decide +kernel
theorem dL_law_406 : decode cL_law 406 = .ok (.iload_n 3, 1) := by decide +kernel
theorem dL_law_407 : decode cL_law 407 = .ok (.iload 4, 2) := by decide +kernel
theorem dL_law_409 : decode cL_law 409 = .ok (.iload 5, 2) := by decide +kernel
theorem dL_law_411 : decode cL_law 411 = .ok (.invokevirtual 132, 3) := by decide +kernel
theorem dL_law_414 : decode cL_law 414 = .ok (.aload_n 1, 1) := by decide +kernel
theorem dL_law_415 : decode cL_law 415 = .ok (.iload 4, 2) := by decide +kernel
theorem dL_law_417 : decode cL_law 417 = .ok (.iload_n 3, 1) := by decide +kernel
theorem dL_law_418 : decode cL_law 418 = .ok (.iload 5, 2) := by decide +kernel
theorem dL_law_420 : decode cL_law 420 = .ok (.invokevirtual 132, 3) := by decide +kernel
theorem dL_law_423 : decode cL_law 423 = .ok (.ineg, 1) := by decide +kernel
theorem dL_law_424 : decode cL_law 424 = .ok (.if_icmp .ne 35, 3) := by decide +kernel
theorem dL_law_427 : decode cL_law 427 = .ok (.aload_n 1, 1) := by decide +kernel
theorem dL_law_428 : decode cL_law 428 = .ok (.iload_n 3, 1) := by decide +kernel
theorem dL_law_429 : decode cL_law 429 = .ok (.iload 4, 2) := by decide +kernel
theorem dL_law_431 : decode cL_law 431 = .ok (.iload 5, 2) := by decide +kernel
theorem dL_law_433 : decode cL_law 433 = .ok (.invokevirtual 132, 3) := by decide +kernel
theorem dL_law_436 : decode cL_law 436 = .ok (.aload_n 1, 1) := by decide +kernel
theorem dL_law_437 : decode cL_law 437 = .ok (.iload 4, 2) := by decide +kernel
theorem dL_law_439 : decode cL_law 439 = .ok (.iload 5, 2) := by decide +kernel
theorem dL_law_441 : decode cL_law 441 = .ok (.iload_n 3, 1) := by decide +kernel
theorem dL_law_442 : decode cL_law 442 = .ok (.invokevirtual 132, 3) := by decide +kernel
theorem dL_law_445 : decode cL_law 445 = .ok (.if_icmp .ne 14, 3) := by decide +kernel
theorem dL_law_448 : decode cL_law 448 = .ok (.aload_n 1, 1) := by decide +kernel
theorem dL_law_449 : decode cL_law 449 = .ok (.iload_n 3, 1) := by decide +kernel
theorem dL_law_450 : decode cL_law 450 = .ok (.iload_n 3, 1) := by decide +kernel
theorem dL_law_451 : decode cL_law 451 = .ok (.iload 5, 2) := by decide +kernel
theorem dL_law_453 : decode cL_law 453 = .ok (.invokevirtual 132, 3) := by decide +kernel
theorem dL_law_456 : decode cL_law 456 = .ok (.ifCond .eq 5, 3) := by decide +kernel
theorem dL_law_459 : decode cL_law 459 = .ok (.iconst 0, 1) := by decide +kernel
theorem dL_law_460 : decode cL_law 460 = .ok (.ireturn, 1) := by decide +kernel
theorem dL_law_461 : decode cL_law 461 = .ok (.iconst 1, 1) := by decide +kernel
theorem dL_law_462 : decode cL_law 462 = .ok (.iload_n 2, 1) := by decide +kernel
theorem dL_law_463 : decode cL_law 463 = .ok (.bipush 16, 2) := by decide +kernel
theorem dL_law_465 : decode cL_law 465 = .ok (.ishr, 1) := by decide +kernel
theorem dL_law_466 : decode cL_law 466 = .ok (.iconst 4, 1) := by decide +kernel
theorem dL_law_467 : decode cL_law 467 = .ok (.invokestatic 75, 3) := by decide +kernel
theorem dL_law_470 : decode cL_law 470 = .ok (.iadd, 1) := by decide +kernel
theorem dL_law_471 : decode cL_law 471 = .ok (.istore 6, 2) := by decide +kernel
theorem dL_law_473 : decode cL_law 473 = .ok (.aload_n 1, 1) := by decide +kernel
theorem dL_law_474 : decode cL_law 474 = .ok (.invokevirtual 116, 3) := by decide +kernel
theorem dL_law_477 : decode cL_law 477 = .ok (.lstore 7, 2) := by decide +kernel
theorem dL_law_479 : decode cL_law 479 = .ok (.aload_n 1, 1) := by decide +kernel
theorem dL_law_480 : decode cL_law 480 = .ok (.iload 6, 2) := by decide +kernel
theorem dL_law_482 : decode cL_law 482 = .ok (.invokevirtual 135, 3) := by decide +kernel
theorem dL_law_485 : decode cL_law 485 = .ok (.istore 9, 2) := by decide +kernel
theorem dL_law_487 : decode cL_law 487 = .ok (.aload_n 1, 1) := by decide +kernel
theorem dL_law_488 : decode cL_law 488 = .ok (.invokevirtual 116, 3) := by decide +kernel
theorem dL_law_491 : decode cL_law 491 = .ok (.lstore 10, 2) := by decide +kernel
theorem dL_law_493 : decode cL_law 493 = .ok (.aload_n 1, 1) := by decide +kernel
theorem dL_law_494 : decode cL_law 494 = .ok (.invokevirtual 109, 3) := by decide +kernel
theorem dL_law_497 : decode cL_law 497 = .ok (.ifCond .lt 13, 3) := by decide +kernel
theorem dL_law_500 : decode cL_law 500 = .ok (.aload_n 1, 1) := by decide +kernel
theorem dL_law_501 : decode cL_law 501 = .ok (.invokevirtual 116, 3) := by decide +kernel
theorem dL_law_504 : decode cL_law 504 = .ok (.lload 7, 2) := by decide +kernel
theorem dL_law_506 : decode cL_law 506 = .ok (.lcmp, 1) := by decide +kernel
theorem dL_law_507 : decode cL_law 507 = .ok (.ifCond .eq 5, 3) := by decide +kernel
theorem dL_law_510 : decode cL_law 510 = .ok (.iconst 0, 1) := by decide +kernel
theorem dL_law_511 : decode cL_law 511 = .ok (.ireturn, 1) := by decide +kernel
theorem dL_law_512 : decode cL_law 512 = .ok (.iconst 0, 1) := by decide +kernel
theorem dL_law_513 : decode cL_law 513 = .ok (.istore 12, 2) := by decide +kernel
theorem dL_law_515 : decode cL_law 515 = .ok (.iconst 0, 1) := by decide +kernel
theorem dL_law_516 : decode cL_law 516 = .ok (.istore 13, 2) := by decide +kernel
theorem dL_law_518 : decode cL_law 518 = .ok (.iload 13, 2) := by decide +kernel
theorem dL_law_520 : decode cL_law 520 = .ok (.iload 6, 2) := by decide +kernel
theorem dL_law_522 : decode cL_law 522 = .ok (.if_icmp .ge 28, 3) := by decide +kernel
theorem dL_law_525 : decode cL_law 525 = .ok (.iload 12, 2) := by decide +kernel
theorem dL_law_527 : decode cL_law 527 = .ok (.aload_n 1, 1) := by decide +kernel
theorem dL_law_528 : decode cL_law 528 = .ok (.invokevirtual 59, 3) := by decide +kernel
theorem dL_law_531 : decode cL_law 531 = .ok (.ldc 19, 2) := by decide +kernel
theorem dL_law_533 : decode cL_law 533 = .ok (.if_icmp .ne 7, 3) := by decide +kernel
theorem dL_law_536 : decode cL_law 536 = .ok (.iconst 0, 1) := by decide +kernel
theorem dL_law_537 : decode cL_law 537 = .ok (.goto 4, 3) := by decide +kernel
theorem dL_law_540 : decode cL_law 540 = .ok (.iconst 1, 1) := by decide +kernel
theorem dL_law_541 : decode cL_law 541 = .ok (.iadd, 1) := by decide +kernel
theorem dL_law_542 : decode cL_law 542 = .ok (.istore 12, 2) := by decide +kernel
theorem dL_law_544 : decode cL_law 544 = .ok (.iinc 13 1, 3) := by decide +kernel
theorem dL_law_547 : decode cL_law 547 = .ok (.goto (-29), 3) := by decide +kernel
theorem dL_law_550 : decode cL_law 550 = .ok (.iload 12, 2) := by decide +kernel
theorem dL_law_552 : decode cL_law 552 = .ok (.iload 9, 2) := by decide +kernel
theorem dL_law_554 : decode cL_law 554 = .ok (.if_icmp .ne 102, 3) := by decide +kernel
theorem dL_law_557 : decode cL_law 557 = .ok (.aload_n 1, 1) := by decide +kernel
theorem dL_law_558 : decode cL_law 558 = .ok (.invokevirtual 116, 3) := by decide +kernel
theorem dL_law_561 : decode cL_law 561 = .ok (.lload 10, 2) := by decide +kernel
theorem dL_law_563 : decode cL_law 563 = .ok (.lcmp, 1) := by decide +kernel
theorem dL_law_564 : decode cL_law 564 = .ok (.ifCond .ne 92, 3) := by decide +kernel
theorem dL_law_567 : decode cL_law 567 = .ok (.aload_n 1, 1) := by decide +kernel
theorem dL_law_568 : decode cL_law 568 = .ok (.bipush 21, 2) := by decide +kernel
theorem dL_law_570 : decode cL_law 570 = .ok (.invokevirtual 135, 3) := by decide +kernel
theorem dL_law_573 : decode cL_law 573 = .ok (.ldc 138, 2) := by decide +kernel
theorem dL_law_575 : decode cL_law 575 = .ok (.if_icmp .ne 81, 3) := by decide +kernel
theorem dL_law_578 : decode cL_law 578 = .ok (.aload_n 1, 1) := by decide +kernel
theorem dL_law_579 : decode cL_law 579 = .ok (.iconst 0, 1) := by decide +kernel
theorem dL_law_580 : decode cL_law 580 = .ok (.iconst 0, 1) := by decide +kernel
theorem dL_law_581 : decode cL_law 581 = .ok (.iconst 0, 1) := by decide +kernel
theorem dL_law_582 : decode cL_law 582 = .ok (.iconst 1, 1) := by decide +kernel
theorem dL_law_583 : decode cL_law 583 = .ok (.iconst 2, 1) := by decide +kernel
theorem dL_law_584 : decode cL_law 584 = .ok (.iconst 1, 1) := by decide +kernel
theorem dL_law_585 : decode cL_law 585 = .ok (.invokevirtual 78, 3) := by decide +kernel
theorem dL_law_588 : decode cL_law 588 = .ok (.ldc 139, 2) := by decide +kernel
theorem dL_law_590 : decode cL_law 590 = .ok (.if_icmp .ne 66, 3) := by decide +kernel
theorem dL_law_593 : decode cL_law 593 = .ok (.aload_n 1, 1) := by decide +kernel
theorem dL_law_594 : decode cL_law 594 = .ok (.ldc 140, 2) := by decide +kernel
theorem dL_law_596 : decode cL_law 596 = .ok (.iconst 0, 1) := by decide +kernel
theorem dL_law_597 : decode cL_law 597 = .ok (.iconst 0, 1) := by decide +kernel
theorem dL_law_598 : decode cL_law 598 = .ok (.invokevirtual 8, 3) := by decide +kernel
theorem dL_law_601 : decode cL_law 601 = .ok (.ldc 138, 2) := by decide +kernel
theorem dL_law_603 : decode cL_law 603 = .ok (.if_icmp .ne 53, 3) := by decide +kernel
theorem dL_law_606 : decode cL_law 606 = .ok (.aload_n 1, 1) := by decide +kernel
theorem dL_law_607 : decode cL_law 607 = .ok (.iconst 0, 1) := by decide +kernel
theorem dL_law_608 : decode cL_law 608 = .ok (.iconst 0, 1) := by decide +kernel
theorem dL_law_609 : decode cL_law 609 = .ok (.iconst 0, 1) := by decide +kernel
theorem dL_law_610 : decode cL_law 610 = .ok (.bipush 8, 2) := by decide +kernel
theorem dL_law_612 : decode cL_law 612 = .ok (.invokevirtual 24, 3) := by decide +kernel
theorem dL_law_615 : decode cL_law 615 = .ok (.ldc 139, 2) := by decide +kernel
theorem dL_law_617 : decode cL_law 617 = .ok (.if_icmp .ne 39, 3) := by decide +kernel
theorem dL_law_620 : decode cL_law 620 = .ok (.aload_n 1, 1) := by decide +kernel
theorem dL_law_621 : decode cL_law 621 = .ok (.iconst 0, 1) := by decide +kernel
theorem dL_law_622 : decode cL_law 622 = .ok (.iconst 3, 1) := by decide +kernel
theorem dL_law_623 : decode cL_law 623 = .ok (.invokevirtual 43, 3) := by decide +kernel
theorem dL_law_626 : decode cL_law 626 = .ok (.ldc 139, 2) := by decide +kernel
theorem dL_law_628 : decode cL_law 628 = .ok (.if_icmp .ne 28, 3) := by decide +kernel
theorem dL_law_631 : decode cL_law 631 = .ok (.aload_n 1, 1) := by decide +kernel
theorem dL_law_632 : decode cL_law 632 = .ok (.iconst 3, 1) := by decide +kernel
theorem dL_law_633 : decode cL_law 633 = .ok (.iconst 0, 1) := by decide +kernel
theorem dL_law_634 : decode cL_law 634 = .ok (.invokevirtual 43, 3) := by decide +kernel
theorem dL_law_637 : decode cL_law 637 = .ok (.ldc 138, 2) := by decide +kernel
theorem dL_law_639 : decode cL_law 639 = .ok (.if_icmp .ne 17, 3) := by decide +kernel
theorem dL_law_642 : decode cL_law 642 = .ok (.aload_n 1, 1) := by decide +kernel
theorem dL_law_643 : decode cL_law 643 = .ok (.iconst 1, 1) := by decide +kernel
theorem dL_law_644 : decode cL_law 644 = .ok (.invokevirtual 85, 3) := by decide +kernel
theorem dL_law_647 : decode cL_law 647 = .ok (.ldc 138, 2) := by decide +kernel
theorem dL_law_649 : decode cL_law 649 = .ok (.if_icmp .ne 7, 3) := by decide +kernel
theorem dL_law_652 : decode cL_law 652 = .ok (.iconst 1, 1) := by decide +kernel
theorem dL_law_653 : decode cL_law 653 = .ok (.goto 4, 3) := by decide +kernel
theorem dL_law_656 : decode cL_law 656 = .ok (.iconst 0, 1) := by decide +kernel
theorem dL_law_657 : decode cL_law 657 = .ok (.ireturn, 1) := by decide +kernel
abbrev vwCl : List vw_C := [(RX0, TX0, 3), (RX1, TX1, 8), (RX2, TX2, 12), (RX3, TX3, 7), (RX4, TX4, 4)]
