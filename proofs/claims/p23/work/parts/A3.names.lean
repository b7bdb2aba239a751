/-! ===== BEGIN printed: names, fields, word lists, decode rows ===== -/
def RX0 : String := "Lullabygate$Gate"
def TX0 : u_T := fun k => match k with
  | 0 => ("Lullabygate$Gate", "number", "I", true)
  | 1 => ("Lullabygate$Gate", "one", "LLullabygate$Land;", true)
  | 2 => ("Lullabygate$Gate", "other", "LLullabygate$Land;", true)
  | 3 => ("Lullabygate$Gate", "from", "I", true)
  | 4 => ("Lullabygate$Gate", "hours", "I", true)
  | 5 => ("Lullabygate$Gate", "line", "Ljava/util/ArrayList;", true)
  | 6 => ("Lullabygate$Gate", "revoked", "LLullabygate$Verses;", true)
  | 7 => ("Lullabygate$Gate", "arriving", "LLullabygate$Verses;", true)
  | 8 => ("Lullabygate$Gate", "odds", "I", false)
  | _ => ("Lullabygate$Gate", "watch", "I", false)
def tyX0 : Nat → FieldType := fun k => match k with
  | 0 => .int
  | 1 => .object "Lullabygate$Land"
  | 2 => .object "Lullabygate$Land"
  | 3 => .int
  | 4 => .int
  | 5 => .object "java/util/ArrayList"
  | 6 => .object "Lullabygate$Verses"
  | 7 => .object "Lullabygate$Verses"
  | 8 => .int
  | _ => .int
abbrev wsX00 : List Cond := u_ws RX0 TX0 10
theorem nmX0 : ∀ a, a < 10 → ∀ b, b < 10 → a ≠ b → (TX0 a).2.1 ≠ (TX0 b).2.1 := by decide +kernel
theorem tyX0_ok : ∀ k, k < 10 → parseFieldDescriptor (TX0 k).2.2.1 = some (tyX0 k) := by decide +kernel
abbrev cX0_init : ByteArray := prog_2_method_1_code
def yX0_init : MethodName := ⟨RX0, "<init>", "(ILLullabygate$Land;LLullabygate$Land;II)V"⟩
abbrev cX0_isOpenAt : ByteArray := prog_2_method_2_code
def yX0_isOpenAt : MethodName := ⟨RX0, "isOpenAt", "(I)Z"⟩
abbrev cX0_dozes : ByteArray := prog_2_method_3_code
def yX0_dozes : MethodName := ⟨RX0, "dozes", "()Z"⟩
abbrev cX0_isAt : ByteArray := prog_2_method_4_code
def yX0_isAt : MethodName := ⟨RX0, "isAt", "(LLullabygate$Land;)Z"⟩
abbrev cX0_across : ByteArray := prog_2_method_5_code
def yX0_across : MethodName := ⟨RX0, "across", "(LLullabygate$Land;)LLullabygate$Land;"⟩
abbrev cX0_babiesInLine : ByteArray := prog_2_method_6_code
def yX0_babiesInLine : MethodName := ⟨RX0, "babiesInLine", "()I"⟩
abbrev cX0_babiesAreAhead : ByteArray := prog_2_method_7_code
def yX0_babiesAreAhead : MethodName := ⟨RX0, "babiesAreAhead", "()Z"⟩
abbrev cX0_timesInLine : ByteArray := prog_2_method_8_code
def yX0_timesInLine : MethodName := ⟨RX0, "timesInLine", "(LLullabygate$Sleeper;)I"⟩
def RX1 : String := "Lullabygate$Hiding"
def TX1 : u_T := fun k => match k with
  | 0 => ("Lullabygate$Hiding", "sleeper", "LLullabygate$Sleeper;", true)
  | 1 => ("Lullabygate$Hiding", "dream", "I", true)
  | _ => ("Lullabygate$Hiding", "night", "I", true)
def tyX1 : Nat → FieldType := fun k => match k with
  | 0 => .object "Lullabygate$Sleeper"
  | 1 => .int
  | _ => .int
abbrev wsX10 : List Cond := u_ws RX1 TX1 3
theorem nmX1 : ∀ a, a < 3 → ∀ b, b < 3 → a ≠ b → (TX1 a).2.1 ≠ (TX1 b).2.1 := by decide +kernel
theorem tyX1_ok : ∀ k, k < 3 → parseFieldDescriptor (TX1 k).2.2.1 = some (tyX1 k) := by decide +kernel
abbrev cX1_init : ByteArray := prog_3_method_1_code
def yX1_init : MethodName := ⟨RX1, "<init>", "(LLullabygate$Sleeper;II)V"⟩
def RX2 : String := "Lullabygate$Land"
def TX2 : u_T := fun k => match k with
  | 0 => ("Lullabygate$Land", "number", "I", true)
  | 1 => ("Lullabygate$Land", "rate", "I", false)
  | 2 => ("Lullabygate$Land", "allowance", "I", false)
  | 3 => ("Lullabygate$Land", "quota", "I", false)
  | 4 => ("Lullabygate$Land", "nightmares", "I", false)
  | 5 => ("Lullabygate$Land", "duties", "I", false)
  | _ => ("Lullabygate$Land", "fines", "I", false)
def tyX2 : Nat → FieldType := fun k => match k with
  | 0 => .int
  | 1 => .int
  | 2 => .int
  | 3 => .int
  | 4 => .int
  | 5 => .int
  | _ => .int
abbrev wsX20 : List Cond := u_ws RX2 TX2 7
theorem nmX2 : ∀ a, a < 7 → ∀ b, b < 7 → a ≠ b → (TX2 a).2.1 ≠ (TX2 b).2.1 := by decide +kernel
theorem tyX2_ok : ∀ k, k < 7 → parseFieldDescriptor (TX2 k).2.2.1 = some (tyX2 k) := by decide +kernel
abbrev cX2_init : ByteArray := prog_4_method_1_code
def yX2_init : MethodName := ⟨RX2, "<init>", "(I)V"⟩
abbrev cX2_dutyOn : ByteArray := prog_4_method_2_code
def yX2_dutyOn : MethodName := ⟨RX2, "dutyOn", "(I)I"⟩
def RX3 : String := "Lullabygate$Part"
def TX3 : u_T := fun k => match k with
  | 0 => ("Lullabygate$Part", "number", "I", true)
  | 1 => ("Lullabygate$Part", "dream", "I", true)
  | 2 => ("Lullabygate$Part", "worth", "I", true)
  | 3 => ("Lullabygate$Part", "dread", "I", true)
  | 4 => ("Lullabygate$Part", "fate", "I", false)
  | 5 => ("Lullabygate$Part", "head", "LLullabygate$Sleeper;", false)
  | 6 => ("Lullabygate$Part", "store", "LLullabygate$Land;", false)
  | _ => ("Lullabygate$Part", "bringer", "LLullabygate$Sleeper;", false)
def tyX3 : Nat → FieldType := fun k => match k with
  | 0 => .int
  | 1 => .int
  | 2 => .int
  | 3 => .int
  | 4 => .int
  | 5 => .object "Lullabygate$Sleeper"
  | 6 => .object "Lullabygate$Land"
  | _ => .object "Lullabygate$Sleeper"
abbrev wsX30 : List Cond := u_ws RX3 TX3 8
theorem nmX3 : ∀ a, a < 8 → ∀ b, b < 8 → a ≠ b → (TX3 a).2.1 ≠ (TX3 b).2.1 := by decide +kernel
theorem tyX3_ok : ∀ k, k < 8 → parseFieldDescriptor (TX3 k).2.2.1 = some (tyX3 k) := by decide +kernel
abbrev cX3_init : ByteArray := prog_5_method_1_code
def yX3_init : MethodName := ⟨RX3, "<init>", "(ILLullabygate$Sleeper;III)V"⟩
abbrev cX3_isNightmare : ByteArray := prog_5_method_2_code
def yX3_isNightmare : MethodName := ⟨RX3, "isNightmare", "()Z"⟩
abbrev cX3_isIn : ByteArray := prog_5_method_3_code
def yX3_isIn : MethodName := ⟨RX3, "isIn", "(I)Z"⟩
abbrev cX3_isHidden : ByteArray := prog_5_method_4_code
def yX3_isHidden : MethodName := ⟨RX3, "isHidden", "()Z"⟩
abbrev cX3_whereabouts : ByteArray := prog_5_method_5_code
def yX3_whereabouts : MethodName := ⟨RX3, "whereabouts", "()LLullabygate$Land;"⟩
abbrev cX3_putInStore : ByteArray := prog_5_method_6_code
def yX3_putInStore : MethodName := ⟨RX3, "putInStore", "(LLullabygate$Land;I)V"⟩
def RX4 : String := "Lullabygate$Pass"
def TX4 : u_T := fun k => match k with
  | 0 => ("Lullabygate$Pass", "gate", "LLullabygate$Gate;", true)
  | 1 => ("Lullabygate$Pass", "night", "I", true)
  | _ => ("Lullabygate$Pass", "verse", "I", true)
def tyX4 : Nat → FieldType := fun k => match k with
  | 0 => .object "Lullabygate$Gate"
  | 1 => .int
  | _ => .int
abbrev wsX40 : List Cond := u_ws RX4 TX4 3
theorem nmX4 : ∀ a, a < 3 → ∀ b, b < 3 → a ≠ b → (TX4 a).2.1 ≠ (TX4 b).2.1 := by decide +kernel
theorem tyX4_ok : ∀ k, k < 3 → parseFieldDescriptor (TX4 k).2.2.1 = some (tyX4 k) := by decide +kernel
abbrev cX4_init : ByteArray := prog_6_method_1_code
def yX4_init : MethodName := ⟨RX4, "<init>", "(LLullabygate$Gate;II)V"⟩
def RX5 : String := "Lullabygate$Row"
def TX5 : u_T := fun k => match k with
  | 0 => ("Lullabygate$Row", "drawn", "I", false)
  | _ => ("Lullabygate$Row", "next", "I", false)
def tyX5 : Nat → FieldType := fun k => match k with
  | 0 => .int
  | _ => .int
abbrev wsX50 : List Cond := u_ws RX5 TX5 2
theorem nmX5 : ∀ a, a < 2 → ∀ b, b < 2 → a ≠ b → (TX5 a).2.1 ≠ (TX5 b).2.1 := by decide +kernel
theorem tyX5_ok : ∀ k, k < 2 → parseFieldDescriptor (TX5 k).2.2.1 = some (tyX5 k) := by decide +kernel
abbrev cX5_init : ByteArray := prog_7_method_1_code
def yX5_init : MethodName := ⟨RX5, "<init>", "()V"⟩
abbrev cX5_draw : ByteArray := prog_7_method_2_code
def yX5_draw : MethodName := ⟨RX5, "draw", "()I"⟩
def RX6 : String := "Lullabygate$Sleeper"
def TX6 : u_T := fun k => match k with
  | 0 => ("Lullabygate$Sleeper", "number", "I", true)
  | 1 => ("Lullabygate$Sleeper", "isBaby", "Z", true)
  | 2 => ("Lullabygate$Sleeper", "land", "LLullabygate$Land;", false)
  | 3 => ("Lullabygate$Sleeper", "patience", "I", false)
  | 4 => ("Lullabygate$Sleeper", "state", "I", false)
  | 5 => ("Lullabygate$Sleeper", "gate", "LLullabygate$Gate;", false)
  | 6 => ("Lullabygate$Sleeper", "declares", "I", false)
  | 7 => ("Lullabygate$Sleeper", "pass", "LLullabygate$Pass;", false)
  | _ => ("Lullabygate$Sleeper", "links", "I", false)
def tyX6 : Nat → FieldType := fun k => match k with
  | 0 => .int
  | 1 => .boolean
  | 2 => .object "Lullabygate$Land"
  | 3 => .int
  | 4 => .int
  | 5 => .object "Lullabygate$Gate"
  | 6 => .int
  | 7 => .object "Lullabygate$Pass"
  | _ => .int
abbrev wsX60 : List Cond := u_ws RX6 TX6 9
theorem nmX6 : ∀ a, a < 9 → ∀ b, b < 9 → a ≠ b → (TX6 a).2.1 ≠ (TX6 b).2.1 := by decide +kernel
theorem tyX6_ok : ∀ k, k < 9 → parseFieldDescriptor (TX6 k).2.2.1 = some (tyX6 k) := by decide +kernel
abbrev cX6_init : ByteArray := prog_8_method_1_code
def yX6_init : MethodName := ⟨RX6, "<init>", "(ILLullabygate$Land;ZI)V"⟩
abbrev cX6_standAt : ByteArray := prog_8_method_2_code
def yX6_standAt : MethodName := ⟨RX6, "standAt", "(LLullabygate$Gate;I)V"⟩
abbrev cX6_stepOut : ByteArray := prog_8_method_3_code
def yX6_stepOut : MethodName := ⟨RX6, "stepOut", "(I)V"⟩
def RX7 : String := "Lullabygate$Verses"
def TX7 : u_T := fun k => match k with
  | 0 => ("Lullabygate$Verses", "low", "J", false)
  | _ => ("Lullabygate$Verses", "high", "J", false)
def tyX7 : Nat → FieldType := fun k => match k with
  | 0 => .long
  | _ => .long
abbrev wsX70 : List Cond := u_ws RX7 TX7 2
theorem nmX7 : ∀ a, a < 2 → ∀ b, b < 2 → a ≠ b → (TX7 a).2.1 ≠ (TX7 b).2.1 := by decide +kernel
theorem tyX7_ok : ∀ k, k < 2 → parseFieldDescriptor (TX7 k).2.2.1 = some (tyX7 k) := by decide +kernel
abbrev cX7_init : ByteArray := prog_9_method_1_code
def yX7_init : MethodName := ⟨RX7, "<init>", "()V"⟩
abbrev cX7_has : ByteArray := prog_9_method_2_code
def yX7_has : MethodName := ⟨RX7, "has", "(I)Z"⟩
abbrev cX7_put : ByteArray := prog_9_method_3_code
def yX7_put : MethodName := ⟨RX7, "put", "(I)V"⟩
abbrev cX7_putAll : ByteArray := prog_9_method_4_code
def yX7_putAll : MethodName := ⟨RX7, "putAll", "(LLullabygate$Verses;)V"⟩
abbrev cX7_size : ByteArray := prog_9_method_5_code
def yX7_size : MethodName := ⟨RX7, "size", "()I"⟩
def RX8 : String := "Lullabygate"
def TX8 : u_T := fun k => match k with
  | 0 => ("Lullabygate", "lands", "[LLullabygate$Land;", true)
  | 1 => ("Lullabygate", "gates", "Ljava/util/ArrayList;", true)
  | 2 => ("Lullabygate", "sleepers", "Ljava/util/ArrayList;", true)
  | 3 => ("Lullabygate", "parts", "Ljava/util/ArrayList;", true)
  | 4 => ("Lullabygate", "hidings", "Ljava/util/ArrayList;", true)
  | 5 => ("Lullabygate", "row", "LLullabygate$Row;", true)
  | 6 => ("Lullabygate", "mostCaught", "[[I", true)
  | 7 => ("Lullabygate", "arrivals", "[I", true)
  | 8 => ("Lullabygate", "night", "I", false)
  | 9 => ("Lullabygate", "hour", "I", false)
  | _ => ("Lullabygate", "yawns", "I", false)
def tyX8 : Nat → FieldType := fun k => match k with
  | 0 => .array (.object "Lullabygate$Land")
  | 1 => .object "java/util/ArrayList"
  | 2 => .object "java/util/ArrayList"
  | 3 => .object "java/util/ArrayList"
  | 4 => .object "java/util/ArrayList"
  | 5 => .object "Lullabygate$Row"
  | 6 => .array (.array .int)
  | 7 => .array .int
  | 8 => .int
  | 9 => .int
  | _ => .int
abbrev wsX80 : List Cond := u_ws RX8 TX8 11
theorem nmX8 : ∀ a, a < 11 → ∀ b, b < 11 → a ≠ b → (TX8 a).2.1 ≠ (TX8 b).2.1 := by decide +kernel
theorem tyX8_ok : ∀ k, k < 11 → parseFieldDescriptor (TX8 k).2.2.1 = some (tyX8 k) := by decide +kernel
abbrev cX8_init : ByteArray := prog_1_method_1_code
def yX8_init : MethodName := ⟨RX8, "<init>", "()V"⟩
abbrev cX8_land : ByteArray := prog_1_method_2_code
def yX8_land : MethodName := ⟨RX8, "land", "(III)I"⟩
abbrev cX8_trade : ByteArray := prog_1_method_3_code
def yX8_trade : MethodName := ⟨RX8, "trade", "(III)I"⟩
abbrev cX8_gate : ByteArray := prog_1_method_4_code
def yX8_gate : MethodName := ⟨RX8, "gate", "(IIII)I"⟩
abbrev cX8_odds : ByteArray := prog_1_method_5_code
def yX8_odds : MethodName := ⟨RX8, "odds", "(II)I"⟩
abbrev cX8_relieve : ByteArray := prog_1_method_6_code
def yX8_relieve : MethodName := ⟨RX8, "relieve", "(I)I"⟩
abbrev cX8_sleeper : ByteArray := prog_1_method_7_code
def yX8_sleeper : MethodName := ⟨RX8, "sleeper", "(IZI)I"⟩
abbrev cX8_part : ByteArray := prog_1_method_8_code
def yX8_part : MethodName := ⟨RX8, "part", "(IIII)I"⟩
abbrev cX8_give : ByteArray := prog_1_method_9_code
def yX8_give : MethodName := ⟨RX8, "give", "(II)I"⟩
abbrev cX8_sing : ByteArray := prog_1_method_10_code
def yX8_sing : MethodName := ⟨RX8, "sing", "(IIII)I"⟩
abbrev cX8_revoke : ByteArray := prog_1_method_11_code
def yX8_revoke : MethodName := ⟨RX8, "revoke", "(II)Z"⟩
abbrev cX8_join : ByteArray := prog_1_method_12_code
def yX8_join : MethodName := ⟨RX8, "join", "(III)I"⟩
abbrev cX8_leave : ByteArray := prog_1_method_13_code
def yX8_leave : MethodName := ⟨RX8, "leave", "(I)I"⟩
abbrev cX8_yawn : ByteArray := prog_1_method_14_code
def yX8_yawn : MethodName := ⟨RX8, "yawn", "(I)I"⟩
abbrev cX8_appeal : ByteArray := prog_1_method_15_code
def yX8_appeal : MethodName := ⟨RX8, "appeal", "(I)Z"⟩
abbrev cX8_pass : ByteArray := prog_1_method_16_code
def yX8_pass : MethodName := ⟨RX8, "pass", "(I)I"⟩
abbrev cX8_ofLand : ByteArray := prog_1_method_17_code
def yX8_ofLand : MethodName := ⟨RX8, "ofLand", "(II)I"⟩
abbrev cX8_ofGate : ByteArray := prog_1_method_18_code
def yX8_ofGate : MethodName := ⟨RX8, "ofGate", "(II)I"⟩
abbrev cX8_ofSleeper : ByteArray := prog_1_method_19_code
def yX8_ofSleeper : MethodName := ⟨RX8, "ofSleeper", "(II)I"⟩
abbrev cX8_ofPart : ByteArray := prog_1_method_20_code
def yX8_ofPart : MethodName := ⟨RX8, "ofPart", "(II)I"⟩
abbrev cX8_isGood : ByteArray := prog_1_method_21_code
def yX8_isGood : MethodName := ⟨RX8, "isGood", "(II)Z"⟩
abbrev cX8_queue : ByteArray := prog_1_method_22_code
def yX8_queue : MethodName := ⟨RX8, "queue", "(I)Ljava/lang/String;"⟩
abbrev cX8_night : ByteArray := prog_1_method_23_code
def yX8_night : MethodName := ⟨RX8, "night", "(I)I"⟩
abbrev cX8_way : ByteArray := prog_1_method_24_code
def yX8_way : MethodName := ⟨RX8, "way", "(II)I"⟩
abbrev cX8_plan : ByteArray := prog_1_method_25_code
def yX8_plan : MethodName := ⟨RX8, "plan", "(II)I"⟩
abbrev cX8_wouldPay : ByteArray := prog_1_method_26_code
def yX8_wouldPay : MethodName := ⟨RX8, "wouldPay", "(I)I"⟩
abbrev cX8_isSound : ByteArray := prog_1_method_27_code
def yX8_isSound : MethodName := ⟨RX8, "isSound", "()Z"⟩
abbrev cX8_digest : ByteArray := prog_1_method_28_code
def yX8_digest : MethodName := ⟨RX8, "digest", "()J"⟩
abbrev cX8_landNumbered : ByteArray := prog_1_method_29_code
def yX8_landNumbered : MethodName := ⟨RX8, "landNumbered", "(I)LLullabygate$Land;"⟩
abbrev cX8_gateNumbered : ByteArray := prog_1_method_30_code
def yX8_gateNumbered : MethodName := ⟨RX8, "gateNumbered", "(I)LLullabygate$Gate;"⟩
abbrev cX8_sleeperNumbered : ByteArray := prog_1_method_31_code
def yX8_sleeperNumbered : MethodName := ⟨RX8, "sleeperNumbered", "(I)LLullabygate$Sleeper;"⟩
abbrev cX8_partNumbered : ByteArray := prog_1_method_32_code
def yX8_partNumbered : MethodName := ⟨RX8, "partNumbered", "(I)LLullabygate$Part;"⟩
abbrev cX8_demandRange : ByteArray := prog_1_method_33_code
def yX8_demandRange : MethodName := ⟨RX8, "demandRange", "(III)V"⟩
abbrev cX8_rightVerse : ByteArray := prog_1_method_34_code
def yX8_rightVerse : MethodName := ⟨RX8, "rightVerse", "(LLullabygate$Sleeper;LLullabygate$Gate;I)I"⟩
abbrev cX8_passIsGood : ByteArray := prog_1_method_35_code
def yX8_passIsGood : MethodName := ⟨RX8, "passIsGood", "(LLullabygate$Sleeper;LLullabygate$Gate;)Z"⟩
abbrev cX8_comeThrough : ByteArray := prog_1_method_36_code
def yX8_comeThrough : MethodName := ⟨RX8, "comeThrough", "(LLullabygate$Sleeper;LLullabygate$Gate;)I"⟩
abbrev cX8_bringHidden : ByteArray := prog_1_method_37_code
def yX8_bringHidden : MethodName := ⟨RX8, "bringHidden", "(LLullabygate$Sleeper;LLullabygate$Land;Z)I"⟩
abbrev cX8_bringDeclared : ByteArray := prog_1_method_38_code
def yX8_bringDeclared : MethodName := ⟨RX8, "bringDeclared", "(LLullabygate$Sleeper;LLullabygate$Land;)V"⟩
abbrev cX8_partsThatComeIn : ByteArray := prog_1_method_39_code
def yX8_partsThatComeIn : MethodName := ⟨RX8, "partsThatComeIn", "(LLullabygate$Sleeper;LLullabygate$Land;)I"⟩
abbrev cX8_worthOf : ByteArray := prog_1_method_40_code
def yX8_worthOf : MethodName := ⟨RX8, "worthOf", "(I)I"⟩
abbrev cX8_tireThoseWhoStand : ByteArray := prog_1_method_41_code
def yX8_tireThoseWhoStand : MethodName := ⟨RX8, "tireThoseWhoStand", "(LLullabygate$Gate;)V"⟩
abbrev cX8_wake : ByteArray := prog_1_method_42_code
def yX8_wake : MethodName := ⟨RX8, "wake", "(LLullabygate$Sleeper;)V"⟩
abbrev cX8_beginHour : ByteArray := prog_1_method_43_code
def yX8_beginHour : MethodName := ⟨RX8, "beginHour", "()V"⟩
abbrev cX8_beginNight : ByteArray := prog_1_method_44_code
def yX8_beginNight : MethodName := ⟨RX8, "beginNight", "()V"⟩
abbrev cX8_spreadRevoked : ByteArray := prog_1_method_45_code
def yX8_spreadRevoked : MethodName := ⟨RX8, "spreadRevoked", "()V"⟩
abbrev cX8_keepHiding : ByteArray := prog_1_method_46_code
def yX8_keepHiding : MethodName := ⟨RX8, "keepHiding", "(LLullabygate$Sleeper;I)V"⟩
abbrev cX8_ringOf : ByteArray := prog_1_method_47_code
def yX8_ringOf : MethodName := ⟨RX8, "ringOf", "(LLullabygate$Sleeper;)I"⟩
abbrev cX8_linksOf : ByteArray := prog_1_method_48_code
def yX8_linksOf : MethodName := ⟨RX8, "linksOf", "(I)I"⟩
abbrev cX8_hidingsOf : ByteArray := prog_1_method_49_code
def yX8_hidingsOf : MethodName := ⟨RX8, "hidingsOf", "(LLullabygate$Sleeper;)I"⟩
abbrev cX8_partsInStore : ByteArray := prog_1_method_50_code
def yX8_partsInStore : MethodName := ⟨RX8, "partsInStore", "(LLullabygate$Land;)I"⟩
abbrev cX8_sleepersIn : ByteArray := prog_1_method_51_code
def yX8_sleepersIn : MethodName := ⟨RX8, "sleepersIn", "(LLullabygate$Land;)I"⟩
abbrev cX8_wholeDreams : ByteArray := prog_1_method_52_code
def yX8_wholeDreams : MethodName := ⟨RX8, "wholeDreams", "(LLullabygate$Land;)I"⟩
abbrev cX8_headOf : ByteArray := prog_1_method_53_code
def yX8_headOf : MethodName := ⟨RX8, "headOf", "(LLullabygate$Sleeper;)I"⟩
abbrev cX8_hiddenWorth : ByteArray := prog_1_method_54_code
def yX8_hiddenWorth : MethodName := ⟨RX8, "hiddenWorth", "(LLullabygate$Gate;)I"⟩
abbrev cX8_placeOf : ByteArray := prog_1_method_55_code
def yX8_placeOf : MethodName := ⟨RX8, "placeOf", "(LLullabygate$Sleeper;)I"⟩
abbrev cX8_awakeOnes : ByteArray := prog_1_method_56_code
def yX8_awakeOnes : MethodName := ⟨RX8, "awakeOnes", "()I"⟩
abbrev cX8_partsOfFate : ByteArray := prog_1_method_57_code
def yX8_partsOfFate : MethodName := ⟨RX8, "partsOfFate", "(I)I"⟩
abbrev cX8_goneParts : ByteArray := prog_1_method_58_code
def yX8_goneParts : MethodName := ⟨RX8, "goneParts", "()I"⟩
abbrev cX8_dutiesOfAll : ByteArray := prog_1_method_59_code
def yX8_dutiesOfAll : MethodName := ⟨RX8, "dutiesOfAll", "()I"⟩
abbrev cX8_finesOfAll : ByteArray := prog_1_method_60_code
def yX8_finesOfAll : MethodName := ⟨RX8, "finesOfAll", "()I"⟩
abbrev cX8_quotasOfAll : ByteArray := prog_1_method_61_code
def yX8_quotasOfAll : MethodName := ⟨RX8, "quotasOfAll", "()I"⟩
abbrev cX8_sleeperIsSound : ByteArray := prog_1_method_62_code
def yX8_sleeperIsSound : MethodName := ⟨RX8, "sleeperIsSound", "(LLullabygate$Sleeper;)Z"⟩
abbrev cX8_findArrivals : ByteArray := prog_1_method_63_code
def yX8_findArrivals : MethodName := ⟨RX8, "findArrivals", "(LLullabygate$Land;)V"⟩
abbrev cX8_cross : ByteArray := prog_1_method_64_code
def yX8_cross : MethodName := ⟨RX8, "cross", "(III)V"⟩
abbrev cX8_findMostCaught : ByteArray := prog_1_method_65_code
def yX8_findMostCaught : MethodName := ⟨RX8, "findMostCaught", "()V"⟩
abbrev cX8_mostCaughtFrom : ByteArray := prog_1_method_66_code
def yX8_mostCaughtFrom : MethodName := ⟨RX8, "mostCaughtFrom", "(III)I"⟩
abbrev cX8_catchOf : ByteArray := prog_1_method_67_code
def yX8_catchOf : MethodName := ⟨RX8, "catchOf", "(II)I"⟩
abbrev cX8_leastSum : ByteArray := prog_1_method_68_code
def yX8_leastSum : MethodName := ⟨RX8, "leastSum", "(I)I"⟩
abbrev cX8_plannedOdds : ByteArray := prog_1_method_69_code
def yX8_plannedOdds : MethodName := ⟨RX8, "plannedOdds", "(III)I"⟩
abbrev cX8_leastOdds : ByteArray := prog_1_method_70_code
def yX8_leastOdds : MethodName := ⟨RX8, "leastOdds", "(IIII)I"⟩
def RX9 : String := "LullabygateLaw$Out"
def TX9 : u_T := fun k => match k with
  | 0 => ("LullabygateLaw$Out", "n", "J", false)
  | _ => ("LullabygateLaw$Out", "s", "Ljava/lang/String;", false)
def tyX9 : Nat → FieldType := fun k => match k with
  | 0 => .long
  | _ => .object "java/lang/String"
abbrev wsX90 : List Cond := u_ws RX9 TX9 2
theorem nmX9 : ∀ a, a < 2 → ∀ b, b < 2 → a ≠ b → (TX9 a).2.1 ≠ (TX9 b).2.1 := by decide +kernel
theorem tyX9_ok : ∀ k, k < 2 → parseFieldDescriptor (TX9 k).2.2.1 = some (tyX9 k) := by decide +kernel
abbrev cX9_init : ByteArray := prog_11_method_1_code
def yX9_init : MethodName := ⟨RX9, "<init>", "()V"⟩
def RX10 : String := "LullabygateModel$Gate"
def TX10 : u_T := fun k => match k with
  | 0 => ("LullabygateModel$Gate", "one", "I", false)
  | 1 => ("LullabygateModel$Gate", "other", "I", false)
  | 2 => ("LullabygateModel$Gate", "from", "I", false)
  | 3 => ("LullabygateModel$Gate", "hours", "I", false)
  | 4 => ("LullabygateModel$Gate", "odds", "I", false)
  | 5 => ("LullabygateModel$Gate", "watch", "I", false)
  | 6 => ("LullabygateModel$Gate", "queue", "Ljava/util/ArrayList;", true)
  | _ => ("LullabygateModel$Gate", "isRevoked", "[Z", true)
def tyX10 : Nat → FieldType := fun k => match k with
  | 0 => .int
  | 1 => .int
  | 2 => .int
  | 3 => .int
  | 4 => .int
  | 5 => .int
  | 6 => .object "java/util/ArrayList"
  | _ => .array .boolean
abbrev wsX100 : List Cond := u_ws RX10 TX10 8
theorem nmX10 : ∀ a, a < 8 → ∀ b, b < 8 → a ≠ b → (TX10 a).2.1 ≠ (TX10 b).2.1 := by decide +kernel
theorem tyX10_ok : ∀ k, k < 8 → parseFieldDescriptor (TX10 k).2.2.1 = some (tyX10 k) := by decide +kernel
abbrev cX10_init : ByteArray := prog_13_method_1_code
def yX10_init : MethodName := ⟨RX10, "<init>", "()V"⟩
abbrev cX10_isOpen : ByteArray := prog_13_method_2_code
def yX10_isOpen : MethodName := ⟨RX10, "isOpen", "(I)Z"⟩
abbrev cX10_dozes : ByteArray := prog_13_method_3_code
def yX10_dozes : MethodName := ⟨RX10, "dozes", "()Z"⟩
abbrev cX10_has : ByteArray := prog_13_method_4_code
def yX10_has : MethodName := ⟨RX10, "has", "(I)Z"⟩
abbrev cX10_beyond : ByteArray := prog_13_method_5_code
def yX10_beyond : MethodName := ⟨RX10, "beyond", "(I)I"⟩
abbrev cX10_place : ByteArray := prog_13_method_6_code
def yX10_place : MethodName := ⟨RX10, "place", "(I)I"⟩
def RX11 : String := "LullabygateModel$Land"
def TX11 : u_T := fun k => match k with
  | 0 => ("LullabygateModel$Land", "rate", "I", false)
  | 1 => ("LullabygateModel$Land", "allowance", "I", false)
  | 2 => ("LullabygateModel$Land", "quota", "I", false)
  | 3 => ("LullabygateModel$Land", "came", "I", false)
  | 4 => ("LullabygateModel$Land", "duties", "I", false)
  | _ => ("LullabygateModel$Land", "fines", "I", false)
def tyX11 : Nat → FieldType := fun k => match k with
  | 0 => .int
  | 1 => .int
  | 2 => .int
  | 3 => .int
  | 4 => .int
  | _ => .int
abbrev wsX110 : List Cond := u_ws RX11 TX11 6
theorem nmX11 : ∀ a, a < 6 → ∀ b, b < 6 → a ≠ b → (TX11 a).2.1 ≠ (TX11 b).2.1 := by decide +kernel
theorem tyX11_ok : ∀ k, k < 6 → parseFieldDescriptor (TX11 k).2.2.1 = some (tyX11 k) := by decide +kernel
abbrev cX11_init : ByteArray := prog_14_method_1_code
def yX11_init : MethodName := ⟨RX11, "<init>", "()V"⟩
def RX12 : String := "LullabygateModel$Part"
def TX12 : u_T := fun k => match k with
  | 0 => ("LullabygateModel$Part", "dream", "I", false)
  | 1 => ("LullabygateModel$Part", "worth", "I", false)
  | 2 => ("LullabygateModel$Part", "dread", "I", false)
  | 3 => ("LullabygateModel$Part", "fate", "I", false)
  | 4 => ("LullabygateModel$Part", "at", "I", false)
  | _ => ("LullabygateModel$Part", "brought", "I", false)
def tyX12 : Nat → FieldType := fun k => match k with
  | 0 => .int
  | 1 => .int
  | 2 => .int
  | 3 => .int
  | 4 => .int
  | _ => .int
abbrev wsX120 : List Cond := u_ws RX12 TX12 6
theorem nmX12 : ∀ a, a < 6 → ∀ b, b < 6 → a ≠ b → (TX12 a).2.1 ≠ (TX12 b).2.1 := by decide +kernel
theorem tyX12_ok : ∀ k, k < 6 → parseFieldDescriptor (TX12 k).2.2.1 = some (tyX12 k) := by decide +kernel
abbrev cX12_init : ByteArray := prog_15_method_1_code
def yX12_init : MethodName := ⟨RX12, "<init>", "()V"⟩
abbrev cX12_isNightmare : ByteArray := prog_15_method_2_code
def yX12_isNightmare : MethodName := ⟨RX12, "isNightmare", "()Z"⟩
def RX13 : String := "LullabygateModel$Sleeper"
def TX13 : u_T := fun k => match k with
  | 0 => ("LullabygateModel$Sleeper", "land", "I", false)
  | 1 => ("LullabygateModel$Sleeper", "isBaby", "Z", false)
  | 2 => ("LullabygateModel$Sleeper", "patience", "I", false)
  | 3 => ("LullabygateModel$Sleeper", "state", "I", false)
  | 4 => ("LullabygateModel$Sleeper", "gate", "I", false)
  | 5 => ("LullabygateModel$Sleeper", "declares", "I", false)
  | 6 => ("LullabygateModel$Sleeper", "passGate", "I", false)
  | 7 => ("LullabygateModel$Sleeper", "passNight", "I", false)
  | _ => ("LullabygateModel$Sleeper", "verse", "I", false)
def tyX13 : Nat → FieldType := fun k => match k with
  | 0 => .int
  | 1 => .boolean
  | 2 => .int
  | 3 => .int
  | 4 => .int
  | 5 => .int
  | 6 => .int
  | 7 => .int
  | _ => .int
abbrev wsX130 : List Cond := u_ws RX13 TX13 9
theorem nmX13 : ∀ a, a < 9 → ∀ b, b < 9 → a ≠ b → (TX13 a).2.1 ≠ (TX13 b).2.1 := by decide +kernel
theorem tyX13_ok : ∀ k, k < 9 → parseFieldDescriptor (TX13 k).2.2.1 = some (tyX13 k) := by decide +kernel
abbrev cX13_init : ByteArray := prog_16_method_1_code
def yX13_init : MethodName := ⟨RX13, "<init>", "()V"⟩
def RX14 : String := "LullabygateModel"
def TX14 : u_T := fun k => match k with
  | 0 => ("LullabygateModel", "thrown", "I", false)
  | 1 => ("LullabygateModel", "night", "I", false)
  | 2 => ("LullabygateModel", "hour", "I", false)
  | 3 => ("LullabygateModel", "next", "I", false)
  | 4 => ("LullabygateModel", "drawn", "I", false)
  | 5 => ("LullabygateModel", "yawns", "I", false)
  | 6 => ("LullabygateModel", "lands", "[LLullabygateModel$Land;", true)
  | 7 => ("LullabygateModel", "gates", "Ljava/util/ArrayList;", true)
  | 8 => ("LullabygateModel", "sleepers", "Ljava/util/ArrayList;", true)
  | 9 => ("LullabygateModel", "parts", "Ljava/util/ArrayList;", true)
  | 10 => ("LullabygateModel", "hidings", "Ljava/util/ArrayList;", true)
  | 11 => ("LullabygateModel", "isMore", "[Z", true)
  | _ => ("LullabygateModel", "sum", "J", false)
def tyX14 : Nat → FieldType := fun k => match k with
  | 0 => .int
  | 1 => .int
  | 2 => .int
  | 3 => .int
  | 4 => .int
  | 5 => .int
  | 6 => .array (.object "LullabygateModel$Land")
  | 7 => .object "java/util/ArrayList"
  | 8 => .object "java/util/ArrayList"
  | 9 => .object "java/util/ArrayList"
  | 10 => .object "java/util/ArrayList"
  | 11 => .array .boolean
  | _ => .long
abbrev wsX140 : List Cond := u_ws RX14 TX14 13
theorem nmX14 : ∀ a, a < 13 → ∀ b, b < 13 → a ≠ b → (TX14 a).2.1 ≠ (TX14 b).2.1 := by decide +kernel
theorem tyX14_ok : ∀ k, k < 13 → parseFieldDescriptor (TX14 k).2.2.1 = some (tyX14 k) := by decide +kernel
abbrev cX14_init : ByteArray := prog_12_method_1_code
def yX14_init : MethodName := ⟨RX14, "<init>", "()V"⟩
abbrev cX14_thrown : ByteArray := prog_12_method_2_code
def yX14_thrown : MethodName := ⟨RX14, "thrown", "()I"⟩
abbrev cX14_refuse : ByteArray := prog_12_method_3_code
def yX14_refuse : MethodName := ⟨RX14, "refuse", "(I)I"⟩
abbrev cX14_is : ByteArray := prog_12_method_4_code
def yX14_is : MethodName := ⟨RX14, "is", "(III)Z"⟩
abbrev cX14_isLand : ByteArray := prog_12_method_5_code
def yX14_isLand : MethodName := ⟨RX14, "isLand", "(I)Z"⟩
abbrev cX14_isGate : ByteArray := prog_12_method_6_code
def yX14_isGate : MethodName := ⟨RX14, "isGate", "(I)Z"⟩
abbrev cX14_isSleeper : ByteArray := prog_12_method_7_code
def yX14_isSleeper : MethodName := ⟨RX14, "isSleeper", "(I)Z"⟩
abbrev cX14_isPart : ByteArray := prog_12_method_8_code
def yX14_isPart : MethodName := ⟨RX14, "isPart", "(I)Z"⟩
abbrev cX14_land : ByteArray := prog_12_method_9_code
def yX14_land : MethodName := ⟨RX14, "land", "(III)I"⟩
abbrev cX14_trade : ByteArray := prog_12_method_10_code
def yX14_trade : MethodName := ⟨RX14, "trade", "(III)I"⟩
abbrev cX14_gate : ByteArray := prog_12_method_11_code
def yX14_gate : MethodName := ⟨RX14, "gate", "(IIII)I"⟩
abbrev cX14_odds : ByteArray := prog_12_method_12_code
def yX14_odds : MethodName := ⟨RX14, "odds", "(II)I"⟩
abbrev cX14_relieve : ByteArray := prog_12_method_13_code
def yX14_relieve : MethodName := ⟨RX14, "relieve", "(I)I"⟩
abbrev cX14_sleeper : ByteArray := prog_12_method_14_code
def yX14_sleeper : MethodName := ⟨RX14, "sleeper", "(IZI)I"⟩
abbrev cX14_part : ByteArray := prog_12_method_15_code
def yX14_part : MethodName := ⟨RX14, "part", "(IIII)I"⟩
abbrev cX14_give : ByteArray := prog_12_method_16_code
def yX14_give : MethodName := ⟨RX14, "give", "(II)I"⟩
abbrev cX14_right : ByteArray := prog_12_method_17_code
def yX14_right : MethodName := ⟨RX14, "right", "(III)I"⟩
abbrev cX14_sing : ByteArray := prog_12_method_18_code
def yX14_sing : MethodName := ⟨RX14, "sing", "(IIII)I"⟩
abbrev cX14_revoke : ByteArray := prog_12_method_19_code
def yX14_revoke : MethodName := ⟨RX14, "revoke", "(II)Z"⟩
abbrev cX14_head : ByteArray := prog_12_method_20_code
def yX14_head : MethodName := ⟨RX14, "head", "(I)I"⟩
abbrev cX14_join : ByteArray := prog_12_method_21_code
def yX14_join : MethodName := ⟨RX14, "join", "(III)I"⟩
abbrev cX14_stepOut : ByteArray := prog_12_method_22_code
def yX14_stepOut : MethodName := ⟨RX14, "stepOut", "(II)V"⟩
abbrev cX14_leave : ByteArray := prog_12_method_23_code
def yX14_leave : MethodName := ⟨RX14, "leave", "(I)I"⟩
abbrev cX14_isGoodNow : ByteArray := prog_12_method_24_code
def yX14_isGoodNow : MethodName := ⟨RX14, "isGoodNow", "(II)Z"⟩
abbrev cX14_comeIn : ByteArray := prog_12_method_25_code
def yX14_comeIn : MethodName := ⟨RX14, "comeIn", "(IIZ)I"⟩
abbrev cX14_duty : ByteArray := prog_12_method_26_code
def yX14_duty : MethodName := ⟨RX14, "duty", "(ILLullabygateModel$Land;)I"⟩
abbrev cX14_comeThrough : ByteArray := prog_12_method_27_code
def yX14_comeThrough : MethodName := ⟨RX14, "comeThrough", "(ILLullabygateModel$Gate;)I"⟩
abbrev cX14_hide : ByteArray := prog_12_method_28_code
def yX14_hide : MethodName := ⟨RX14, "hide", "(II)V"⟩
abbrev cX14_yawn : ByteArray := prog_12_method_29_code
def yX14_yawn : MethodName := ⟨RX14, "yawn", "(I)I"⟩
abbrev cX14_appeal : ByteArray := prog_12_method_30_code
def yX14_appeal : MethodName := ⟨RX14, "appeal", "(I)Z"⟩
abbrev cX14_pass : ByteArray := prog_12_method_31_code
def yX14_pass : MethodName := ⟨RX14, "pass", "(I)I"⟩
abbrev cX14_begin : ByteArray := prog_12_method_32_code
def yX14_begin : MethodName := ⟨RX14, "begin", "()V"⟩
abbrev cX14_landOf : ByteArray := prog_12_method_33_code
def yX14_landOf : MethodName := ⟨RX14, "landOf", "(LLullabygateModel$Part;)I"⟩
abbrev cX14_wholes : ByteArray := prog_12_method_34_code
def yX14_wholes : MethodName := ⟨RX14, "wholes", "(I)I"⟩
abbrev cX14_ofLandNow : ByteArray := prog_12_method_35_code
def yX14_ofLandNow : MethodName := ⟨RX14, "ofLandNow", "(II)I"⟩
abbrev cX14_ofLand : ByteArray := prog_12_method_36_code
def yX14_ofLand : MethodName := ⟨RX14, "ofLand", "(II)I"⟩
abbrev cX14_hiddenWorth : ByteArray := prog_12_method_37_code
def yX14_hiddenWorth : MethodName := ⟨RX14, "hiddenWorth", "(LLullabygateModel$Gate;)I"⟩
abbrev cX14_ofGateNow : ByteArray := prog_12_method_38_code
def yX14_ofGateNow : MethodName := ⟨RX14, "ofGateNow", "(II)I"⟩
abbrev cX14_ofGate : ByteArray := prog_12_method_39_code
def yX14_ofGate : MethodName := ⟨RX14, "ofGate", "(II)I"⟩
abbrev cX14_ring : ByteArray := prog_12_method_40_code
def yX14_ring : MethodName := ⟨RX14, "ring", "(I)I"⟩
abbrev cX14_ofSleeperNow : ByteArray := prog_12_method_41_code
def yX14_ofSleeperNow : MethodName := ⟨RX14, "ofSleeperNow", "(II)I"⟩
abbrev cX14_ofSleeper : ByteArray := prog_12_method_42_code
def yX14_ofSleeper : MethodName := ⟨RX14, "ofSleeper", "(II)I"⟩
abbrev cX14_ofPartNow : ByteArray := prog_12_method_43_code
def yX14_ofPartNow : MethodName := ⟨RX14, "ofPartNow", "(II)I"⟩
abbrev cX14_ofPart : ByteArray := prog_12_method_44_code
def yX14_ofPart : MethodName := ⟨RX14, "ofPart", "(II)I"⟩
abbrev cX14_isGood : ByteArray := prog_12_method_45_code
def yX14_isGood : MethodName := ⟨RX14, "isGood", "(II)Z"⟩
abbrev cX14_queue : ByteArray := prog_12_method_46_code
def yX14_queue : MethodName := ⟨RX14, "queue", "(I)Ljava/lang/String;"⟩
abbrev cX14_nightNow : ByteArray := prog_12_method_47_code
def yX14_nightNow : MethodName := ⟨RX14, "nightNow", "(I)I"⟩
abbrev cX14_night : ByteArray := prog_12_method_48_code
def yX14_night : MethodName := ⟨RX14, "night", "(I)I"⟩
abbrev cX14_wayNow : ByteArray := prog_12_method_49_code
def yX14_wayNow : MethodName := ⟨RX14, "wayNow", "(II)I"⟩
abbrev cX14_way : ByteArray := prog_12_method_50_code
def yX14_way : MethodName := ⟨RX14, "way", "(II)I"⟩
abbrev cX14_catches : ByteArray := prog_12_method_51_code
def yX14_catches : MethodName := ⟨RX14, "catches", "()[I"⟩
abbrev cX14_planNow : ByteArray := prog_12_method_52_code
def yX14_planNow : MethodName := ⟨RX14, "planNow", "(II)I"⟩
abbrev cX14_plan : ByteArray := prog_12_method_53_code
def yX14_plan : MethodName := ⟨RX14, "plan", "(II)I"⟩
abbrev cX14_wouldPayNow : ByteArray := prog_12_method_54_code
def yX14_wouldPayNow : MethodName := ⟨RX14, "wouldPayNow", "(I)I"⟩
abbrev cX14_wouldPay : ByteArray := prog_12_method_55_code
def yX14_wouldPay : MethodName := ⟨RX14, "wouldPay", "(I)I"⟩
abbrev cX14_isSoundNow : ByteArray := prog_12_method_56_code
def yX14_isSoundNow : MethodName := ⟨RX14, "isSoundNow", "()Z"⟩
abbrev cX14_isSound : ByteArray := prog_12_method_57_code
def yX14_isSound : MethodName := ⟨RX14, "isSound", "()Z"⟩
abbrev cX14_add : ByteArray := prog_12_method_58_code
def yX14_add : MethodName := ⟨RX14, "add", "(J)V"⟩
abbrev cX14_digest : ByteArray := prog_12_method_59_code
def yX14_digest : MethodName := ⟨RX14, "digest", "()J"⟩
def RJx145de : String := "java/io/Serializable"
def TJx145de : u_T := fun k => match k with
  | _ => ("", "", "", false)
def tyJx145de : Nat → FieldType := fun k => match k with
  | _ => .int
abbrev wsJx145de0 : List Cond := u_ws RJx145de TJx145de 0
theorem nmJx145de : ∀ a, a < 0 → ∀ b, b < 0 → a ≠ b → (TJx145de a).2.1 ≠ (TJx145de b).2.1 := by decide +kernel
theorem tyJx145de_ok : ∀ k, k < 0 → parseFieldDescriptor (TJx145de k).2.2.1 = some (tyJx145de k) := by decide +kernel
def RJ5 : String := "java/lang/AbstractStringBuilder"
def TJ5 : u_T := fun k => match k with
  | _ => ("", "", "", false)
def tyJ5 : Nat → FieldType := fun k => match k with
  | _ => .int
abbrev wsJ50 : List Cond := u_ws RJ5 TJ5 0
theorem nmJ5 : ∀ a, a < 0 → ∀ b, b < 0 → a ≠ b → (TJ5 a).2.1 ≠ (TJ5 b).2.1 := by decide +kernel
theorem tyJ5_ok : ∀ k, k < 0 → parseFieldDescriptor (TJ5 k).2.2.1 = some (tyJ5 k) := by decide +kernel
abbrev cJ5_init_d00df : ByteArray := prog_18_method_2_code
def yJ5_init_d00df : MethodName := ⟨RJ5, "<init>", "(I)V"⟩
abbrev cJ5_length_8abf5 : ByteArray := prog_18_method_6_code
def yJ5_length_8abf5 : MethodName := ⟨RJ5, "length", "()I"⟩
abbrev cJ5_ensureCapacityInternal_d00df : ByteArray := prog_18_method_9_code
def yJ5_ensureCapacityInternal_d00df : MethodName := ⟨RJ5, "ensureCapacityInternal", "(I)V"⟩
abbrev cJ5_newCapacity_0f7a4 : ByteArray := prog_18_method_10_code
def yJ5_newCapacity_0f7a4 : MethodName := ⟨RJ5, "newCapacity", "(I)I"⟩
abbrev cJ5_inflate_da8c8 : ByteArray := prog_18_method_11_code
def yJ5_inflate_da8c8 : MethodName := ⟨RJ5, "inflate", "()V"⟩
abbrev cJ5_append_cf1ce : ByteArray := prog_18_method_22_code
def yJ5_append_cf1ce : MethodName := ⟨RJ5, "append", "(Ljava/lang/String;)Ljava/lang/AbstractStringBuilder;"⟩
abbrev cJ5_appendNull_278bc : ByteArray := prog_18_method_26_code
def yJ5_appendNull_278bc : MethodName := ⟨RJ5, "appendNull", "()Ljava/lang/AbstractStringBuilder;"⟩
abbrev cJ5_append_3fe6f : ByteArray := prog_18_method_31_code
def yJ5_append_3fe6f : MethodName := ⟨RJ5, "append", "(C)Ljava/lang/AbstractStringBuilder;"⟩
abbrev cJ5_append_c97b9 : ByteArray := prog_18_method_32_code
def yJ5_append_c97b9 : MethodName := ⟨RJ5, "append", "(I)Ljava/lang/AbstractStringBuilder;"⟩
abbrev cJ5_getValue_6d5f1 : ByteArray := prog_18_method_64_code
def yJ5_getValue_6d5f1 : MethodName := ⟨RJ5, "getValue", "()[B"⟩
abbrev cJ5_isLatin1_aae02 : ByteArray := prog_18_method_68_code
def yJ5_isLatin1_aae02 : MethodName := ⟨RJ5, "isLatin1", "()Z"⟩
abbrev cJ5_inflateIfNeededFor_a7421 : ByteArray := prog_18_method_71_code
def yJ5_inflateIfNeededFor_a7421 : MethodName := ⟨RJ5, "inflateIfNeededFor", "(Ljava/lang/String;)V"⟩
abbrev cJ5_putStringAt_47b60 : ByteArray := prog_18_method_73_code
def yJ5_putStringAt_47b60 : MethodName := ⟨RJ5, "putStringAt", "(ILjava/lang/String;)V"⟩
def RJx2cfe8 : String := "java/lang/Appendable"
def TJx2cfe8 : u_T := fun k => match k with
  | _ => ("", "", "", false)
def tyJx2cfe8 : Nat → FieldType := fun k => match k with
  | _ => .int
abbrev wsJx2cfe80 : List Cond := u_ws RJx2cfe8 TJx2cfe8 0
theorem nmJx2cfe8 : ∀ a, a < 0 → ∀ b, b < 0 → a ≠ b → (TJx2cfe8 a).2.1 ≠ (TJx2cfe8 b).2.1 := by decide +kernel
theorem tyJx2cfe8_ok : ∀ k, k < 0 → parseFieldDescriptor (TJx2cfe8 k).2.2.1 = some (tyJx2cfe8 k) := by decide +kernel
def RJx9f9b0 : String := "java/lang/CharSequence"
def TJx9f9b0 : u_T := fun k => match k with
  | _ => ("", "", "", false)
def tyJx9f9b0 : Nat → FieldType := fun k => match k with
  | _ => .int
abbrev wsJx9f9b00 : List Cond := u_ws RJx9f9b0 TJx9f9b0 0
theorem nmJx9f9b0 : ∀ a, a < 0 → ∀ b, b < 0 → a ≠ b → (TJx9f9b0 a).2.1 ≠ (TJx9f9b0 b).2.1 := by decide +kernel
theorem tyJx9f9b0_ok : ∀ k, k < 0 → parseFieldDescriptor (TJx9f9b0 k).2.2.1 = some (tyJx9f9b0 k) := by decide +kernel
def RJx8e188 : String := "java/lang/Cloneable"
def TJx8e188 : u_T := fun k => match k with
  | _ => ("", "", "", false)
def tyJx8e188 : Nat → FieldType := fun k => match k with
  | _ => .int
abbrev wsJx8e1880 : List Cond := u_ws RJx8e188 TJx8e188 0
theorem nmJx8e188 : ∀ a, a < 0 → ∀ b, b < 0 → a ≠ b → (TJx8e188 a).2.1 ≠ (TJx8e188 b).2.1 := by decide +kernel
theorem tyJx8e188_ok : ∀ k, k < 0 → parseFieldDescriptor (TJx8e188 k).2.2.1 = some (tyJx8e188 k) := by decide +kernel
def RJxb160c : String := "java/lang/Comparable"
def TJxb160c : u_T := fun k => match k with
  | _ => ("", "", "", false)
def tyJxb160c : Nat → FieldType := fun k => match k with
  | _ => .int
abbrev wsJxb160c0 : List Cond := u_ws RJxb160c TJxb160c 0
theorem nmJxb160c : ∀ a, a < 0 → ∀ b, b < 0 → a ≠ b → (TJxb160c a).2.1 ≠ (TJxb160c b).2.1 := by decide +kernel
theorem tyJxb160c_ok : ∀ k, k < 0 → parseFieldDescriptor (TJxb160c k).2.2.1 = some (tyJxb160c k) := by decide +kernel
def RJxabbfe : String := "java/lang/Integer$IntegerCache"
def TJxabbfe : u_T := fun k => match k with
  | _ => ("", "", "", false)
def tyJxabbfe : Nat → FieldType := fun k => match k with
  | _ => .int
abbrev wsJxabbfe0 : List Cond := u_ws RJxabbfe TJxabbfe 0
theorem nmJxabbfe : ∀ a, a < 0 → ∀ b, b < 0 → a ≠ b → (TJxabbfe a).2.1 ≠ (TJxabbfe b).2.1 := by decide +kernel
theorem tyJxabbfe_ok : ∀ k, k < 0 → parseFieldDescriptor (TJxabbfe k).2.2.1 = some (tyJxabbfe k) := by decide +kernel
def RJ6 : String := "java/lang/Integer"
def TJ6 : u_T := fun k => match k with
  | _ => ("java/lang/Integer", "value", "I", true)
def tyJ6 : Nat → FieldType := fun k => match k with
  | _ => .int
abbrev wsJ60 : List Cond := u_ws RJ6 TJ6 1
theorem nmJ6 : ∀ a, a < 1 → ∀ b, b < 1 → a ≠ b → (TJ6 a).2.1 ≠ (TJ6 b).2.1 := by decide +kernel
theorem tyJ6_ok : ∀ k, k < 1 → parseFieldDescriptor (TJ6 k).2.2.1 = some (tyJ6 k) := by decide +kernel
abbrev cJ6_getChars_ba4f3 : ByteArray := prog_27_method_12_code
def yJ6_getChars_ba4f3 : MethodName := ⟨RJ6, "getChars", "(II[B)I"⟩
abbrev cJ6_stringSize_0f7a4 : ByteArray := prog_27_method_13_code
def yJ6_stringSize_0f7a4 : MethodName := ⟨RJ6, "stringSize", "(I)I"⟩
abbrev cJ6_valueOf_2dffe : ByteArray := prog_27_method_22_code
def yJ6_valueOf_2dffe : MethodName := ⟨RJ6, "valueOf", "(I)Ljava/lang/Integer;"⟩
abbrev cJ6_init_d00df : ByteArray := prog_27_method_23_code
def yJ6_init_d00df : MethodName := ⟨RJ6, "<init>", "(I)V"⟩
abbrev cJ6_intValue_8abf5 : ByteArray := prog_27_method_27_code
def yJ6_intValue_8abf5 : MethodName := ⟨RJ6, "intValue", "()I"⟩
def RJxab1ab : String := "java/lang/Iterable"
def TJxab1ab : u_T := fun k => match k with
  | _ => ("", "", "", false)
def tyJxab1ab : Nat → FieldType := fun k => match k with
  | _ => .int
abbrev wsJxab1ab0 : List Cond := u_ws RJxab1ab TJxab1ab 0
theorem nmJxab1ab : ∀ a, a < 0 → ∀ b, b < 0 → a ≠ b → (TJxab1ab a).2.1 ≠ (TJxab1ab b).2.1 := by decide +kernel
theorem tyJxab1ab_ok : ∀ k, k < 0 → parseFieldDescriptor (TJxab1ab k).2.2.1 = some (tyJxab1ab k) := by decide +kernel
def RJ13 : String := "java/lang/Long"
def TJ13 : u_T := fun k => match k with
  | _ => ("", "", "", false)
def tyJ13 : Nat → FieldType := fun k => match k with
  | _ => .int
abbrev wsJ130 : List Cond := u_ws RJ13 TJ13 0
theorem nmJ13 : ∀ a, a < 0 → ∀ b, b < 0 → a ≠ b → (TJ13 a).2.1 ≠ (TJ13 b).2.1 := by decide +kernel
theorem tyJ13_ok : ∀ k, k < 0 → parseFieldDescriptor (TJ13 k).2.2.1 = some (tyJ13 k) := by decide +kernel
abbrev cJ13_bitCount_95d88 : ByteArray := prog_30_method_50_code
def yJ13_bitCount_95d88 : MethodName := ⟨RJ13, "bitCount", "(J)I"⟩
def RJ9 : String := "java/lang/Math"
def TJ9 : u_T := fun k => match k with
  | _ => ("", "", "", false)
def tyJ9 : Nat → FieldType := fun k => match k with
  | _ => .int
abbrev wsJ90 : List Cond := u_ws RJ9 TJ9 0
theorem nmJ9 : ∀ a, a < 0 → ∀ b, b < 0 → a ≠ b → (TJ9 a).2.1 ≠ (TJ9 b).2.1 := by decide +kernel
theorem tyJ9_ok : ∀ k, k < 0 → parseFieldDescriptor (TJ9 k).2.2.1 = some (tyJ9 k) := by decide +kernel
abbrev cJ9_abs_0f7a4 : ByteArray := prog_31_method_59_code
def yJ9_abs_0f7a4 : MethodName := ⟨RJ9, "abs", "(I)I"⟩
abbrev cJ9_max_7cf53 : ByteArray := prog_31_method_65_code
def yJ9_max_7cf53 : MethodName := ⟨RJ9, "max", "(II)I"⟩
abbrev cJ9_min_7cf53 : ByteArray := prog_31_method_69_code
def yJ9_min_7cf53 : MethodName := ⟨RJ9, "min", "(II)I"⟩
def RJxd2413 : String := "java/lang/Number"
def TJxd2413 : u_T := fun k => match k with
  | _ => ("", "", "", false)
def tyJxd2413 : Nat → FieldType := fun k => match k with
  | _ => .int
abbrev wsJxd24130 : List Cond := u_ws RJxd2413 TJxd2413 0
theorem nmJxd2413 : ∀ a, a < 0 → ∀ b, b < 0 → a ≠ b → (TJxd2413 a).2.1 ≠ (TJxd2413 b).2.1 := by decide +kernel
theorem tyJxd2413_ok : ∀ k, k < 0 → parseFieldDescriptor (TJxd2413 k).2.2.1 = some (tyJxd2413 k) := by decide +kernel
abbrev cJxd2413_init_da8c8 : ByteArray := prog_32_method_1_code
def yJxd2413_init_da8c8 : MethodName := ⟨RJxd2413, "<init>", "()V"⟩
def RJ0 : String := "java/lang/String"
def TJ0 : u_T := fun k => match k with
  | 0 => ("java/lang/String", "value", "[B", true)
  | 1 => ("java/lang/String", "coder", "B", true)
  | 2 => ("java/lang/String", "hash", "I", false)
  | _ => ("java/lang/String", "hashIsZero", "Z", false)
def tyJ0 : Nat → FieldType := fun k => match k with
  | 0 => .array .byte
  | 1 => .byte
  | 2 => .int
  | _ => .boolean
abbrev wsJ00 : List Cond := u_ws RJ0 TJ0 4
theorem nmJ0 : ∀ a, a < 4 → ∀ b, b < 4 → a ≠ b → (TJ0 a).2.1 ≠ (TJ0 b).2.1 := by decide +kernel
theorem tyJ0_ok : ∀ k, k < 4 → parseFieldDescriptor (TJ0 k).2.2.1 = some (tyJ0 k) := by decide +kernel
abbrev cJ0_init_81219 : ByteArray := prog_34_method_53_code
def yJ0_init_81219 : MethodName := ⟨RJ0, "<init>", "(Ljava/lang/StringBuilder;)V"⟩
abbrev cJ0_length_8abf5 : ByteArray := prog_34_method_54_code
def yJ0_length_8abf5 : MethodName := ⟨RJ0, "length", "()I"⟩
abbrev cJ0_getBytes_840e7 : ByteArray := prog_34_method_147_code
def yJ0_getBytes_840e7 : MethodName := ⟨RJ0, "getBytes", "([BIB)V"⟩
abbrev cJ0_init_db425 : ByteArray := prog_34_method_150_code
def yJ0_init_db425 : MethodName := ⟨RJ0, "<init>", "(Ljava/lang/AbstractStringBuilder;Ljava/lang/Void;)V"⟩
abbrev cJ0_coder_7d493 : ByteArray := prog_34_method_152_code
def yJ0_coder_7d493 : MethodName := ⟨RJ0, "coder", "()B"⟩
abbrev cJ0_checkIndex_df160 : ByteArray := prog_34_method_155_code
def yJ0_checkIndex_df160 : MethodName := ⟨RJ0, "checkIndex", "(II)V"⟩
abbrev cJ0_checkBoundsOffCount_cabcc : ByteArray := prog_34_method_157_code
def yJ0_checkBoundsOffCount_cabcc : MethodName := ⟨RJ0, "checkBoundsOffCount", "(III)I"⟩
abbrev cJ0_checkBoundsBeginEnd_23922 : ByteArray := prog_34_method_158_code
def yJ0_checkBoundsBeginEnd_23922 : MethodName := ⟨RJ0, "checkBoundsBeginEnd", "(III)V"⟩
def RJ4 : String := "java/lang/StringBuilder"
def TJ4 : u_T := fun k => match k with
  | 0 => ("java/lang/AbstractStringBuilder", "value", "[B", false)
  | 1 => ("java/lang/AbstractStringBuilder", "coder", "B", false)
  | 2 => ("java/lang/AbstractStringBuilder", "maybeLatin1", "Z", false)
  | _ => ("java/lang/AbstractStringBuilder", "count", "I", false)
def tyJ4 : Nat → FieldType := fun k => match k with
  | 0 => .array .byte
  | 1 => .byte
  | 2 => .boolean
  | _ => .int
abbrev wsJ40 : List Cond := u_ws RJ4 TJ4 4
theorem nmJ4 : ∀ a, a < 4 → ∀ b, b < 4 → a ≠ b → (TJ4 a).2.1 ≠ (TJ4 b).2.1 := by decide +kernel
theorem tyJ4_ok : ∀ k, k < 4 → parseFieldDescriptor (TJ4 k).2.2.1 = some (tyJ4 k) := by decide +kernel
abbrev cJ4_init_da8c8 : ByteArray := prog_35_method_1_code
def yJ4_init_da8c8 : MethodName := ⟨RJ4, "<init>", "()V"⟩
abbrev cJ4_append_15ec4 : ByteArray := prog_35_method_7_code
def yJ4_append_15ec4 : MethodName := ⟨RJ4, "append", "(Ljava/lang/String;)Ljava/lang/StringBuilder;"⟩
abbrev cJ4_append_cf468 : ByteArray := prog_35_method_14_code
def yJ4_append_cf468 : MethodName := ⟨RJ4, "append", "(C)Ljava/lang/StringBuilder;"⟩
abbrev cJ4_append_bf812 : ByteArray := prog_35_method_15_code
def yJ4_append_bf812 : MethodName := ⟨RJ4, "append", "(I)Ljava/lang/StringBuilder;"⟩
abbrev cJ4_toString_0e30d : ByteArray := prog_35_method_42_code
def yJ4_toString_0e30d : MethodName := ⟨RJ4, "toString", "()Ljava/lang/String;"⟩
abbrev cJ4_length_8abf5 : ByteArray := prog_35_method_93_code
def yJ4_length_8abf5 : MethodName := ⟨RJ4, "length", "()I"⟩
def RJ1 : String := "java/lang/StringLatin1"
def TJ1 : u_T := fun k => match k with
  | _ => ("", "", "", false)
def tyJ1 : Nat → FieldType := fun k => match k with
  | _ => .int
abbrev wsJ10 : List Cond := u_ws RJ1 TJ1 0
theorem nmJ1 : ∀ a, a < 0 → ∀ b, b < 0 → a ≠ b → (TJ1 a).2.1 ≠ (TJ1 b).2.1 := by decide +kernel
theorem tyJ1_ok : ∀ k, k < 0 → parseFieldDescriptor (TJ1 k).2.2.1 = some (tyJ1 k) := by decide +kernel
abbrev cJ1_canEncode_fc78d : ByteArray := prog_36_method_3_code
def yJ1_canEncode_fc78d : MethodName := ⟨RJ1, "canEncode", "(C)Z"⟩
abbrev cJ1_inflate_0e8fd : ByteArray := prog_36_method_50_code
def yJ1_inflate_0e8fd : MethodName := ⟨RJ1, "inflate", "([BI[BII)V"⟩
def RJ2 : String := "java/lang/StringUTF16"
def TJ2 : u_T := fun k => match k with
  | _ => ("", "", "", false)
def tyJ2 : Nat → FieldType := fun k => match k with
  | _ => .int
abbrev wsJ20 : List Cond := u_ws RJ2 TJ2 0
theorem nmJ2 : ∀ a, a < 0 → ∀ b, b < 0 → a ≠ b → (TJ2 a).2.1 ≠ (TJ2 b).2.1 := by decide +kernel
theorem tyJ2_ok : ∀ k, k < 0 → parseFieldDescriptor (TJ2 k).2.2.1 = some (tyJ2 k) := by decide +kernel
abbrev cJ2_newBytesFor_77867 : ByteArray := prog_37_method_2_code
def yJ2_newBytesFor_77867 : MethodName := ⟨RJ2, "newBytesFor", "(I)[B"⟩
abbrev cJ2_newBytesLength_0f7a4 : ByteArray := prog_37_method_3_code
def yJ2_newBytesLength_0f7a4 : MethodName := ⟨RJ2, "newBytesLength", "(I)I"⟩
abbrev cJ2_putChar_b72d1 : ByteArray := prog_37_method_4_code
def yJ2_putChar_b72d1 : MethodName := ⟨RJ2, "putChar", "([BII)V"⟩
abbrev cJ2_getChar_3b067 : ByteArray := prog_37_method_5_code
def yJ2_getChar_3b067 : MethodName := ⟨RJ2, "getChar", "([BI)C"⟩
abbrev cJ2_length_9d52b : ByteArray := prog_37_method_6_code
def yJ2_length_9d52b : MethodName := ⟨RJ2, "length", "([B)I"⟩
abbrev cJ2_coderFromArrayLen_85cad : ByteArray := prog_37_method_15_code
def yJ2_coderFromArrayLen_85cad : MethodName := ⟨RJ2, "coderFromArrayLen", "([BI)B"⟩
abbrev cJ2_compress_39247 : ByteArray := prog_37_method_17_code
def yJ2_compress_39247 : MethodName := ⟨RJ2, "compress", "([BII)[B"⟩
abbrev cJ2_compress_5af95 : ByteArray := prog_37_method_22_code
def yJ2_compress_5af95 : MethodName := ⟨RJ2, "compress", "([BI[BII)I"⟩
abbrev cJ2_putCharSB_b72d1 : ByteArray := prog_37_method_71_code
def yJ2_putCharSB_b72d1 : MethodName := ⟨RJ2, "putCharSB", "([BII)V"⟩
abbrev cJ2_getChars_46870 : ByteArray := prog_37_method_77_code
def yJ2_getChars_46870 : MethodName := ⟨RJ2, "getChars", "(III[B)I"⟩
abbrev cJ2_putCharsAt_cd4e5 : ByteArray := prog_37_method_81_code
def yJ2_putCharsAt_cd4e5 : MethodName := ⟨RJ2, "putCharsAt", "([BICCCC)I"⟩
abbrev cJ2_inflate_0e8fd : ByteArray := prog_37_method_86_code
def yJ2_inflate_0e8fd : MethodName := ⟨RJ2, "inflate", "([BI[BII)V"⟩
abbrev cJ2_getChars_ba4f3 : ByteArray := prog_37_method_89_code
def yJ2_getChars_ba4f3 : MethodName := ⟨RJ2, "getChars", "(II[B)I"⟩
abbrev cJ2_checkIndex_2214a : ByteArray := prog_37_method_91_code
def yJ2_checkIndex_2214a : MethodName := ⟨RJ2, "checkIndex", "(I[B)V"⟩
abbrev cJ2_checkBoundsBeginEnd_d044e : ByteArray := prog_37_method_93_code
def yJ2_checkBoundsBeginEnd_d044e : MethodName := ⟨RJ2, "checkBoundsBeginEnd", "(II[B)V"⟩
abbrev cJ2_checkBoundsOffCount_d044e : ByteArray := prog_37_method_94_code
def yJ2_checkBoundsOffCount_d044e : MethodName := ⟨RJ2, "checkBoundsOffCount", "(II[B)V"⟩
def RJ10 : String := "java/lang/System"
def TJ10 : u_T := fun k => match k with
  | _ => ("", "", "", false)
def tyJ10 : Nat → FieldType := fun k => match k with
  | _ => .int
abbrev wsJ100 : List Cond := u_ws RJ10 TJ10 0
theorem nmJ10 : ∀ a, a < 0 → ∀ b, b < 0 → a ≠ b → (TJ10 a).2.1 ≠ (TJ10 b).2.1 := by decide +kernel
theorem tyJ10_ok : ∀ k, k < 0 → parseFieldDescriptor (TJ10 k).2.2.1 = some (tyJ10 k) := by decide +kernel
def RJxfd54e : String := "java/lang/constant/Constable"
def TJxfd54e : u_T := fun k => match k with
  | _ => ("", "", "", false)
def tyJxfd54e : Nat → FieldType := fun k => match k with
  | _ => .int
abbrev wsJxfd54e0 : List Cond := u_ws RJxfd54e TJxfd54e 0
theorem nmJxfd54e : ∀ a, a < 0 → ∀ b, b < 0 → a ≠ b → (TJxfd54e a).2.1 ≠ (TJxfd54e b).2.1 := by decide +kernel
theorem tyJxfd54e_ok : ∀ k, k < 0 → parseFieldDescriptor (TJxfd54e k).2.2.1 = some (tyJxfd54e k) := by decide +kernel
def RJx3cf43 : String := "java/lang/constant/ConstantDesc"
def TJx3cf43 : u_T := fun k => match k with
  | _ => ("", "", "", false)
def tyJx3cf43 : Nat → FieldType := fun k => match k with
  | _ => .int
abbrev wsJx3cf430 : List Cond := u_ws RJx3cf43 TJx3cf43 0
theorem nmJx3cf43 : ∀ a, a < 0 → ∀ b, b < 0 → a ≠ b → (TJx3cf43 a).2.1 ≠ (TJx3cf43 b).2.1 := by decide +kernel
theorem tyJx3cf43_ok : ∀ k, k < 0 → parseFieldDescriptor (TJx3cf43 k).2.2.1 = some (tyJx3cf43 k) := by decide +kernel
def RJxa1e45 : String := "java/util/AbstractCollection"
def TJxa1e45 : u_T := fun k => match k with
  | _ => ("", "", "", false)
def tyJxa1e45 : Nat → FieldType := fun k => match k with
  | _ => .int
abbrev wsJxa1e450 : List Cond := u_ws RJxa1e45 TJxa1e45 0
theorem nmJxa1e45 : ∀ a, a < 0 → ∀ b, b < 0 → a ≠ b → (TJxa1e45 a).2.1 ≠ (TJxa1e45 b).2.1 := by decide +kernel
theorem tyJxa1e45_ok : ∀ k, k < 0 → parseFieldDescriptor (TJxa1e45 k).2.2.1 = some (tyJxa1e45 k) := by decide +kernel
abbrev cJxa1e45_init_da8c8 : ByteArray := prog_42_method_1_code
def yJxa1e45_init_da8c8 : MethodName := ⟨RJxa1e45, "<init>", "()V"⟩
def RJxc12de : String := "java/util/AbstractList"
def TJxc12de : u_T := fun k => match k with
  | _ => ("", "", "", false)
def tyJxc12de : Nat → FieldType := fun k => match k with
  | _ => .int
abbrev wsJxc12de0 : List Cond := u_ws RJxc12de TJxc12de 0
theorem nmJxc12de : ∀ a, a < 0 → ∀ b, b < 0 → a ≠ b → (TJxc12de a).2.1 ≠ (TJxc12de b).2.1 := by decide +kernel
theorem tyJxc12de_ok : ∀ k, k < 0 → parseFieldDescriptor (TJxc12de k).2.2.1 = some (tyJxc12de k) := by decide +kernel
abbrev cJxc12de_init_da8c8 : ByteArray := prog_43_method_1_code
def yJxc12de_init_da8c8 : MethodName := ⟨RJxc12de, "<init>", "()V"⟩
def RJx35411 : String := "java/util/ArrayList$Itr"
def TJx35411 : u_T := fun k => match k with
  | 0 => ("java/util/ArrayList$Itr", "cursor", "I", false)
  | 1 => ("java/util/ArrayList$Itr", "lastRet", "I", false)
  | 2 => ("java/util/ArrayList$Itr", "expectedModCount", "I", false)
  | _ => ("java/util/ArrayList$Itr", "this$0", "Ljava/util/ArrayList;", true)
def tyJx35411 : Nat → FieldType := fun k => match k with
  | 0 => .int
  | 1 => .int
  | 2 => .int
  | _ => .object "java/util/ArrayList"
abbrev wsJx354110 : List Cond := u_ws RJx35411 TJx35411 4
theorem nmJx35411 : ∀ a, a < 4 → ∀ b, b < 4 → a ≠ b → (TJx35411 a).2.1 ≠ (TJx35411 b).2.1 := by decide +kernel
theorem tyJx35411_ok : ∀ k, k < 4 → parseFieldDescriptor (TJx35411 k).2.2.1 = some (tyJx35411 k) := by decide +kernel
abbrev cJx35411_init_45d68 : ByteArray := prog_45_method_1_code
def yJx35411_init_45d68 : MethodName := ⟨RJx35411, "<init>", "(Ljava/util/ArrayList;)V"⟩
abbrev cJx35411_hasNext_aae02 : ByteArray := prog_45_method_2_code
def yJx35411_hasNext_aae02 : MethodName := ⟨RJx35411, "hasNext", "()Z"⟩
abbrev cJx35411_next_0502b : ByteArray := prog_45_method_3_code
def yJx35411_next_0502b : MethodName := ⟨RJx35411, "next", "()Ljava/lang/Object;"⟩
abbrev cJx35411_checkForComodification_da8c8 : ByteArray := prog_45_method_6_code
def yJx35411_checkForComodification_da8c8 : MethodName := ⟨RJx35411, "checkForComodification", "()V"⟩
def RJx4a65c : String := "java/util/ArrayList"
def TJx4a65c : u_T := fun k => match k with
  | 0 => ("java/util/AbstractList", "modCount", "I", false)
  | 1 => ("java/util/ArrayList", "elementData", "[Ljava/lang/Object;", false)
  | _ => ("java/util/ArrayList", "size", "I", false)
def tyJx4a65c : Nat → FieldType := fun k => match k with
  | 0 => .int
  | 1 => .array (.object "java/lang/Object")
  | _ => .int
abbrev wsJx4a65c0 : List Cond := u_ws RJx4a65c TJx4a65c 3
theorem nmJx4a65c : ∀ a, a < 3 → ∀ b, b < 3 → a ≠ b → (TJx4a65c a).2.1 ≠ (TJx4a65c b).2.1 := by decide +kernel
theorem tyJx4a65c_ok : ∀ k, k < 3 → parseFieldDescriptor (TJx4a65c k).2.2.1 = some (tyJx4a65c k) := by decide +kernel
abbrev cJx4a65c_init_da8c8 : ByteArray := prog_44_method_2_code
def yJx4a65c_init_da8c8 : MethodName := ⟨RJx4a65c, "<init>", "()V"⟩
abbrev cJx4a65c_grow_92f84 : ByteArray := prog_44_method_6_code
def yJx4a65c_grow_92f84 : MethodName := ⟨RJx4a65c, "grow", "(I)[Ljava/lang/Object;"⟩
abbrev cJx4a65c_grow_d5877 : ByteArray := prog_44_method_7_code
def yJx4a65c_grow_d5877 : MethodName := ⟨RJx4a65c, "grow", "()[Ljava/lang/Object;"⟩
abbrev cJx4a65c_size_8abf5 : ByteArray := prog_44_method_8_code
def yJx4a65c_size_8abf5 : MethodName := ⟨RJx4a65c, "size", "()I"⟩
abbrev cJx4a65c_isEmpty_aae02 : ByteArray := prog_44_method_9_code
def yJx4a65c_isEmpty_aae02 : MethodName := ⟨RJx4a65c, "isEmpty", "()Z"⟩
abbrev cJx4a65c_elementData_915e3 : ByteArray := prog_44_method_18_code
def yJx4a65c_elementData_915e3 : MethodName := ⟨RJx4a65c, "elementData", "(I)Ljava/lang/Object;"⟩
abbrev cJx4a65c_get_915e3 : ByteArray := prog_44_method_20_code
def yJx4a65c_get_915e3 : MethodName := ⟨RJx4a65c, "get", "(I)Ljava/lang/Object;"⟩
abbrev cJx4a65c_add_72be8 : ByteArray := prog_44_method_24_code
def yJx4a65c_add_72be8 : MethodName := ⟨RJx4a65c, "add", "(Ljava/lang/Object;[Ljava/lang/Object;I)V"⟩
abbrev cJx4a65c_add_9ea2d : ByteArray := prog_44_method_25_code
def yJx4a65c_add_9ea2d : MethodName := ⟨RJx4a65c, "add", "(Ljava/lang/Object;)Z"⟩
abbrev cJx4a65c_add_7a177 : ByteArray := prog_44_method_26_code
def yJx4a65c_add_7a177 : MethodName := ⟨RJx4a65c, "add", "(ILjava/lang/Object;)V"⟩
abbrev cJx4a65c_remove_915e3 : ByteArray := prog_44_method_29_code
def yJx4a65c_remove_915e3 : MethodName := ⟨RJx4a65c, "remove", "(I)Ljava/lang/Object;"⟩
abbrev cJx4a65c_fastRemove_b59b0 : ByteArray := prog_44_method_39_code
def yJx4a65c_fastRemove_b59b0 : MethodName := ⟨RJx4a65c, "fastRemove", "([Ljava/lang/Object;I)V"⟩
abbrev cJx4a65c_rangeCheckForAdd_d00df : ByteArray := prog_44_method_45_code
def yJx4a65c_rangeCheckForAdd_d00df : MethodName := ⟨RJx4a65c, "rangeCheckForAdd", "(I)V"⟩
abbrev cJx4a65c_outOfBoundsMsg_b52d3 : ByteArray := prog_44_method_46_code
def yJx4a65c_outOfBoundsMsg_b52d3 : MethodName := ⟨RJx4a65c, "outOfBoundsMsg", "(I)Ljava/lang/String;"⟩
abbrev cJx4a65c_iterator_32c93 : ByteArray := prog_44_method_55_code
def yJx4a65c_iterator_32c93 : MethodName := ⟨RJx4a65c, "iterator", "()Ljava/util/Iterator;"⟩
def RJ7 : String := "java/util/Arrays"
def TJ7 : u_T := fun k => match k with
  | _ => ("", "", "", false)
def tyJ7 : Nat → FieldType := fun k => match k with
  | _ => .int
abbrev wsJ70 : List Cond := u_ws RJ7 TJ7 0
theorem nmJ7 : ∀ a, a < 0 → ∀ b, b < 0 → a ≠ b → (TJ7 a).2.1 ≠ (TJ7 b).2.1 := by decide +kernel
theorem tyJ7_ok : ∀ k, k < 0 → parseFieldDescriptor (TJ7 k).2.2.1 = some (tyJ7 k) := by decide +kernel
abbrev cJ7_copyOf_1904c : ByteArray := prog_46_method_119_code
def yJ7_copyOf_1904c : MethodName := ⟨RJ7, "copyOf", "([Ljava/lang/Object;I)[Ljava/lang/Object;"⟩
abbrev cJ7_copyOf_6403c : ByteArray := prog_46_method_120_code
def yJ7_copyOf_6403c : MethodName := ⟨RJ7, "copyOf", "([Ljava/lang/Object;ILjava/lang/Class;)[Ljava/lang/Object;"⟩
abbrev cJ7_copyOf_9075b : ByteArray := prog_46_method_121_code
def yJ7_copyOf_9075b : MethodName := ⟨RJ7, "copyOf", "([BI)[B"⟩
abbrev cJ7_checkLength_df160 : ByteArray := prog_46_method_131_code
def yJ7_checkLength_df160 : MethodName := ⟨RJ7, "checkLength", "(II)V"⟩
abbrev cJ7_copyOfRange_39247 : ByteArray := prog_46_method_132_code
def yJ7_copyOfRange_39247 : MethodName := ⟨RJ7, "copyOfRange", "([BII)[B"⟩
abbrev cJ7_copyOfRangeByte_39247 : ByteArray := prog_46_method_133_code
def yJ7_copyOfRangeByte_39247 : MethodName := ⟨RJ7, "copyOfRangeByte", "([BII)[B"⟩
def RJx5ef63 : String := "java/util/Collection"
def TJx5ef63 : u_T := fun k => match k with
  | _ => ("", "", "", false)
def tyJx5ef63 : Nat → FieldType := fun k => match k with
  | _ => .int
abbrev wsJx5ef630 : List Cond := u_ws RJx5ef63 TJx5ef63 0
theorem nmJx5ef63 : ∀ a, a < 0 → ∀ b, b < 0 → a ≠ b → (TJx5ef63 a).2.1 ≠ (TJx5ef63 b).2.1 := by decide +kernel
theorem tyJx5ef63_ok : ∀ k, k < 0 → parseFieldDescriptor (TJx5ef63 k).2.2.1 = some (tyJx5ef63 k) := by decide +kernel
def RJx4d0d8 : String := "java/util/Iterator"
def TJx4d0d8 : u_T := fun k => match k with
  | _ => ("", "", "", false)
def tyJx4d0d8 : Nat → FieldType := fun k => match k with
  | _ => .int
abbrev wsJx4d0d80 : List Cond := u_ws RJx4d0d8 TJx4d0d8 0
theorem nmJx4d0d8 : ∀ a, a < 0 → ∀ b, b < 0 → a ≠ b → (TJx4d0d8 a).2.1 ≠ (TJx4d0d8 b).2.1 := by decide +kernel
theorem tyJx4d0d8_ok : ∀ k, k < 0 → parseFieldDescriptor (TJx4d0d8 k).2.2.1 = some (tyJx4d0d8 k) := by decide +kernel
def RJxbd725 : String := "java/util/List"
def TJxbd725 : u_T := fun k => match k with
  | _ => ("", "", "", false)
def tyJxbd725 : Nat → FieldType := fun k => match k with
  | _ => .int
abbrev wsJxbd7250 : List Cond := u_ws RJxbd725 TJxbd725 0
theorem nmJxbd725 : ∀ a, a < 0 → ∀ b, b < 0 → a ≠ b → (TJxbd725 a).2.1 ≠ (TJxbd725 b).2.1 := by decide +kernel
theorem tyJxbd725_ok : ∀ k, k < 0 → parseFieldDescriptor (TJxbd725 k).2.2.1 = some (tyJxbd725 k) := by decide +kernel
def RJ15 : String := "java/util/Objects"
def TJ15 : u_T := fun k => match k with
  | _ => ("", "", "", false)
def tyJ15 : Nat → FieldType := fun k => match k with
  | _ => .int
abbrev wsJ150 : List Cond := u_ws RJ15 TJ15 0
theorem nmJ15 : ∀ a, a < 0 → ∀ b, b < 0 → a ≠ b → (TJ15 a).2.1 ≠ (TJ15 b).2.1 := by decide +kernel
theorem tyJ15_ok : ∀ k, k < 0 → parseFieldDescriptor (TJ15 k).2.2.1 = some (tyJ15 k) := by decide +kernel
abbrev cJ15_checkIndex_7cf53 : ByteArray := prog_50_method_17_code
def yJ15_checkIndex_7cf53 : MethodName := ⟨RJ15, "checkIndex", "(II)I"⟩
def RJxf0a74 : String := "java/util/RandomAccess"
def TJxf0a74 : u_T := fun k => match k with
  | _ => ("", "", "", false)
def tyJxf0a74 : Nat → FieldType := fun k => match k with
  | _ => .int
abbrev wsJxf0a740 : List Cond := u_ws RJxf0a74 TJxf0a74 0
theorem nmJxf0a74 : ∀ a, a < 0 → ∀ b, b < 0 → a ≠ b → (TJxf0a74 a).2.1 ≠ (TJxf0a74 b).2.1 := by decide +kernel
theorem tyJxf0a74_ok : ∀ k, k < 0 → parseFieldDescriptor (TJxf0a74 k).2.2.1 = some (tyJxf0a74 k) := by decide +kernel
def RJxa66e6 : String := "java/util/SequencedCollection"
def TJxa66e6 : u_T := fun k => match k with
  | _ => ("", "", "", false)
def tyJxa66e6 : Nat → FieldType := fun k => match k with
  | _ => .int
abbrev wsJxa66e60 : List Cond := u_ws RJxa66e6 TJxa66e6 0
theorem nmJxa66e6 : ∀ a, a < 0 → ∀ b, b < 0 → a ≠ b → (TJxa66e6 a).2.1 ≠ (TJxa66e6 b).2.1 := by decide +kernel
theorem tyJxa66e6_ok : ∀ k, k < 0 → parseFieldDescriptor (TJxa66e6 k).2.2.1 = some (tyJxa66e6 k) := by decide +kernel
def RJ8 : String := "jdk/internal/util/ArraysSupport"
def TJ8 : u_T := fun k => match k with
  | _ => ("", "", "", false)
def tyJ8 : Nat → FieldType := fun k => match k with
  | _ => .int
abbrev wsJ80 : List Cond := u_ws RJ8 TJ8 0
theorem nmJ8 : ∀ a, a < 0 → ∀ b, b < 0 → a ≠ b → (TJ8 a).2.1 ≠ (TJ8 b).2.1 := by decide +kernel
theorem tyJ8_ok : ∀ k, k < 0 → parseFieldDescriptor (TJ8 k).2.2.1 = some (tyJ8 k) := by decide +kernel
abbrev cJ8_newLength_cabcc : ByteArray := prog_53_method_27_code
def yJ8_newLength_cabcc : MethodName := ⟨RJ8, "newLength", "(III)I"⟩
abbrev cJ8_hugeLength_7cf53 : ByteArray := prog_53_method_28_code
def yJ8_hugeLength_7cf53 : MethodName := ⟨RJ8, "hugeLength", "(II)I"⟩
def RJ3 : String := "jdk/internal/util/Preconditions"
def TJ3 : u_T := fun k => match k with
  | _ => ("", "", "", false)
def tyJ3 : Nat → FieldType := fun k => match k with
  | _ => .int
abbrev wsJ30 : List Cond := u_ws RJ3 TJ3 0
theorem nmJ3 : ∀ a, a < 0 → ∀ b, b < 0 → a ≠ b → (TJ3 a).2.1 ≠ (TJ3 b).2.1 := by decide +kernel
theorem tyJ3_ok : ∀ k, k < 0 → parseFieldDescriptor (TJ3 k).2.2.1 = some (tyJ3 k) := by decide +kernel
abbrev cJ3_checkIndex_8e157 : ByteArray := prog_54_method_11_code
def yJ3_checkIndex_8e157 : MethodName := ⟨RJ3, "checkIndex", "(IILjava/util/function/BiFunction;)I"⟩
abbrev cJ3_checkFromToIndex_8c36e : ByteArray := prog_54_method_12_code
def yJ3_checkFromToIndex_8c36e : MethodName := ⟨RJ3, "checkFromToIndex", "(IIILjava/util/function/BiFunction;)I"⟩
abbrev cJ3_checkFromIndexSize_8c36e : ByteArray := prog_54_method_13_code
def yJ3_checkFromIndexSize_8c36e : MethodName := ⟨RJ3, "checkFromIndexSize", "(IIILjava/util/function/BiFunction;)I"⟩
def RL : String := "LullabygateLaw"
abbrev cL_land : ByteArray := method_2_code
def yL_land : MethodName := ⟨RL, "land", "(LLullabygate;IIILLullabygateLaw$Out;)I"⟩
abbrev cL_trade : ByteArray := method_3_code
def yL_trade : MethodName := ⟨RL, "trade", "(LLullabygate;IIILLullabygateLaw$Out;)I"⟩
abbrev cL_gate : ByteArray := method_4_code
def yL_gate : MethodName := ⟨RL, "gate", "(LLullabygate;IIIILLullabygateLaw$Out;)I"⟩
abbrev cL_odds : ByteArray := method_5_code
def yL_odds : MethodName := ⟨RL, "odds", "(LLullabygate;IILLullabygateLaw$Out;)I"⟩
abbrev cL_relieve : ByteArray := method_6_code
def yL_relieve : MethodName := ⟨RL, "relieve", "(LLullabygate;ILLullabygateLaw$Out;)I"⟩
abbrev cL_sleeper : ByteArray := method_7_code
def yL_sleeper : MethodName := ⟨RL, "sleeper", "(LLullabygate;IZILLullabygateLaw$Out;)I"⟩
abbrev cL_part : ByteArray := method_8_code
def yL_part : MethodName := ⟨RL, "part", "(LLullabygate;IIIILLullabygateLaw$Out;)I"⟩
abbrev cL_give : ByteArray := method_9_code
def yL_give : MethodName := ⟨RL, "give", "(LLullabygate;IILLullabygateLaw$Out;)I"⟩
abbrev cL_sing : ByteArray := method_10_code
def yL_sing : MethodName := ⟨RL, "sing", "(LLullabygate;IIIILLullabygateLaw$Out;)I"⟩
abbrev cL_revoke : ByteArray := method_11_code
def yL_revoke : MethodName := ⟨RL, "revoke", "(LLullabygate;IILLullabygateLaw$Out;)I"⟩
abbrev cL_join : ByteArray := method_12_code
def yL_join : MethodName := ⟨RL, "join", "(LLullabygate;IIILLullabygateLaw$Out;)I"⟩
abbrev cL_leave : ByteArray := method_13_code
def yL_leave : MethodName := ⟨RL, "leave", "(LLullabygate;ILLullabygateLaw$Out;)I"⟩
abbrev cL_yawn : ByteArray := method_14_code
def yL_yawn : MethodName := ⟨RL, "yawn", "(LLullabygate;ILLullabygateLaw$Out;)I"⟩
abbrev cL_appeal : ByteArray := method_15_code
def yL_appeal : MethodName := ⟨RL, "appeal", "(LLullabygate;ILLullabygateLaw$Out;)I"⟩
abbrev cL_pass : ByteArray := method_16_code
def yL_pass : MethodName := ⟨RL, "pass", "(LLullabygate;ILLullabygateLaw$Out;)I"⟩
abbrev cL_ofLand : ByteArray := method_17_code
def yL_ofLand : MethodName := ⟨RL, "ofLand", "(LLullabygate;IILLullabygateLaw$Out;)I"⟩
abbrev cL_ofGate : ByteArray := method_18_code
def yL_ofGate : MethodName := ⟨RL, "ofGate", "(LLullabygate;IILLullabygateLaw$Out;)I"⟩
abbrev cL_ofSleeper : ByteArray := method_19_code
def yL_ofSleeper : MethodName := ⟨RL, "ofSleeper", "(LLullabygate;IILLullabygateLaw$Out;)I"⟩
abbrev cL_ofPart : ByteArray := method_20_code
def yL_ofPart : MethodName := ⟨RL, "ofPart", "(LLullabygate;IILLullabygateLaw$Out;)I"⟩
abbrev cL_isGood : ByteArray := method_21_code
def yL_isGood : MethodName := ⟨RL, "isGood", "(LLullabygate;IILLullabygateLaw$Out;)I"⟩
abbrev cL_queue : ByteArray := method_22_code
def yL_queue : MethodName := ⟨RL, "queue", "(LLullabygate;ILLullabygateLaw$Out;)I"⟩
abbrev cL_night : ByteArray := method_23_code
def yL_night : MethodName := ⟨RL, "night", "(LLullabygate;ILLullabygateLaw$Out;)I"⟩
abbrev cL_way : ByteArray := method_24_code
def yL_way : MethodName := ⟨RL, "way", "(LLullabygate;IILLullabygateLaw$Out;)I"⟩
abbrev cL_plan : ByteArray := method_25_code
def yL_plan : MethodName := ⟨RL, "plan", "(LLullabygate;IILLullabygateLaw$Out;)I"⟩
abbrev cL_wouldPay : ByteArray := method_26_code
def yL_wouldPay : MethodName := ⟨RL, "wouldPay", "(LLullabygate;ILLullabygateLaw$Out;)I"⟩
abbrev cL_law : ByteArray := code
def yL_law : MethodName := ⟨RL, "law", "([I)Z"⟩
abbrev vwCl : List vw_C := [(RJ0, TJ0, 4), (RJ4, TJ4, 4), (RJ6, TJ6, 1), (RJx35411, TJx35411, 4), (RJx4a65c, TJx4a65c, 3), (RX0, TX0, 10), (RX1, TX1, 3), (RX2, TX2, 7), (RX3, TX3, 8), (RX4, TX4, 3), (RX5, TX5, 2), (RX6, TX6, 9), (RX7, TX7, 2), (RX8, TX8, 11), (RX9, TX9, 2), (RX10, TX10, 8), (RX11, TX11, 6), (RX12, TX12, 6), (RX13, TX13, 9), (RX14, TX14, 13)]
