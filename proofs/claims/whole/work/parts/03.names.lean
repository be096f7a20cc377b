-- the names as printed (starting text)
def RX0 : String := "Doorledger$Audit"
def TX0 : u_T := fun k => match k with
  | 0 => ("Doorledger$Audit", "door", "I", true)
  | 1 => ("Doorledger$Audit", "key", "I", true)
  | 2 => ("Doorledger$Audit", "minute", "I", true)
  | 3 => ("Doorledger$Audit", "letter", "C", true)
  | 4 => ("Doorledger$Audit", "version", "I", true)
  | 5 => ("Doorledger$Audit", "time", "I", true)
  | 6 => ("Doorledger$Audit", "taker", "I", false)
  | _ => ("Doorledger$Audit", "arrivedAt", "I", false)
def tyX0 : Nat → FieldType := fun k => match k with
  | 0 => .int
  | 1 => .int
  | 2 => .int
  | 3 => .char
  | 4 => .int
  | 5 => .int
  | 6 => .int
  | _ => .int
abbrev wsX00 : List Cond := u_ws RX0 TX0 8
theorem nmX0 : ∀ a, a < 8 → ∀ b, b < 8 → a ≠ b → (TX0 a).2.1 ≠ (TX0 b).2.1 := by decide +kernel
theorem tyX0_ok : ∀ k, k < 8 → parseFieldDescriptor (TX0 k).2.2.1 = some (tyX0 k) := by decide +kernel
abbrev cX0_init : ByteArray := prog_2_method_1_code
def yX0_init : MethodName := ⟨RX0, "<init>", "(IIICII)V"⟩
abbrev cX0_isWaitingAt : ByteArray := prog_2_method_2_code
def yX0_isWaitingAt : MethodName := ⟨RX0, "isWaitingAt", "(I)Z"⟩
abbrev cX0_isCarriedBy : ByteArray := prog_2_method_3_code
def yX0_isCarriedBy : MethodName := ⟨RX0, "isCarriedBy", "(I)Z"⟩
abbrev cX0_isInCloud : ByteArray := prog_2_method_4_code
def yX0_isInCloud : MethodName := ⟨RX0, "isInCloud", "()Z"⟩
def RX1 : String := "Doorledger$Bits"
def TX1 : u_T := fun k => match k with
  | _ => ("", "", "", false)
def tyX1 : Nat → FieldType := fun k => match k with
  | _ => .int
abbrev wsX10 : List Cond := u_ws RX1 TX1 0
theorem nmX1 : ∀ a, a < 0 → ∀ b, b < 0 → a ≠ b → (TX1 a).2.1 ≠ (TX1 b).2.1 := by decide +kernel
theorem tyX1_ok : ∀ k, k < 0 → parseFieldDescriptor (TX1 k).2.2.1 = some (tyX1 k) := by decide +kernel
abbrev cX1_ofDouble : ByteArray := prog_3_method_2_code
def yX1_ofDouble : MethodName := ⟨RX1, "ofDouble", "(D)J"⟩
abbrev cX1_ofFloat : ByteArray := prog_3_method_3_code
def yX1_ofFloat : MethodName := ⟨RX1, "ofFloat", "(F)I"⟩
def RX2 : String := "Doorledger$Cloud"
def TX2 : u_T := fun k => match k with
  | 0 => ("Doorledger$Cloud", "changes", "Ljava/util/ArrayList;", true)
  | _ => ("Doorledger$Cloud", "keys", "I", false)
def tyX2 : Nat → FieldType := fun k => match k with
  | 0 => .object "java/util/ArrayList"
  | _ => .int
abbrev wsX20 : List Cond := u_ws RX2 TX2 2
theorem nmX2 : ∀ a, a < 2 → ∀ b, b < 2 → a ≠ b → (TX2 a).2.1 ≠ (TX2 b).2.1 := by decide +kernel
theorem tyX2_ok : ∀ k, k < 2 → parseFieldDescriptor (TX2 k).2.2.1 = some (tyX2 k) := by decide +kernel
abbrev cX2_init : ByteArray := prog_4_method_1_code
def yX2_init : MethodName := ⟨RX2, "<init>", "()V"⟩
abbrev cX2_newest : ByteArray := prog_4_method_2_code
def yX2_newest : MethodName := ⟨RX2, "newest", "()I"⟩
abbrev cX2_newestAt : ByteArray := prog_4_method_3_code
def yX2_newestAt : MethodName := ⟨RX2, "newestAt", "(I)I"⟩
abbrev cX2_keep : ByteArray := prog_4_method_4_code
def yX2_keep : MethodName := ⟨RX2, "keep", "(LDoorledger$KeyState;)I"⟩
abbrev cX2_keyIn : ByteArray := prog_4_method_5_code
def yX2_keyIn : MethodName := ⟨RX2, "keyIn", "(II)LDoorledger$KeyState;"⟩
abbrev cX2_letterIn : ByteArray := prog_4_method_6_code
def yX2_letterIn : MethodName := ⟨RX2, "letterIn", "(IIII)C"⟩
def RX3 : String := "Doorledger$Door"
def TX3 : u_T := fun k => match k with
  | 0 => ("Doorledger$Door", "firstVersion", "I", true)
  | 1 => ("Doorledger$Door", "version", "I", false)
  | 2 => ("Doorledger$Door", "rate", "F", false)
  | 3 => ("Doorledger$Door", "setAt", "I", false)
  | _ => ("Doorledger$Door", "setTo", "I", false)
def tyX3 : Nat → FieldType := fun k => match k with
  | 0 => .int
  | 1 => .int
  | 2 => .float
  | 3 => .int
  | _ => .int
abbrev wsX30 : List Cond := u_ws RX3 TX3 5
theorem nmX3 : ∀ a, a < 5 → ∀ b, b < 5 → a ≠ b → (TX3 a).2.1 ≠ (TX3 b).2.1 := by decide +kernel
theorem tyX3_ok : ∀ k, k < 5 → parseFieldDescriptor (TX3 k).2.2.1 = some (tyX3 k) := by decide +kernel
abbrev cX3_init : ByteArray := prog_5_method_1_code
def yX3_init : MethodName := ⟨RX3, "<init>", "(II)V"⟩
abbrev cX3_driftAt : ByteArray := prog_5_method_2_code
def yX3_driftAt : MethodName := ⟨RX3, "driftAt", "(I)F"⟩
abbrev cX3_minuteAt : ByteArray := prog_5_method_3_code
def yX3_minuteAt : MethodName := ⟨RX3, "minuteAt", "(I)I"⟩
abbrev cX3_setClock : ByteArray := prog_5_method_4_code
def yX3_setClock : MethodName := ⟨RX3, "setClock", "(II)V"⟩
def RX4 : String := "Doorledger$KeyState"
def TX4 : u_T := fun k => match k with
  | 0 => ("Doorledger$KeyState", "key", "I", true)
  | 1 => ("Doorledger$KeyState", "doors", "I", true)
  | 2 => ("Doorledger$KeyState", "from", "I", true)
  | 3 => ("Doorledger$KeyState", "to", "I", true)
  | 4 => ("Doorledger$KeyState", "revoked", "Z", true)
  | _ => ("Doorledger$KeyState", "madeAt", "I", true)
def tyX4 : Nat → FieldType := fun k => match k with
  | 0 => .int
  | 1 => .int
  | 2 => .int
  | 3 => .int
  | 4 => .boolean
  | _ => .int
abbrev wsX40 : List Cond := u_ws RX4 TX4 6
theorem nmX4 : ∀ a, a < 6 → ∀ b, b < 6 → a ≠ b → (TX4 a).2.1 ≠ (TX4 b).2.1 := by decide +kernel
theorem tyX4_ok : ∀ k, k < 6 → parseFieldDescriptor (TX4 k).2.2.1 = some (tyX4 k) := by decide +kernel
abbrev cX4_init : ByteArray := prog_6_method_1_code
def yX4_init : MethodName := ⟨RX4, "<init>", "(IIIIZI)V"⟩
abbrev cX4_letterAt : ByteArray := prog_6_method_2_code
def yX4_letterAt : MethodName := ⟨RX4, "letterAt", "(II)C"⟩
def RX5 : String := "Doorledger$Meeting"
def TX5 : u_T := fun k => match k with
  | 0 => ("Doorledger$Meeting", "phone", "I", true)
  | 1 => ("Doorledger$Meeting", "door", "I", true)
  | _ => ("Doorledger$Meeting", "cloudVersion", "I", true)
def tyX5 : Nat → FieldType := fun k => match k with
  | 0 => .int
  | 1 => .int
  | _ => .int
abbrev wsX50 : List Cond := u_ws RX5 TX5 3
theorem nmX5 : ∀ a, a < 3 → ∀ b, b < 3 → a ≠ b → (TX5 a).2.1 ≠ (TX5 b).2.1 := by decide +kernel
theorem tyX5_ok : ∀ k, k < 3 → parseFieldDescriptor (TX5 k).2.2.1 = some (tyX5 k) := by decide +kernel
abbrev cX5_init : ByteArray := prog_7_method_1_code
def yX5_init : MethodName := ⟨RX5, "<init>", "(III)V"⟩
def RX6 : String := "Doorledger$Meetings"
def TX6 : u_T := fun k => match k with
  | 0 => ("Doorledger$Meetings", "kept", "Ljava/util/ArrayList;", true)
  | _ => ("Doorledger$Meetings", "onPhones", "[I", true)
def tyX6 : Nat → FieldType := fun k => match k with
  | 0 => .object "java/util/ArrayList"
  | _ => .array .int
abbrev wsX60 : List Cond := u_ws RX6 TX6 2
theorem nmX6 : ∀ a, a < 2 → ∀ b, b < 2 → a ≠ b → (TX6 a).2.1 ≠ (TX6 b).2.1 := by decide +kernel
theorem tyX6_ok : ∀ k, k < 2 → parseFieldDescriptor (TX6 k).2.2.1 = some (tyX6 k) := by decide +kernel
abbrev cX6_init : ByteArray := prog_8_method_1_code
def yX6_init : MethodName := ⟨RX6, "<init>", "()V"⟩
abbrev cX6_keep : ByteArray := prog_8_method_2_code
def yX6_keep : MethodName := ⟨RX6, "keep", "(LDoorledger$Meeting;)V"⟩
abbrev cX6_replay : ByteArray := prog_8_method_3_code
def yX6_replay : MethodName := ⟨RX6, "replay", "(II)I"⟩
def RX7 : String := "Doorledger$Phone"
def TX7 : u_T := fun k => match k with
  | _ => ("Doorledger$Phone", "version", "I", false)
def tyX7 : Nat → FieldType := fun k => match k with
  | _ => .int
abbrev wsX70 : List Cond := u_ws RX7 TX7 1
theorem nmX7 : ∀ a, a < 1 → ∀ b, b < 1 → a ≠ b → (TX7 a).2.1 ≠ (TX7 b).2.1 := by decide +kernel
theorem tyX7_ok : ∀ k, k < 1 → parseFieldDescriptor (TX7 k).2.2.1 = some (tyX7 k) := by decide +kernel
abbrev cX7_init : ByteArray := prog_9_method_1_code
def yX7_init : MethodName := ⟨RX7, "<init>", "()V"⟩
def RX8 : String := "Doorledger"
def TX8 : u_T := fun k => match k with
  | 0 => ("Doorledger", "cloud", "LDoorledger$Cloud;", true)
  | 1 => ("Doorledger", "doors", "Ljava/util/ArrayList;", true)
  | 2 => ("Doorledger", "phones", "Ljava/util/ArrayList;", true)
  | 3 => ("Doorledger", "audits", "Ljava/util/ArrayList;", true)
  | 4 => ("Doorledger", "meetings", "LDoorledger$Meetings;", true)
  | _ => ("Doorledger", "now", "I", false)
def tyX8 : Nat → FieldType := fun k => match k with
  | 0 => .object "Doorledger$Cloud"
  | 1 => .object "java/util/ArrayList"
  | 2 => .object "java/util/ArrayList"
  | 3 => .object "java/util/ArrayList"
  | 4 => .object "Doorledger$Meetings"
  | _ => .int
abbrev wsX80 : List Cond := u_ws RX8 TX8 6
theorem nmX8 : ∀ a, a < 6 → ∀ b, b < 6 → a ≠ b → (TX8 a).2.1 ≠ (TX8 b).2.1 := by decide +kernel
theorem tyX8_ok : ∀ k, k < 6 → parseFieldDescriptor (TX8 k).2.2.1 = some (tyX8 k) := by decide +kernel
abbrev cX8_init : ByteArray := prog_1_method_1_code
def yX8_init : MethodName := ⟨RX8, "<init>", "()V"⟩
abbrev cX8_addKey : ByteArray := prog_1_method_2_code
def yX8_addKey : MethodName := ⟨RX8, "addKey", "(III)I"⟩
abbrev cX8_setTimes : ByteArray := prog_1_method_3_code
def yX8_setTimes : MethodName := ⟨RX8, "setTimes", "(III)I"⟩
abbrev cX8_setDoors : ByteArray := prog_1_method_4_code
def yX8_setDoors : MethodName := ⟨RX8, "setDoors", "(II)I"⟩
abbrev cX8_revoke : ByteArray := prog_1_method_5_code
def yX8_revoke : MethodName := ⟨RX8, "revoke", "(I)I"⟩
abbrev cX8_version : ByteArray := prog_1_method_6_code
def yX8_version : MethodName := ⟨RX8, "version", "()I"⟩
abbrev cX8_addDoor : ByteArray := prog_1_method_7_code
def yX8_addDoor : MethodName := ⟨RX8, "addDoor", "()I"⟩
abbrev cX8_setRate : ByteArray := prog_1_method_8_code
def yX8_setRate : MethodName := ⟨RX8, "setRate", "(II)I"⟩
abbrev cX8_addPhone : ByteArray := prog_1_method_9_code
def yX8_addPhone : MethodName := ⟨RX8, "addPhone", "()I"⟩
abbrev cX8_pass : ByteArray := prog_1_method_10_code
def yX8_pass : MethodName := ⟨RX8, "pass", "(I)I"⟩
abbrev cX8_time : ByteArray := prog_1_method_11_code
def yX8_time : MethodName := ⟨RX8, "time", "()I"⟩
abbrev cX8_meetCloud : ByteArray := prog_1_method_12_code
def yX8_meetCloud : MethodName := ⟨RX8, "meetCloud", "(I)I"⟩
abbrev cX8_meetDoor : ByteArray := prog_1_method_13_code
def yX8_meetDoor : MethodName := ⟨RX8, "meetDoor", "(II)I"⟩
abbrev cX8_open : ByteArray := prog_1_method_14_code
def yX8_open : MethodName := ⟨RX8, "open", "(II)C"⟩
abbrev cX8_answer : ByteArray := prog_1_method_15_code
def yX8_answer : MethodName := ⟨RX8, "answer", "(II)C"⟩
abbrev cX8_clock : ByteArray := prog_1_method_16_code
def yX8_clock : MethodName := ⟨RX8, "clock", "(I)I"⟩
abbrev cX8_drifted : ByteArray := prog_1_method_17_code
def yX8_drifted : MethodName := ⟨RX8, "drifted", "(I)F"⟩
abbrev cX8_driftedBits : ByteArray := prog_1_method_18_code
def yX8_driftedBits : MethodName := ⟨RX8, "driftedBits", "(I)I"⟩
abbrev cX8_versionOf : ByteArray := prog_1_method_19_code
def yX8_versionOf : MethodName := ⟨RX8, "versionOf", "(I)I"⟩
abbrev cX8_versionByReplay : ByteArray := prog_1_method_20_code
def yX8_versionByReplay : MethodName := ⟨RX8, "versionByReplay", "(I)I"⟩
abbrev cX8_versionOn : ByteArray := prog_1_method_21_code
def yX8_versionOn : MethodName := ⟨RX8, "versionOn", "(I)I"⟩
abbrev cX8_fromIn : ByteArray := prog_1_method_22_code
def yX8_fromIn : MethodName := ⟨RX8, "fromIn", "(II)I"⟩
abbrev cX8_waiting : ByteArray := prog_1_method_23_code
def yX8_waiting : MethodName := ⟨RX8, "waiting", "(I)I"⟩
abbrev cX8_carried : ByteArray := prog_1_method_24_code
def yX8_carried : MethodName := ⟨RX8, "carried", "(I)I"⟩
abbrev cX8_audits : ByteArray := prog_1_method_25_code
def yX8_audits : MethodName := ⟨RX8, "audits", "()I"⟩
abbrev cX8_letterOf : ByteArray := prog_1_method_26_code
def yX8_letterOf : MethodName := ⟨RX8, "letterOf", "(I)C"⟩
abbrev cX8_letterByList : ByteArray := prog_1_method_27_code
def yX8_letterByList : MethodName := ⟨RX8, "letterByList", "(I)C"⟩
abbrev cX8_minuteOf : ByteArray := prog_1_method_28_code
def yX8_minuteOf : MethodName := ⟨RX8, "minuteOf", "(I)I"⟩
abbrev cX8_versionAt : ByteArray := prog_1_method_29_code
def yX8_versionAt : MethodName := ⟨RX8, "versionAt", "(I)I"⟩
abbrev cX8_hasArrived : ByteArray := prog_1_method_30_code
def yX8_hasArrived : MethodName := ⟨RX8, "hasArrived", "(I)Z"⟩
abbrev cX8_isBreach : ByteArray := prog_1_method_31_code
def yX8_isBreach : MethodName := ⟨RX8, "isBreach", "(I)Z"⟩
abbrev cX8_breaches : ByteArray := prog_1_method_32_code
def yX8_breaches : MethodName := ⟨RX8, "breaches", "()I"⟩
abbrev cX8_breachesAt : ByteArray := prog_1_method_33_code
def yX8_breachesAt : MethodName := ⟨RX8, "breachesAt", "(I)I"⟩
abbrev cX8_delays : ByteArray := prog_1_method_34_code
def yX8_delays : MethodName := ⟨RX8, "delays", "()J"⟩
abbrev cX8_meanDelay : ByteArray := prog_1_method_35_code
def yX8_meanDelay : MethodName := ⟨RX8, "meanDelay", "()D"⟩
abbrev cX8_meanBits : ByteArray := prog_1_method_36_code
def yX8_meanBits : MethodName := ⟨RX8, "meanBits", "()J"⟩
abbrev cX8_arrivedShare : ByteArray := prog_1_method_37_code
def yX8_arrivedShare : MethodName := ⟨RX8, "arrivedShare", "()F"⟩
abbrev cX8_isSound : ByteArray := prog_1_method_38_code
def yX8_isSound : MethodName := ⟨RX8, "isSound", "()Z"⟩
abbrev cX8_checkDoorSet : ByteArray := prog_1_method_39_code
def yX8_checkDoorSet : MethodName := ⟨RX8, "checkDoorSet", "(I)V"⟩
abbrev cX8_checkTimes : ByteArray := prog_1_method_40_code
def yX8_checkTimes : MethodName := ⟨RX8, "checkTimes", "(II)V"⟩
abbrev cX8_checkNotRevoked : ByteArray := prog_1_method_41_code
def yX8_checkNotRevoked : MethodName := ⟨RX8, "checkNotRevoked", "(LDoorledger$KeyState;)V"⟩
abbrev cX8_checkRoomForChange : ByteArray := prog_1_method_42_code
def yX8_checkRoomForChange : MethodName := ⟨RX8, "checkRoomForChange", "()V"⟩
abbrev cX8_presentKey : ByteArray := prog_1_method_43_code
def yX8_presentKey : MethodName := ⟨RX8, "presentKey", "(I)LDoorledger$KeyState;"⟩
abbrev cX8_doorOf : ByteArray := prog_1_method_44_code
def yX8_doorOf : MethodName := ⟨RX8, "doorOf", "(I)LDoorledger$Door;"⟩
abbrev cX8_phoneOf : ByteArray := prog_1_method_45_code
def yX8_phoneOf : MethodName := ⟨RX8, "phoneOf", "(I)LDoorledger$Phone;"⟩
abbrev cX8_auditOf : ByteArray := prog_1_method_46_code
def yX8_auditOf : MethodName := ⟨RX8, "auditOf", "(I)LDoorledger$Audit;"⟩
abbrev cX8_letterAgain : ByteArray := prog_1_method_47_code
def yX8_letterAgain : MethodName := ⟨RX8, "letterAgain", "(LDoorledger$Audit;)C"⟩
abbrev cX8_isToldAsBreach : ByteArray := prog_1_method_48_code
def yX8_isToldAsBreach : MethodName := ⟨RX8, "isToldAsBreach", "(LDoorledger$Audit;)Z"⟩
abbrev cX8_arrivedCount : ByteArray := prog_1_method_49_code
def yX8_arrivedCount : MethodName := ⟨RX8, "arrivedCount", "()I"⟩
abbrev cX8_meanOfDelays : ByteArray := prog_1_method_50_code
def yX8_meanOfDelays : MethodName := ⟨RX8, "meanOfDelays", "()D"⟩
abbrev cX8_areDoorsSound : ByteArray := prog_1_method_51_code
def yX8_areDoorsSound : MethodName := ⟨RX8, "areDoorsSound", "()Z"⟩
abbrev cX8_arePhonesSound : ByteArray := prog_1_method_52_code
def yX8_arePhonesSound : MethodName := ⟨RX8, "arePhonesSound", "()Z"⟩
abbrev cX8_areAuditsSound : ByteArray := prog_1_method_53_code
def yX8_areAuditsSound : MethodName := ⟨RX8, "areAuditsSound", "()Z"⟩
def RX9 : String := "DoorledgerModel"
def TX9 : u_T := fun k => match k with
  | 0 => ("DoorledgerModel", "thrown", "I", false)
  | 1 => ("DoorledgerModel", "keysIn", "[I", true)
  | 2 => ("DoorledgerModel", "madeAt", "[I", true)
  | 3 => ("DoorledgerModel", "doorsIn", "[[I", true)
  | 4 => ("DoorledgerModel", "fromsIn", "[[I", true)
  | 5 => ("DoorledgerModel", "tosIn", "[[I", true)
  | 6 => ("DoorledgerModel", "revokedIn", "[[Z", true)
  | 7 => ("DoorledgerModel", "version", "I", false)
  | 8 => ("DoorledgerModel", "time", "I", false)
  | 9 => ("DoorledgerModel", "lists", "[I", true)
  | 10 => ("DoorledgerModel", "setAt", "[I", true)
  | 11 => ("DoorledgerModel", "setTo", "[I", true)
  | 12 => ("DoorledgerModel", "phoneLists", "[I", true)
  | 13 => ("DoorledgerModel", "rates", "[F", true)
  | 14 => ("DoorledgerModel", "doors", "I", false)
  | 15 => ("DoorledgerModel", "phones", "I", false)
  | 16 => ("DoorledgerModel", "auditDoors", "[I", true)
  | 17 => ("DoorledgerModel", "auditKeys", "[I", true)
  | 18 => ("DoorledgerModel", "minutes", "[I", true)
  | 19 => ("DoorledgerModel", "auditLists", "[I", true)
  | 20 => ("DoorledgerModel", "times", "[I", true)
  | 21 => ("DoorledgerModel", "takers", "[I", true)
  | 22 => ("DoorledgerModel", "arrivals", "[I", true)
  | 23 => ("DoorledgerModel", "letters", "[C", true)
  | _ => ("DoorledgerModel", "audits", "I", false)
def tyX9 : Nat → FieldType := fun k => match k with
  | 0 => .int
  | 1 => .array .int
  | 2 => .array .int
  | 3 => .array (.array .int)
  | 4 => .array (.array .int)
  | 5 => .array (.array .int)
  | 6 => .array (.array .boolean)
  | 7 => .int
  | 8 => .int
  | 9 => .array .int
  | 10 => .array .int
  | 11 => .array .int
  | 12 => .array .int
  | 13 => .array .float
  | 14 => .int
  | 15 => .int
  | 16 => .array .int
  | 17 => .array .int
  | 18 => .array .int
  | 19 => .array .int
  | 20 => .array .int
  | 21 => .array .int
  | 22 => .array .int
  | 23 => .array .char
  | _ => .int
abbrev wsX90 : List Cond := u_ws RX9 TX9 25
theorem nmX9 : ∀ a, a < 25 → ∀ b, b < 25 → a ≠ b → (TX9 a).2.1 ≠ (TX9 b).2.1 := by decide +kernel
theorem tyX9_ok : ∀ k, k < 25 → parseFieldDescriptor (TX9 k).2.2.1 = some (tyX9 k) := by decide +kernel
abbrev cX9_init : ByteArray := prog_11_method_1_code
def yX9_init : MethodName := ⟨RX9, "<init>", "()V"⟩
abbrev cX9_thrown : ByteArray := prog_11_method_2_code
def yX9_thrown : MethodName := ⟨RX9, "thrown", "()I"⟩
abbrev cX9_fails : ByteArray := prog_11_method_3_code
def yX9_fails : MethodName := ⟨RX9, "fails", "(I)I"⟩
abbrev cX9_isBetween : ByteArray := prog_11_method_5_code
def yX9_isBetween : MethodName := ⟨RX9, "isBetween", "(III)Z"⟩
abbrev cX9_isKey : ByteArray := prog_11_method_6_code
def yX9_isKey : MethodName := ⟨RX9, "isKey", "(I)Z"⟩
abbrev cX9_isDoor : ByteArray := prog_11_method_7_code
def yX9_isDoor : MethodName := ⟨RX9, "isDoor", "(I)Z"⟩
abbrev cX9_isPhone : ByteArray := prog_11_method_8_code
def yX9_isPhone : MethodName := ⟨RX9, "isPhone", "(I)Z"⟩
abbrev cX9_isAudit : ByteArray := prog_11_method_9_code
def yX9_isAudit : MethodName := ⟨RX9, "isAudit", "(I)Z"⟩
abbrev cX9_areTimes : ByteArray := prog_11_method_10_code
def yX9_areTimes : MethodName := ⟨RX9, "areTimes", "(II)Z"⟩
abbrev cX9_changes : ByteArray := prog_11_method_11_code
def yX9_changes : MethodName := ⟨RX9, "changes", "()V"⟩
abbrev cX9_addKey : ByteArray := prog_11_method_12_code
def yX9_addKey : MethodName := ⟨RX9, "addKey", "(III)I"⟩
abbrev cX9_isStuck : ByteArray := prog_11_method_13_code
def yX9_isStuck : MethodName := ⟨RX9, "isStuck", "(I)Z"⟩
abbrev cX9_setTimes : ByteArray := prog_11_method_14_code
def yX9_setTimes : MethodName := ⟨RX9, "setTimes", "(III)I"⟩
abbrev cX9_setDoors : ByteArray := prog_11_method_15_code
def yX9_setDoors : MethodName := ⟨RX9, "setDoors", "(II)I"⟩
abbrev cX9_revoke : ByteArray := prog_11_method_16_code
def yX9_revoke : MethodName := ⟨RX9, "revoke", "(I)I"⟩
abbrev cX9_version : ByteArray := prog_11_method_17_code
def yX9_version : MethodName := ⟨RX9, "version", "()I"⟩
abbrev cX9_addDoor : ByteArray := prog_11_method_18_code
def yX9_addDoor : MethodName := ⟨RX9, "addDoor", "()I"⟩
abbrev cX9_driftedOf : ByteArray := prog_11_method_19_code
def yX9_driftedOf : MethodName := ⟨RX9, "driftedOf", "(I)F"⟩
abbrev cX9_clockOf : ByteArray := prog_11_method_20_code
def yX9_clockOf : MethodName := ⟨RX9, "clockOf", "(I)I"⟩
abbrev cX9_sets : ByteArray := prog_11_method_21_code
def yX9_sets : MethodName := ⟨RX9, "sets", "(II)V"⟩
abbrev cX9_setRate : ByteArray := prog_11_method_22_code
def yX9_setRate : MethodName := ⟨RX9, "setRate", "(II)I"⟩
abbrev cX9_addPhone : ByteArray := prog_11_method_23_code
def yX9_addPhone : MethodName := ⟨RX9, "addPhone", "()I"⟩
abbrev cX9_pass : ByteArray := prog_11_method_24_code
def yX9_pass : MethodName := ⟨RX9, "pass", "(I)I"⟩
abbrev cX9_time : ByteArray := prog_11_method_25_code
def yX9_time : MethodName := ⟨RX9, "time", "()I"⟩
abbrev cX9_meetCloud : ByteArray := prog_11_method_26_code
def yX9_meetCloud : MethodName := ⟨RX9, "meetCloud", "(I)I"⟩
abbrev cX9_meetDoor : ByteArray := prog_11_method_27_code
def yX9_meetDoor : MethodName := ⟨RX9, "meetDoor", "(II)I"⟩
abbrev cX9_letter : ByteArray := prog_11_method_28_code
def yX9_letter : MethodName := ⟨RX9, "letter", "(IIII)C"⟩
abbrev cX9_isNone : ByteArray := prog_11_method_29_code
def yX9_isNone : MethodName := ⟨RX9, "isNone", "(II)Z"⟩
abbrev cX9_open : ByteArray := prog_11_method_30_code
def yX9_open : MethodName := ⟨RX9, "open", "(II)C"⟩
abbrev cX9_answer : ByteArray := prog_11_method_31_code
def yX9_answer : MethodName := ⟨RX9, "answer", "(II)C"⟩
abbrev cX9_isNowhere : ByteArray := prog_11_method_32_code
def yX9_isNowhere : MethodName := ⟨RX9, "isNowhere", "(I)Z"⟩
abbrev cX9_clock : ByteArray := prog_11_method_33_code
def yX9_clock : MethodName := ⟨RX9, "clock", "(I)I"⟩
abbrev cX9_drifted : ByteArray := prog_11_method_34_code
def yX9_drifted : MethodName := ⟨RX9, "drifted", "(I)F"⟩
abbrev cX9_driftedBits : ByteArray := prog_11_method_35_code
def yX9_driftedBits : MethodName := ⟨RX9, "driftedBits", "(I)I"⟩
abbrev cX9_versionOf : ByteArray := prog_11_method_36_code
def yX9_versionOf : MethodName := ⟨RX9, "versionOf", "(I)I"⟩
abbrev cX9_versionByReplay : ByteArray := prog_11_method_37_code
def yX9_versionByReplay : MethodName := ⟨RX9, "versionByReplay", "(I)I"⟩
abbrev cX9_versionOn : ByteArray := prog_11_method_38_code
def yX9_versionOn : MethodName := ⟨RX9, "versionOn", "(I)I"⟩
abbrev cX9_fromIn : ByteArray := prog_11_method_39_code
def yX9_fromIn : MethodName := ⟨RX9, "fromIn", "(II)I"⟩
abbrev cX9_waiting : ByteArray := prog_11_method_40_code
def yX9_waiting : MethodName := ⟨RX9, "waiting", "(I)I"⟩
abbrev cX9_carried : ByteArray := prog_11_method_41_code
def yX9_carried : MethodName := ⟨RX9, "carried", "(I)I"⟩
abbrev cX9_audits : ByteArray := prog_11_method_42_code
def yX9_audits : MethodName := ⟨RX9, "audits", "()I"⟩
abbrev cX9_isNoAudit : ByteArray := prog_11_method_43_code
def yX9_isNoAudit : MethodName := ⟨RX9, "isNoAudit", "(I)Z"⟩
abbrev cX9_letterOf : ByteArray := prog_11_method_44_code
def yX9_letterOf : MethodName := ⟨RX9, "letterOf", "(I)C"⟩
abbrev cX9_letterByList : ByteArray := prog_11_method_45_code
def yX9_letterByList : MethodName := ⟨RX9, "letterByList", "(I)C"⟩
abbrev cX9_minuteOf : ByteArray := prog_11_method_46_code
def yX9_minuteOf : MethodName := ⟨RX9, "minuteOf", "(I)I"⟩
abbrev cX9_versionAt : ByteArray := prog_11_method_47_code
def yX9_versionAt : MethodName := ⟨RX9, "versionAt", "(I)I"⟩
abbrev cX9_hasArrived : ByteArray := prog_11_method_48_code
def yX9_hasArrived : MethodName := ⟨RX9, "hasArrived", "(I)Z"⟩
abbrev cX9_isBroken : ByteArray := prog_11_method_49_code
def yX9_isBroken : MethodName := ⟨RX9, "isBroken", "(I)Z"⟩
abbrev cX9_isBreach : ByteArray := prog_11_method_50_code
def yX9_isBreach : MethodName := ⟨RX9, "isBreach", "(I)Z"⟩
abbrev cX9_breaches : ByteArray := prog_11_method_51_code
def yX9_breaches : MethodName := ⟨RX9, "breaches", "()I"⟩
abbrev cX9_breachesAt : ByteArray := prog_11_method_52_code
def yX9_breachesAt : MethodName := ⟨RX9, "breachesAt", "(I)I"⟩
abbrev cX9_arrivedMany : ByteArray := prog_11_method_53_code
def yX9_arrivedMany : MethodName := ⟨RX9, "arrivedMany", "()I"⟩
abbrev cX9_delaySum : ByteArray := prog_11_method_54_code
def yX9_delaySum : MethodName := ⟨RX9, "delaySum", "()J"⟩
abbrev cX9_delays : ByteArray := prog_11_method_55_code
def yX9_delays : MethodName := ⟨RX9, "delays", "()J"⟩
abbrev cX9_mean : ByteArray := prog_11_method_56_code
def yX9_mean : MethodName := ⟨RX9, "mean", "()D"⟩
abbrev cX9_meanDelay : ByteArray := prog_11_method_57_code
def yX9_meanDelay : MethodName := ⟨RX9, "meanDelay", "()D"⟩
abbrev cX9_meanBits : ByteArray := prog_11_method_58_code
def yX9_meanBits : MethodName := ⟨RX9, "meanBits", "()J"⟩
abbrev cX9_arrivedShare : ByteArray := prog_11_method_59_code
def yX9_arrivedShare : MethodName := ⟨RX9, "arrivedShare", "()F"⟩
abbrev cX9_isSound : ByteArray := prog_11_method_60_code
def yX9_isSound : MethodName := ⟨RX9, "isSound", "()Z"⟩
def RJx145de : String := "java/io/Serializable"
def TJx145de : u_T := fun k => match k with
  | _ => ("", "", "", false)
def tyJx145de : Nat → FieldType := fun k => match k with
  | _ => .int
abbrev wsJx145de0 : List Cond := u_ws RJx145de TJx145de 0
theorem nmJx145de : ∀ a, a < 0 → ∀ b, b < 0 → a ≠ b → (TJx145de a).2.1 ≠ (TJx145de b).2.1 := by decide +kernel
theorem tyJx145de_ok : ∀ k, k < 0 → parseFieldDescriptor (TJx145de k).2.2.1 = some (tyJx145de k) := by decide +kernel
def RJx00060 : String := "java/lang/ArrayIndexOutOfBoundsException"
def TJx00060 : u_T := fun k => match k with
  | 0 => ("java/lang/Throwable", "backtrace", "Ljava/lang/Object;", false)
  | 1 => ("java/lang/Throwable", "detailMessage", "Ljava/lang/String;", false)
  | 2 => ("java/lang/Throwable", "cause", "Ljava/lang/Throwable;", false)
  | 3 => ("java/lang/Throwable", "stackTrace", "[Ljava/lang/StackTraceElement;", false)
  | 4 => ("java/lang/Throwable", "depth", "I", false)
  | _ => ("java/lang/Throwable", "suppressedExceptions", "Ljava/util/List;", false)
def tyJx00060 : Nat → FieldType := fun k => match k with
  | 0 => .object "java/lang/Object"
  | 1 => .object "java/lang/String"
  | 2 => .object "java/lang/Throwable"
  | 3 => .array (.object "java/lang/StackTraceElement")
  | 4 => .int
  | _ => .object "java/util/List"
abbrev wsJx000600 : List Cond := u_ws RJx00060 TJx00060 6
theorem nmJx00060 : ∀ a, a < 6 → ∀ b, b < 6 → a ≠ b → (TJx00060 a).2.1 ≠ (TJx00060 b).2.1 := by decide +kernel
theorem tyJx00060_ok : ∀ k, k < 6 → parseFieldDescriptor (TJx00060 k).2.2.1 = some (tyJx00060 k) := by decide +kernel
abbrev cJx00060_init_a7421 : ByteArray := prog_14_method_2_code
def yJx00060_init_a7421 : MethodName := ⟨RJx00060, "<init>", "(Ljava/lang/String;)V"⟩
def RJx8e188 : String := "java/lang/Cloneable"
def TJx8e188 : u_T := fun k => match k with
  | _ => ("", "", "", false)
def tyJx8e188 : Nat → FieldType := fun k => match k with
  | _ => .int
abbrev wsJx8e1880 : List Cond := u_ws RJx8e188 TJx8e188 0
theorem nmJx8e188 : ∀ a, a < 0 → ∀ b, b < 0 → a ≠ b → (TJx8e188 a).2.1 ≠ (TJx8e188 b).2.1 := by decide +kernel
theorem tyJx8e188_ok : ∀ k, k < 0 → parseFieldDescriptor (TJx8e188 k).2.2.1 = some (tyJx8e188 k) := by decide +kernel
def RJxb160c : String := "java/lang/Comparable"
def TJxb160c : u_T := fun k => match k with
  | _ => ("", "", "", false)
def tyJxb160c : Nat → FieldType := fun k => match k with
  | _ => .int
abbrev wsJxb160c0 : List Cond := u_ws RJxb160c TJxb160c 0
theorem nmJxb160c : ∀ a, a < 0 → ∀ b, b < 0 → a ≠ b → (TJxb160c a).2.1 ≠ (TJxb160c b).2.1 := by decide +kernel
theorem tyJxb160c_ok : ∀ k, k < 0 → parseFieldDescriptor (TJxb160c k).2.2.1 = some (tyJxb160c k) := by decide +kernel
def RJxe99ae : String := "java/lang/Double"
def TJxe99ae : u_T := fun k => match k with
  | _ => ("", "", "", false)
def tyJxe99ae : Nat → FieldType := fun k => match k with
  | _ => .int
abbrev wsJxe99ae0 : List Cond := u_ws RJxe99ae TJxe99ae 0
theorem nmJxe99ae : ∀ a, a < 0 → ∀ b, b < 0 → a ≠ b → (TJxe99ae a).2.1 ≠ (TJxe99ae b).2.1 := by decide +kernel
theorem tyJxe99ae_ok : ∀ k, k < 0 → parseFieldDescriptor (TJxe99ae k).2.2.1 = some (tyJxe99ae k) := by decide +kernel
abbrev cJxe99ae_isNaN_b9ae7 : ByteArray := prog_17_method_6_code
def yJxe99ae_isNaN_b9ae7 : MethodName := ⟨RJxe99ae, "isNaN", "(D)Z"⟩
abbrev cJxe99ae_doubleToLongBits_ccdee : ByteArray := prog_17_method_23_code
def yJxe99ae_doubleToLongBits_ccdee : MethodName := ⟨RJxe99ae, "doubleToLongBits", "(D)J"⟩
def RJxf58ca : String := "java/lang/Float"
def TJxf58ca : u_T := fun k => match k with
  | _ => ("", "", "", false)
def tyJxf58ca : Nat → FieldType := fun k => match k with
  | _ => .int
abbrev wsJxf58ca0 : List Cond := u_ws RJxf58ca TJxf58ca 0
theorem nmJxf58ca : ∀ a, a < 0 → ∀ b, b < 0 → a ≠ b → (TJxf58ca a).2.1 ≠ (TJxf58ca b).2.1 := by decide +kernel
theorem tyJxf58ca_ok : ∀ k, k < 0 → parseFieldDescriptor (TJxf58ca k).2.2.1 = some (tyJxf58ca k) := by decide +kernel
abbrev cJxf58ca_isNaN_12338 : ByteArray := prog_19_method_6_code
def yJxf58ca_isNaN_12338 : MethodName := ⟨RJxf58ca, "isNaN", "(F)Z"⟩
abbrev cJxf58ca_floatToIntBits_5c35a : ByteArray := prog_19_method_24_code
def yJxf58ca_floatToIntBits_5c35a : MethodName := ⟨RJxf58ca, "floatToIntBits", "(F)I"⟩
def RJxab1ab : String := "java/lang/Iterable"
def TJxab1ab : u_T := fun k => match k with
  | _ => ("", "", "", false)
def tyJxab1ab : Nat → FieldType := fun k => match k with
  | _ => .int
abbrev wsJxab1ab0 : List Cond := u_ws RJxab1ab TJxab1ab 0
theorem nmJxab1ab : ∀ a, a < 0 → ∀ b, b < 0 → a ≠ b → (TJxab1ab a).2.1 ≠ (TJxab1ab b).2.1 := by decide +kernel
theorem tyJxab1ab_ok : ∀ k, k < 0 → parseFieldDescriptor (TJxab1ab k).2.2.1 = some (tyJxab1ab k) := by decide +kernel
def RJ9 : String := "java/lang/Math"
def TJ9 : u_T := fun k => match k with
  | _ => ("", "", "", false)
def tyJ9 : Nat → FieldType := fun k => match k with
  | _ => .int
abbrev wsJ90 : List Cond := u_ws RJ9 TJ9 0
theorem nmJ9 : ∀ a, a < 0 → ∀ b, b < 0 → a ≠ b → (TJ9 a).2.1 ≠ (TJ9 b).2.1 := by decide +kernel
theorem tyJ9_ok : ∀ k, k < 0 → parseFieldDescriptor (TJ9 k).2.2.1 = some (tyJ9 k) := by decide +kernel
abbrev cJ9_max_7cf53 : ByteArray := prog_24_method_65_code
def yJ9_max_7cf53 : MethodName := ⟨RJ9, "max", "(II)I"⟩
abbrev cJ9_min_7cf53 : ByteArray := prog_24_method_69_code
def yJ9_min_7cf53 : MethodName := ⟨RJ9, "min", "(II)I"⟩
def RJxd2413 : String := "java/lang/Number"
def TJxd2413 : u_T := fun k => match k with
  | _ => ("", "", "", false)
def tyJxd2413 : Nat → FieldType := fun k => match k with
  | _ => .int
abbrev wsJxd24130 : List Cond := u_ws RJxd2413 TJxd2413 0
theorem nmJxd2413 : ∀ a, a < 0 → ∀ b, b < 0 → a ≠ b → (TJxd2413 a).2.1 ≠ (TJxd2413 b).2.1 := by decide +kernel
theorem tyJxd2413_ok : ∀ k, k < 0 → parseFieldDescriptor (TJxd2413 k).2.2.1 = some (tyJxd2413 k) := by decide +kernel
def RJ0 : String := "java/lang/String"
def TJ0 : u_T := fun k => match k with
  | 0 => ("java/lang/String", "value", "[B", true)
  | _ => ("java/lang/String", "coder", "B", true)
def tyJ0 : Nat → FieldType := fun k => match k with
  | 0 => .array .byte
  | _ => .byte
abbrev wsJ00 : List Cond := u_ws RJ0 TJ0 2
theorem nmJ0 : ∀ a, a < 2 → ∀ b, b < 2 → a ≠ b → (TJ0 a).2.1 ≠ (TJ0 b).2.1 := by decide +kernel
theorem tyJ0_ok : ∀ k, k < 2 → parseFieldDescriptor (TJ0 k).2.2.1 = some (tyJ0 k) := by decide +kernel
def RJ10 : String := "java/lang/System"
def TJ10 : u_T := fun k => match k with
  | _ => ("", "", "", false)
def tyJ10 : Nat → FieldType := fun k => match k with
  | _ => .int
abbrev wsJ100 : List Cond := u_ws RJ10 TJ10 0
theorem nmJ10 : ∀ a, a < 0 → ∀ b, b < 0 → a ≠ b → (TJ10 a).2.1 ≠ (TJ10 b).2.1 := by decide +kernel
theorem tyJ10_ok : ∀ k, k < 0 → parseFieldDescriptor (TJ10 k).2.2.1 = some (tyJ10 k) := by decide +kernel
def RJxfd54e : String := "java/lang/constant/Constable"
def TJxfd54e : u_T := fun k => match k with
  | _ => ("", "", "", false)
def tyJxfd54e : Nat → FieldType := fun k => match k with
  | _ => .int
abbrev wsJxfd54e0 : List Cond := u_ws RJxfd54e TJxfd54e 0
theorem nmJxfd54e : ∀ a, a < 0 → ∀ b, b < 0 → a ≠ b → (TJxfd54e a).2.1 ≠ (TJxfd54e b).2.1 := by decide +kernel
theorem tyJxfd54e_ok : ∀ k, k < 0 → parseFieldDescriptor (TJxfd54e k).2.2.1 = some (tyJxfd54e k) := by decide +kernel
def RJx3cf43 : String := "java/lang/constant/ConstantDesc"
def TJx3cf43 : u_T := fun k => match k with
  | _ => ("", "", "", false)
def tyJx3cf43 : Nat → FieldType := fun k => match k with
  | _ => .int
abbrev wsJx3cf430 : List Cond := u_ws RJx3cf43 TJx3cf43 0
theorem nmJx3cf43 : ∀ a, a < 0 → ∀ b, b < 0 → a ≠ b → (TJx3cf43 a).2.1 ≠ (TJx3cf43 b).2.1 := by decide +kernel
theorem tyJx3cf43_ok : ∀ k, k < 0 → parseFieldDescriptor (TJx3cf43 k).2.2.1 = some (tyJx3cf43 k) := by decide +kernel
def RJxa1e45 : String := "java/util/AbstractCollection"
def TJxa1e45 : u_T := fun k => match k with
  | _ => ("", "", "", false)
def tyJxa1e45 : Nat → FieldType := fun k => match k with
  | _ => .int
abbrev wsJxa1e450 : List Cond := u_ws RJxa1e45 TJxa1e45 0
theorem nmJxa1e45 : ∀ a, a < 0 → ∀ b, b < 0 → a ≠ b → (TJxa1e45 a).2.1 ≠ (TJxa1e45 b).2.1 := by decide +kernel
theorem tyJxa1e45_ok : ∀ k, k < 0 → parseFieldDescriptor (TJxa1e45 k).2.2.1 = some (tyJxa1e45 k) := by decide +kernel
abbrev cJxa1e45_init_da8c8 : ByteArray := prog_32_method_1_code
def yJxa1e45_init_da8c8 : MethodName := ⟨RJxa1e45, "<init>", "()V"⟩
def RJxc12de : String := "java/util/AbstractList"
def TJxc12de : u_T := fun k => match k with
  | _ => ("", "", "", false)
def tyJxc12de : Nat → FieldType := fun k => match k with
  | _ => .int
abbrev wsJxc12de0 : List Cond := u_ws RJxc12de TJxc12de 0
theorem nmJxc12de : ∀ a, a < 0 → ∀ b, b < 0 → a ≠ b → (TJxc12de a).2.1 ≠ (TJxc12de b).2.1 := by decide +kernel
theorem tyJxc12de_ok : ∀ k, k < 0 → parseFieldDescriptor (TJxc12de k).2.2.1 = some (tyJxc12de k) := by decide +kernel
abbrev cJxc12de_init_da8c8 : ByteArray := prog_33_method_1_code
def yJxc12de_init_da8c8 : MethodName := ⟨RJxc12de, "<init>", "()V"⟩
def RJx4a65c : String := "java/util/ArrayList"
def TJx4a65c : u_T := fun k => match k with
  | 0 => ("java/util/AbstractList", "modCount", "I", false)
  | 1 => ("java/util/ArrayList", "elementData", "[Ljava/lang/Object;", false)
  | _ => ("java/util/ArrayList", "size", "I", false)
def tyJx4a65c : Nat → FieldType := fun k => match k with
  | 0 => .int
  | 1 => .array (.object "java/lang/Object")
  | _ => .int
abbrev wsJx4a65c0 : List Cond := u_ws RJx4a65c TJx4a65c 3
theorem nmJx4a65c : ∀ a, a < 3 → ∀ b, b < 3 → a ≠ b → (TJx4a65c a).2.1 ≠ (TJx4a65c b).2.1 := by decide +kernel
theorem tyJx4a65c_ok : ∀ k, k < 3 → parseFieldDescriptor (TJx4a65c k).2.2.1 = some (tyJx4a65c k) := by decide +kernel
abbrev cJx4a65c_init_da8c8 : ByteArray := prog_34_method_2_code
def yJx4a65c_init_da8c8 : MethodName := ⟨RJx4a65c, "<init>", "()V"⟩
abbrev cJx4a65c_grow_92f84 : ByteArray := prog_34_method_6_code
def yJx4a65c_grow_92f84 : MethodName := ⟨RJx4a65c, "grow", "(I)[Ljava/lang/Object;"⟩
abbrev cJx4a65c_grow_d5877 : ByteArray := prog_34_method_7_code
def yJx4a65c_grow_d5877 : MethodName := ⟨RJx4a65c, "grow", "()[Ljava/lang/Object;"⟩
abbrev cJx4a65c_size_8abf5 : ByteArray := prog_34_method_8_code
def yJx4a65c_size_8abf5 : MethodName := ⟨RJx4a65c, "size", "()I"⟩
abbrev cJx4a65c_elementData_915e3 : ByteArray := prog_34_method_18_code
def yJx4a65c_elementData_915e3 : MethodName := ⟨RJx4a65c, "elementData", "(I)Ljava/lang/Object;"⟩
abbrev cJx4a65c_get_915e3 : ByteArray := prog_34_method_20_code
def yJx4a65c_get_915e3 : MethodName := ⟨RJx4a65c, "get", "(I)Ljava/lang/Object;"⟩
abbrev cJx4a65c_add_72be8 : ByteArray := prog_34_method_24_code
def yJx4a65c_add_72be8 : MethodName := ⟨RJx4a65c, "add", "(Ljava/lang/Object;[Ljava/lang/Object;I)V"⟩
abbrev cJx4a65c_add_9ea2d : ByteArray := prog_34_method_25_code
def yJx4a65c_add_9ea2d : MethodName := ⟨RJx4a65c, "add", "(Ljava/lang/Object;)Z"⟩
def RJ7 : String := "java/util/Arrays"
def TJ7 : u_T := fun k => match k with
  | _ => ("", "", "", false)
def tyJ7 : Nat → FieldType := fun k => match k with
  | _ => .int
abbrev wsJ70 : List Cond := u_ws RJ7 TJ7 0
theorem nmJ7 : ∀ a, a < 0 → ∀ b, b < 0 → a ≠ b → (TJ7 a).2.1 ≠ (TJ7 b).2.1 := by decide +kernel
theorem tyJ7_ok : ∀ k, k < 0 → parseFieldDescriptor (TJ7 k).2.2.1 = some (tyJ7 k) := by decide +kernel
abbrev cJ7_fill_53178 : ByteArray := prog_35_method_103_code
def yJ7_fill_53178 : MethodName := ⟨RJ7, "fill", "([II)V"⟩
abbrev cJ7_copyOf_1904c : ByteArray := prog_35_method_119_code
def yJ7_copyOf_1904c : MethodName := ⟨RJ7, "copyOf", "([Ljava/lang/Object;I)[Ljava/lang/Object;"⟩
abbrev cJ7_copyOf_6403c : ByteArray := prog_35_method_120_code
def yJ7_copyOf_6403c : MethodName := ⟨RJ7, "copyOf", "([Ljava/lang/Object;ILjava/lang/Class;)[Ljava/lang/Object;"⟩
def RJx5ef63 : String := "java/util/Collection"
def TJx5ef63 : u_T := fun k => match k with
  | _ => ("", "", "", false)
def tyJx5ef63 : Nat → FieldType := fun k => match k with
  | _ => .int
abbrev wsJx5ef630 : List Cond := u_ws RJx5ef63 TJx5ef63 0
theorem nmJx5ef63 : ∀ a, a < 0 → ∀ b, b < 0 → a ≠ b → (TJx5ef63 a).2.1 ≠ (TJx5ef63 b).2.1 := by decide +kernel
theorem tyJx5ef63_ok : ∀ k, k < 0 → parseFieldDescriptor (TJx5ef63 k).2.2.1 = some (tyJx5ef63 k) := by decide +kernel
def RJxbd725 : String := "java/util/List"
def TJxbd725 : u_T := fun k => match k with
  | _ => ("", "", "", false)
def tyJxbd725 : Nat → FieldType := fun k => match k with
  | _ => .int
abbrev wsJxbd7250 : List Cond := u_ws RJxbd725 TJxbd725 0
theorem nmJxbd725 : ∀ a, a < 0 → ∀ b, b < 0 → a ≠ b → (TJxbd725 a).2.1 ≠ (TJxbd725 b).2.1 := by decide +kernel
theorem tyJxbd725_ok : ∀ k, k < 0 → parseFieldDescriptor (TJxbd725 k).2.2.1 = some (tyJxbd725 k) := by decide +kernel
def RJ15 : String := "java/util/Objects"
def TJ15 : u_T := fun k => match k with
  | _ => ("", "", "", false)
def tyJ15 : Nat → FieldType := fun k => match k with
  | _ => .int
abbrev wsJ150 : List Cond := u_ws RJ15 TJ15 0
theorem nmJ15 : ∀ a, a < 0 → ∀ b, b < 0 → a ≠ b → (TJ15 a).2.1 ≠ (TJ15 b).2.1 := by decide +kernel
theorem tyJ15_ok : ∀ k, k < 0 → parseFieldDescriptor (TJ15 k).2.2.1 = some (tyJ15 k) := by decide +kernel
abbrev cJ15_checkIndex_7cf53 : ByteArray := prog_39_method_17_code
def yJ15_checkIndex_7cf53 : MethodName := ⟨RJ15, "checkIndex", "(II)I"⟩
def RJxf0a74 : String := "java/util/RandomAccess"
def TJxf0a74 : u_T := fun k => match k with
  | _ => ("", "", "", false)
def tyJxf0a74 : Nat → FieldType := fun k => match k with
  | _ => .int
abbrev wsJxf0a740 : List Cond := u_ws RJxf0a74 TJxf0a74 0
theorem nmJxf0a74 : ∀ a, a < 0 → ∀ b, b < 0 → a ≠ b → (TJxf0a74 a).2.1 ≠ (TJxf0a74 b).2.1 := by decide +kernel
theorem tyJxf0a74_ok : ∀ k, k < 0 → parseFieldDescriptor (TJxf0a74 k).2.2.1 = some (tyJxf0a74 k) := by decide +kernel
def RJxa66e6 : String := "java/util/SequencedCollection"
def TJxa66e6 : u_T := fun k => match k with
  | _ => ("", "", "", false)
def tyJxa66e6 : Nat → FieldType := fun k => match k with
  | _ => .int
abbrev wsJxa66e60 : List Cond := u_ws RJxa66e6 TJxa66e6 0
theorem nmJxa66e6 : ∀ a, a < 0 → ∀ b, b < 0 → a ≠ b → (TJxa66e6 a).2.1 ≠ (TJxa66e6 b).2.1 := by decide +kernel
theorem tyJxa66e6_ok : ∀ k, k < 0 → parseFieldDescriptor (TJxa66e6 k).2.2.1 = some (tyJxa66e6 k) := by decide +kernel
def RJ8 : String := "jdk/internal/util/ArraysSupport"
def TJ8 : u_T := fun k => match k with
  | _ => ("", "", "", false)
def tyJ8 : Nat → FieldType := fun k => match k with
  | _ => .int
abbrev wsJ80 : List Cond := u_ws RJ8 TJ8 0
theorem nmJ8 : ∀ a, a < 0 → ∀ b, b < 0 → a ≠ b → (TJ8 a).2.1 ≠ (TJ8 b).2.1 := by decide +kernel
theorem tyJ8_ok : ∀ k, k < 0 → parseFieldDescriptor (TJ8 k).2.2.1 = some (tyJ8 k) := by decide +kernel
abbrev cJ8_newLength_cabcc : ByteArray := prog_42_method_27_code
def yJ8_newLength_cabcc : MethodName := ⟨RJ8, "newLength", "(III)I"⟩
abbrev cJ8_hugeLength_7cf53 : ByteArray := prog_42_method_28_code
def yJ8_hugeLength_7cf53 : MethodName := ⟨RJ8, "hugeLength", "(II)I"⟩
def RJ3 : String := "jdk/internal/util/Preconditions"
def TJ3 : u_T := fun k => match k with
  | _ => ("", "", "", false)
def tyJ3 : Nat → FieldType := fun k => match k with
  | _ => .int
abbrev wsJ30 : List Cond := u_ws RJ3 TJ3 0
theorem nmJ3 : ∀ a, a < 0 → ∀ b, b < 0 → a ≠ b → (TJ3 a).2.1 ≠ (TJ3 b).2.1 := by decide +kernel
theorem tyJ3_ok : ∀ k, k < 0 → parseFieldDescriptor (TJ3 k).2.2.1 = some (tyJ3 k) := by decide +kernel
abbrev cJ3_checkIndex_8e157 : ByteArray := prog_43_method_11_code
def yJ3_checkIndex_8e157 : MethodName := ⟨RJ3, "checkIndex", "(IILjava/util/function/BiFunction;)I"⟩
def RL : String := "DoorledgerLaw"
abbrev cL_addKey : ByteArray := method_3_code
def yL_addKey : MethodName := ⟨RL, "addKey", "(LDoorledger;III[J)I"⟩
abbrev cL_setTimes : ByteArray := method_4_code
def yL_setTimes : MethodName := ⟨RL, "setTimes", "(LDoorledger;III[J)I"⟩
abbrev cL_setDoors : ByteArray := method_5_code
def yL_setDoors : MethodName := ⟨RL, "setDoors", "(LDoorledger;II[J)I"⟩
abbrev cL_revoke : ByteArray := method_6_code
def yL_revoke : MethodName := ⟨RL, "revoke", "(LDoorledger;I[J)I"⟩
abbrev cL_addDoor : ByteArray := method_7_code
def yL_addDoor : MethodName := ⟨RL, "addDoor", "(LDoorledger;[J)I"⟩
abbrev cL_setRate : ByteArray := method_8_code
def yL_setRate : MethodName := ⟨RL, "setRate", "(LDoorledger;II[J)I"⟩
abbrev cL_addPhone : ByteArray := method_9_code
def yL_addPhone : MethodName := ⟨RL, "addPhone", "(LDoorledger;[J)I"⟩
abbrev cL_pass : ByteArray := method_10_code
def yL_pass : MethodName := ⟨RL, "pass", "(LDoorledger;I[J)I"⟩
abbrev cL_meetCloud : ByteArray := method_11_code
def yL_meetCloud : MethodName := ⟨RL, "meetCloud", "(LDoorledger;I[J)I"⟩
abbrev cL_meetDoor : ByteArray := method_12_code
def yL_meetDoor : MethodName := ⟨RL, "meetDoor", "(LDoorledger;II[J)I"⟩
abbrev cL_open : ByteArray := method_13_code
def yL_open : MethodName := ⟨RL, "open", "(LDoorledger;II[J)I"⟩
abbrev cL_answer : ByteArray := method_14_code
def yL_answer : MethodName := ⟨RL, "answer", "(LDoorledger;II[J)I"⟩
abbrev cL_clock : ByteArray := method_15_code
def yL_clock : MethodName := ⟨RL, "clock", "(LDoorledger;I[J)I"⟩
abbrev cL_drifted : ByteArray := method_16_code
def yL_drifted : MethodName := ⟨RL, "drifted", "(LDoorledger;I[D)I"⟩
abbrev cL_driftedBits : ByteArray := method_17_code
def yL_driftedBits : MethodName := ⟨RL, "driftedBits", "(LDoorledger;I[J)I"⟩
abbrev cL_versionOf : ByteArray := method_18_code
def yL_versionOf : MethodName := ⟨RL, "versionOf", "(LDoorledger;I[J)I"⟩
abbrev cL_versionByReplay : ByteArray := method_19_code
def yL_versionByReplay : MethodName := ⟨RL, "versionByReplay", "(LDoorledger;I[J)I"⟩
abbrev cL_versionOn : ByteArray := method_20_code
def yL_versionOn : MethodName := ⟨RL, "versionOn", "(LDoorledger;I[J)I"⟩
abbrev cL_fromIn : ByteArray := method_21_code
def yL_fromIn : MethodName := ⟨RL, "fromIn", "(LDoorledger;II[J)I"⟩
abbrev cL_waiting : ByteArray := method_22_code
def yL_waiting : MethodName := ⟨RL, "waiting", "(LDoorledger;I[J)I"⟩
abbrev cL_carried : ByteArray := method_23_code
def yL_carried : MethodName := ⟨RL, "carried", "(LDoorledger;I[J)I"⟩
abbrev cL_letterOf : ByteArray := method_24_code
def yL_letterOf : MethodName := ⟨RL, "letterOf", "(LDoorledger;I[J)I"⟩
abbrev cL_letterByList : ByteArray := method_25_code
def yL_letterByList : MethodName := ⟨RL, "letterByList", "(LDoorledger;I[J)I"⟩
abbrev cL_minuteOf : ByteArray := method_26_code
def yL_minuteOf : MethodName := ⟨RL, "minuteOf", "(LDoorledger;I[J)I"⟩
abbrev cL_versionAt : ByteArray := method_27_code
def yL_versionAt : MethodName := ⟨RL, "versionAt", "(LDoorledger;I[J)I"⟩
abbrev cL_hasArrived : ByteArray := method_28_code
def yL_hasArrived : MethodName := ⟨RL, "hasArrived", "(LDoorledger;I[J)I"⟩
abbrev cL_isBreach : ByteArray := method_29_code
def yL_isBreach : MethodName := ⟨RL, "isBreach", "(LDoorledger;I[J)I"⟩
abbrev cL_breachesAt : ByteArray := method_30_code
def yL_breachesAt : MethodName := ⟨RL, "breachesAt", "(LDoorledger;I[J)I"⟩
abbrev cL_meanDelay : ByteArray := method_31_code
def yL_meanDelay : MethodName := ⟨RL, "meanDelay", "(LDoorledger;[D)I"⟩
abbrev cL_meanBits : ByteArray := method_32_code
def yL_meanBits : MethodName := ⟨RL, "meanBits", "(LDoorledger;[J)I"⟩
abbrev cL_arrivedShare : ByteArray := method_33_code
def yL_arrivedShare : MethodName := ⟨RL, "arrivedShare", "(LDoorledger;[D)I"⟩
abbrev cL_law : ByteArray := code
def yL_law : MethodName := ⟨RL, "law", "([I)Z"⟩
