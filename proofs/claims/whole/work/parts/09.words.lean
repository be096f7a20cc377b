/-! the words of the tables that the rows use, each by its place -/
theorem kcJx4a65c : KC 0 RJx4a65c TJx4a65c 3 tyJx4a65c := ⟨rfl, by decide +kernel, tyJx4a65c_ok, nmJx4a65c⟩
theorem kcX0 : KC 1 RX0 TX0 8 tyX0 := ⟨rfl, by decide +kernel, tyX0_ok, nmX0⟩
theorem kcX2 : KC 2 RX2 TX2 2 tyX2 := ⟨rfl, by decide +kernel, tyX2_ok, nmX2⟩
theorem kcX3 : KC 3 RX3 TX3 5 tyX3 := ⟨rfl, by decide +kernel, tyX3_ok, nmX3⟩
theorem kcX4 : KC 4 RX4 TX4 6 tyX4 := ⟨rfl, by decide +kernel, tyX4_ok, nmX4⟩
theorem kcX5 : KC 5 RX5 TX5 3 tyX5 := ⟨rfl, by decide +kernel, tyX5_ok, nmX5⟩
theorem kcX6 : KC 6 RX6 TX6 2 tyX6 := ⟨rfl, by decide +kernel, tyX6_ok, nmX6⟩
theorem kcX7 : KC 7 RX7 TX7 1 tyX7 := ⟨rfl, by decide +kernel, tyX7_ok, nmX7⟩
theorem kcX8 : KC 8 RX8 TX8 6 tyX8 := ⟨rfl, by decide +kernel, tyX8_ok, nmX8⟩
theorem kcX9 : KC 9 RX9 TX9 25 tyX9 := ⟨rfl, by decide +kernel, tyX9_ok, nmX9⟩
abbrev mX8_init : MD := (yX8_init, cX8_init, 1, (Option.none : Option FieldType))
abbrev mX2_init : MD := (yX2_init, cX2_init, 1, (Option.none : Option FieldType))
abbrev mJx4a65c_init_da8c8 : MD := (yJx4a65c_init_da8c8, cJx4a65c_init_da8c8, 1, (Option.none : Option FieldType))
abbrev mJxc12de_init_da8c8 : MD := (yJxc12de_init_da8c8, cJxc12de_init_da8c8, 1, (Option.none : Option FieldType))
abbrev mJxa1e45_init_da8c8 : MD := (yJxa1e45_init_da8c8, cJxa1e45_init_da8c8, 1, (Option.none : Option FieldType))
abbrev mX6_init : MD := (yX6_init, cX6_init, 1, (Option.none : Option FieldType))
abbrev mX8_version : MD := (yX8_version, cX8_version, 1, (Option.some Jvm.ClassFile.FieldType.int : Option FieldType))
abbrev mX2_newest : MD := (yX2_newest, cX2_newest, 1, (Option.some Jvm.ClassFile.FieldType.int : Option FieldType))
abbrev mJx4a65c_size_8abf5 : MD := (yJx4a65c_size_8abf5, cJx4a65c_size_8abf5, 1, (Option.some Jvm.ClassFile.FieldType.int : Option FieldType))
abbrev mX8_time : MD := (yX8_time, cX8_time, 1, (Option.some Jvm.ClassFile.FieldType.int : Option FieldType))
abbrev mX8_audits : MD := (yX8_audits, cX8_audits, 1, (Option.some Jvm.ClassFile.FieldType.int : Option FieldType))
abbrev mX8_breaches : MD := (yX8_breaches, cX8_breaches, 3, (Option.some Jvm.ClassFile.FieldType.int : Option FieldType))
abbrev mJx4a65c_get_915e3 : MD := (yJx4a65c_get_915e3, cJx4a65c_get_915e3, 2, (Option.some (Jvm.ClassFile.FieldType.object "java/lang/Object") : Option FieldType))
abbrev mJ15_checkIndex_7cf53 : MD := (yJ15_checkIndex_7cf53, cJ15_checkIndex_7cf53, 2, (Option.some Jvm.ClassFile.FieldType.int : Option FieldType))
abbrev mJ3_checkIndex_8e157 : MD := (yJ3_checkIndex_8e157, cJ3_checkIndex_8e157, 3, (Option.some Jvm.ClassFile.FieldType.int : Option FieldType))
abbrev mJx4a65c_elementData_915e3 : MD := (yJx4a65c_elementData_915e3, cJx4a65c_elementData_915e3, 2, (Option.some (Jvm.ClassFile.FieldType.object "java/lang/Object") : Option FieldType))
abbrev mX8_isToldAsBreach : MD := (yX8_isToldAsBreach, cX8_isToldAsBreach, 3, (Option.some Jvm.ClassFile.FieldType.boolean : Option FieldType))
abbrev mX0_isInCloud : MD := (yX0_isInCloud, cX0_isInCloud, 1, (Option.some Jvm.ClassFile.FieldType.boolean : Option FieldType))
abbrev mX2_newestAt : MD := (yX2_newestAt, cX2_newestAt, 3, (Option.some Jvm.ClassFile.FieldType.int : Option FieldType))
abbrev mX2_letterIn : MD := (yX2_letterIn, cX2_letterIn, 6, (Option.some Jvm.ClassFile.FieldType.char : Option FieldType))
abbrev mX2_keyIn : MD := (yX2_keyIn, cX2_keyIn, 5, (Option.some (Jvm.ClassFile.FieldType.object "Doorledger$KeyState") : Option FieldType))
abbrev mJ9_min_7cf53 : MD := (yJ9_min_7cf53, cJ9_min_7cf53, 2, (Option.some Jvm.ClassFile.FieldType.int : Option FieldType))
abbrev mX4_letterAt : MD := (yX4_letterAt, cX4_letterAt, 3, (Option.some Jvm.ClassFile.FieldType.char : Option FieldType))
abbrev mX8_delays : MD := (yX8_delays, cX8_delays, 5, (Option.some Jvm.ClassFile.FieldType.long : Option FieldType))
abbrev mX8_isSound : MD := (yX8_isSound, cX8_isSound, 1, (Option.some Jvm.ClassFile.FieldType.boolean : Option FieldType))
abbrev mX8_areDoorsSound : MD := (yX8_areDoorsSound, cX8_areDoorsSound, 3, (Option.some Jvm.ClassFile.FieldType.boolean : Option FieldType))
abbrev mX6_replay : MD := (yX6_replay, cX6_replay, 7, (Option.some Jvm.ClassFile.FieldType.int : Option FieldType))
abbrev mJ7_fill_53178 : MD := (yJ7_fill_53178, cJ7_fill_53178, 4, (Option.none : Option FieldType))
abbrev mJ9_max_7cf53 : MD := (yJ9_max_7cf53, cJ9_max_7cf53, 2, (Option.some Jvm.ClassFile.FieldType.int : Option FieldType))
abbrev mX8_arePhonesSound : MD := (yX8_arePhonesSound, cX8_arePhonesSound, 2, (Option.some Jvm.ClassFile.FieldType.boolean : Option FieldType))
abbrev mX8_areAuditsSound : MD := (yX8_areAuditsSound, cX8_areAuditsSound, 3, (Option.some Jvm.ClassFile.FieldType.boolean : Option FieldType))
abbrev mX8_letterAgain : MD := (yX8_letterAgain, cX8_letterAgain, 2, (Option.some Jvm.ClassFile.FieldType.char : Option FieldType))
abbrev mL_addKey : MD := (yL_addKey, cL_addKey, 6, (Option.some Jvm.ClassFile.FieldType.int : Option FieldType))
abbrev hhL_addKey : List (Nat × Nat × Nat × Nat) := [(0, 12, 15, 13), (0, 12, 19, 15)]
abbrev mX8_addKey : MD := (yX8_addKey, cX8_addKey, 5, (Option.some Jvm.ClassFile.FieldType.int : Option FieldType))
abbrev mX8_checkDoorSet : MD := (yX8_checkDoorSet, cX8_checkDoorSet, 1, (Option.none : Option FieldType))
abbrev mX8_checkTimes : MD := (yX8_checkTimes, cX8_checkTimes, 2, (Option.none : Option FieldType))
abbrev mX8_checkRoomForChange : MD := (yX8_checkRoomForChange, cX8_checkRoomForChange, 1, (Option.none : Option FieldType))
abbrev mX4_init : MD := (yX4_init, cX4_init, 7, (Option.none : Option FieldType))
abbrev mX2_keep : MD := (yX2_keep, cX2_keep, 2, (Option.some Jvm.ClassFile.FieldType.int : Option FieldType))
abbrev mJx4a65c_add_9ea2d : MD := (yJx4a65c_add_9ea2d, cJx4a65c_add_9ea2d, 2, (Option.some Jvm.ClassFile.FieldType.boolean : Option FieldType))
abbrev mJx4a65c_add_72be8 : MD := (yJx4a65c_add_72be8, cJx4a65c_add_72be8, 4, (Option.none : Option FieldType))
abbrev mJx4a65c_grow_d5877 : MD := (yJx4a65c_grow_d5877, cJx4a65c_grow_d5877, 1, (Option.some (Jvm.ClassFile.FieldType.array (Jvm.ClassFile.FieldType.object "java/lang/Object")) : Option FieldType))
abbrev mJx4a65c_grow_92f84 : MD := (yJx4a65c_grow_92f84, cJx4a65c_grow_92f84, 4, (Option.some (Jvm.ClassFile.FieldType.array (Jvm.ClassFile.FieldType.object "java/lang/Object")) : Option FieldType))
abbrev mJ8_newLength_cabcc : MD := (yJ8_newLength_cabcc, cJ8_newLength_cabcc, 4, (Option.some Jvm.ClassFile.FieldType.int : Option FieldType))
abbrev mJ8_hugeLength_7cf53 : MD := (yJ8_hugeLength_7cf53, cJ8_hugeLength_7cf53, 3, (Option.some Jvm.ClassFile.FieldType.int : Option FieldType))
abbrev mJ7_copyOf_1904c : MD := (yJ7_copyOf_1904c, cJ7_copyOf_1904c, 2, (Option.some (Jvm.ClassFile.FieldType.array (Jvm.ClassFile.FieldType.object "java/lang/Object")) : Option FieldType))
abbrev mJ7_copyOf_6403c : MD := (yJ7_copyOf_6403c, cJ7_copyOf_6403c, 4, (Option.some (Jvm.ClassFile.FieldType.array (Jvm.ClassFile.FieldType.object "java/lang/Object")) : Option FieldType))
abbrev mL_setTimes : MD := (yL_setTimes, cL_setTimes, 6, (Option.some Jvm.ClassFile.FieldType.int : Option FieldType))
abbrev hhL_setTimes : List (Nat × Nat × Nat × Nat) := [(0, 12, 15, 20), (0, 12, 19, 13), (0, 12, 23, 15)]
abbrev mX8_setTimes : MD := (yX8_setTimes, cX8_setTimes, 5, (Option.some Jvm.ClassFile.FieldType.int : Option FieldType))
abbrev mX8_presentKey : MD := (yX8_presentKey, cX8_presentKey, 3, (Option.some (Jvm.ClassFile.FieldType.object "Doorledger$KeyState") : Option FieldType))
abbrev mX8_checkNotRevoked : MD := (yX8_checkNotRevoked, cX8_checkNotRevoked, 1, (Option.none : Option FieldType))
abbrev mL_setDoors : MD := (yL_setDoors, cL_setDoors, 5, (Option.some Jvm.ClassFile.FieldType.int : Option FieldType))
abbrev hhL_setDoors : List (Nat × Nat × Nat × Nat) := [(0, 10, 13, 20), (0, 10, 17, 13), (0, 10, 21, 15)]
abbrev mX8_setDoors : MD := (yX8_setDoors, cX8_setDoors, 4, (Option.some Jvm.ClassFile.FieldType.int : Option FieldType))
abbrev mL_revoke : MD := (yL_revoke, cL_revoke, 4, (Option.some Jvm.ClassFile.FieldType.int : Option FieldType))
abbrev hhL_revoke : List (Nat × Nat × Nat × Nat) := [(0, 9, 12, 20), (0, 9, 15, 15)]
abbrev mX8_revoke : MD := (yX8_revoke, cX8_revoke, 3, (Option.some Jvm.ClassFile.FieldType.int : Option FieldType))
abbrev mL_addDoor : MD := (yL_addDoor, cL_addDoor, 3, (Option.some Jvm.ClassFile.FieldType.int : Option FieldType))
abbrev hhL_addDoor : List (Nat × Nat × Nat × Nat) := [(0, 8, 11, 15)]
abbrev mX8_addDoor : MD := (yX8_addDoor, cX8_addDoor, 1, (Option.some Jvm.ClassFile.FieldType.int : Option FieldType))
abbrev mX3_init : MD := (yX3_init, cX3_init, 3, (Option.none : Option FieldType))
abbrev mL_setRate : MD := (yL_setRate, cL_setRate, 5, (Option.some Jvm.ClassFile.FieldType.int : Option FieldType))
abbrev hhL_setRate : List (Nat × Nat × Nat × Nat) := [(0, 10, 13, 37), (0, 10, 17, 13)]
abbrev mJx00060_init_a7421 : MD := (yJx00060_init_a7421, cJx00060_init_a7421, 2, (Option.none : Option FieldType))
abbrev mX8_setRate : MD := (yX8_setRate, cX8_setRate, 5, (Option.some Jvm.ClassFile.FieldType.int : Option FieldType))
abbrev mX8_doorOf : MD := (yX8_doorOf, cX8_doorOf, 2, (Option.some (Jvm.ClassFile.FieldType.object "Doorledger$Door") : Option FieldType))
abbrev mX3_minuteAt : MD := (yX3_minuteAt, cX3_minuteAt, 2, (Option.some Jvm.ClassFile.FieldType.int : Option FieldType))
abbrev mX3_driftAt : MD := (yX3_driftAt, cX3_driftAt, 2, (Option.some Jvm.ClassFile.FieldType.float : Option FieldType))
abbrev mX3_setClock : MD := (yX3_setClock, cX3_setClock, 3, (Option.none : Option FieldType))
abbrev mL_addPhone : MD := (yL_addPhone, cL_addPhone, 3, (Option.some Jvm.ClassFile.FieldType.int : Option FieldType))
abbrev hhL_addPhone : List (Nat × Nat × Nat × Nat) := [(0, 8, 11, 15)]
abbrev mX8_addPhone : MD := (yX8_addPhone, cX8_addPhone, 1, (Option.some Jvm.ClassFile.FieldType.int : Option FieldType))
abbrev mX7_init : MD := (yX7_init, cX7_init, 1, (Option.none : Option FieldType))
abbrev mL_pass : MD := (yL_pass, cL_pass, 4, (Option.some Jvm.ClassFile.FieldType.int : Option FieldType))
abbrev hhL_pass : List (Nat × Nat × Nat × Nat) := [(0, 9, 12, 13)]
abbrev mX8_pass : MD := (yX8_pass, cX8_pass, 2, (Option.some Jvm.ClassFile.FieldType.int : Option FieldType))
abbrev mL_meetCloud : MD := (yL_meetCloud, cL_meetCloud, 4, (Option.some Jvm.ClassFile.FieldType.int : Option FieldType))
abbrev hhL_meetCloud : List (Nat × Nat × Nat × Nat) := [(0, 9, 12, 37)]
abbrev mX8_meetCloud : MD := (yX8_meetCloud, cX8_meetCloud, 6, (Option.some Jvm.ClassFile.FieldType.int : Option FieldType))
abbrev mX8_phoneOf : MD := (yX8_phoneOf, cX8_phoneOf, 2, (Option.some (Jvm.ClassFile.FieldType.object "Doorledger$Phone") : Option FieldType))
abbrev mX5_init : MD := (yX5_init, cX5_init, 4, (Option.none : Option FieldType))
abbrev mX6_keep : MD := (yX6_keep, cX6_keep, 2, (Option.none : Option FieldType))
abbrev mX0_isCarriedBy : MD := (yX0_isCarriedBy, cX0_isCarriedBy, 2, (Option.some Jvm.ClassFile.FieldType.boolean : Option FieldType))
abbrev mL_meetDoor : MD := (yL_meetDoor, cL_meetDoor, 5, (Option.some Jvm.ClassFile.FieldType.int : Option FieldType))
abbrev hhL_meetDoor : List (Nat × Nat × Nat × Nat) := [(0, 10, 13, 37)]
abbrev mX8_meetDoor : MD := (yX8_meetDoor, cX8_meetDoor, 8, (Option.some Jvm.ClassFile.FieldType.int : Option FieldType))
abbrev mX0_isWaitingAt : MD := (yX0_isWaitingAt, cX0_isWaitingAt, 2, (Option.some Jvm.ClassFile.FieldType.boolean : Option FieldType))
abbrev mL_open : MD := (yL_open, cL_open, 5, (Option.some Jvm.ClassFile.FieldType.int : Option FieldType))
abbrev hhL_open : List (Nat × Nat × Nat × Nat) := [(0, 10, 13, 37), (0, 10, 17, 20), (0, 10, 21, 15)]
abbrev mX8_open : MD := (yX8_open, cX8_open, 6, (Option.some Jvm.ClassFile.FieldType.char : Option FieldType))
abbrev mX0_init : MD := (yX0_init, cX0_init, 7, (Option.none : Option FieldType))
abbrev mL_answer : MD := (yL_answer, cL_answer, 5, (Option.some Jvm.ClassFile.FieldType.int : Option FieldType))
abbrev hhL_answer : List (Nat × Nat × Nat × Nat) := [(0, 10, 13, 37), (0, 10, 17, 20)]
abbrev mX8_answer : MD := (yX8_answer, cX8_answer, 4, (Option.some Jvm.ClassFile.FieldType.char : Option FieldType))
abbrev mL_clock : MD := (yL_clock, cL_clock, 4, (Option.some Jvm.ClassFile.FieldType.int : Option FieldType))
abbrev hhL_clock : List (Nat × Nat × Nat × Nat) := [(0, 9, 12, 37)]
abbrev mX8_clock : MD := (yX8_clock, cX8_clock, 2, (Option.some Jvm.ClassFile.FieldType.int : Option FieldType))
abbrev mL_drifted : MD := (yL_drifted, cL_drifted, 4, (Option.some Jvm.ClassFile.FieldType.int : Option FieldType))
abbrev hhL_drifted : List (Nat × Nat × Nat × Nat) := [(0, 9, 12, 37)]
abbrev mX8_drifted : MD := (yX8_drifted, cX8_drifted, 2, (Option.some Jvm.ClassFile.FieldType.float : Option FieldType))
abbrev mL_driftedBits : MD := (yL_driftedBits, cL_driftedBits, 4, (Option.some Jvm.ClassFile.FieldType.int : Option FieldType))
abbrev hhL_driftedBits : List (Nat × Nat × Nat × Nat) := [(0, 9, 12, 37)]
abbrev mX8_driftedBits : MD := (yX8_driftedBits, cX8_driftedBits, 2, (Option.some Jvm.ClassFile.FieldType.int : Option FieldType))
abbrev mX1_ofFloat : MD := (yX1_ofFloat, cX1_ofFloat, 5, (Option.some Jvm.ClassFile.FieldType.int : Option FieldType))
abbrev mX1_ofDouble : MD := (yX1_ofDouble, cX1_ofDouble, 7, (Option.some Jvm.ClassFile.FieldType.long : Option FieldType))
abbrev mL_versionOf : MD := (yL_versionOf, cL_versionOf, 4, (Option.some Jvm.ClassFile.FieldType.int : Option FieldType))
abbrev hhL_versionOf : List (Nat × Nat × Nat × Nat) := [(0, 9, 12, 37)]
abbrev mX8_versionOf : MD := (yX8_versionOf, cX8_versionOf, 2, (Option.some Jvm.ClassFile.FieldType.int : Option FieldType))
abbrev mL_versionByReplay : MD := (yL_versionByReplay, cL_versionByReplay, 4, (Option.some Jvm.ClassFile.FieldType.int : Option FieldType))
abbrev hhL_versionByReplay : List (Nat × Nat × Nat × Nat) := [(0, 9, 12, 37)]
abbrev mX8_versionByReplay : MD := (yX8_versionByReplay, cX8_versionByReplay, 2, (Option.some Jvm.ClassFile.FieldType.int : Option FieldType))
abbrev mL_versionOn : MD := (yL_versionOn, cL_versionOn, 4, (Option.some Jvm.ClassFile.FieldType.int : Option FieldType))
abbrev hhL_versionOn : List (Nat × Nat × Nat × Nat) := [(0, 9, 12, 37)]
abbrev mX8_versionOn : MD := (yX8_versionOn, cX8_versionOn, 2, (Option.some Jvm.ClassFile.FieldType.int : Option FieldType))
abbrev mL_fromIn : MD := (yL_fromIn, cL_fromIn, 5, (Option.some Jvm.ClassFile.FieldType.int : Option FieldType))
abbrev hhL_fromIn : List (Nat × Nat × Nat × Nat) := [(0, 10, 13, 37), (0, 10, 17, 20)]
abbrev mX8_fromIn : MD := (yX8_fromIn, cX8_fromIn, 4, (Option.some Jvm.ClassFile.FieldType.int : Option FieldType))
abbrev mL_waiting : MD := (yL_waiting, cL_waiting, 4, (Option.some Jvm.ClassFile.FieldType.int : Option FieldType))
abbrev hhL_waiting : List (Nat × Nat × Nat × Nat) := [(0, 9, 12, 37)]
abbrev mX8_waiting : MD := (yX8_waiting, cX8_waiting, 4, (Option.some Jvm.ClassFile.FieldType.int : Option FieldType))
abbrev mL_carried : MD := (yL_carried, cL_carried, 4, (Option.some Jvm.ClassFile.FieldType.int : Option FieldType))
abbrev hhL_carried : List (Nat × Nat × Nat × Nat) := [(0, 9, 12, 37)]
abbrev mX8_carried : MD := (yX8_carried, cX8_carried, 4, (Option.some Jvm.ClassFile.FieldType.int : Option FieldType))
abbrev mL_letterOf : MD := (yL_letterOf, cL_letterOf, 4, (Option.some Jvm.ClassFile.FieldType.int : Option FieldType))
abbrev hhL_letterOf : List (Nat × Nat × Nat × Nat) := [(0, 9, 12, 20)]
abbrev mX8_letterOf : MD := (yX8_letterOf, cX8_letterOf, 2, (Option.some Jvm.ClassFile.FieldType.char : Option FieldType))
abbrev mX8_auditOf : MD := (yX8_auditOf, cX8_auditOf, 2, (Option.some (Jvm.ClassFile.FieldType.object "Doorledger$Audit") : Option FieldType))
abbrev mL_letterByList : MD := (yL_letterByList, cL_letterByList, 4, (Option.some Jvm.ClassFile.FieldType.int : Option FieldType))
abbrev hhL_letterByList : List (Nat × Nat × Nat × Nat) := [(0, 9, 12, 20)]
abbrev mX8_letterByList : MD := (yX8_letterByList, cX8_letterByList, 2, (Option.some Jvm.ClassFile.FieldType.char : Option FieldType))
abbrev mL_minuteOf : MD := (yL_minuteOf, cL_minuteOf, 4, (Option.some Jvm.ClassFile.FieldType.int : Option FieldType))
abbrev hhL_minuteOf : List (Nat × Nat × Nat × Nat) := [(0, 9, 12, 20)]
abbrev mX8_minuteOf : MD := (yX8_minuteOf, cX8_minuteOf, 2, (Option.some Jvm.ClassFile.FieldType.int : Option FieldType))
abbrev mL_versionAt : MD := (yL_versionAt, cL_versionAt, 4, (Option.some Jvm.ClassFile.FieldType.int : Option FieldType))
abbrev hhL_versionAt : List (Nat × Nat × Nat × Nat) := [(0, 9, 12, 20)]
abbrev mX8_versionAt : MD := (yX8_versionAt, cX8_versionAt, 2, (Option.some Jvm.ClassFile.FieldType.int : Option FieldType))
abbrev mL_hasArrived : MD := (yL_hasArrived, cL_hasArrived, 4, (Option.some Jvm.ClassFile.FieldType.int : Option FieldType))
abbrev hhL_hasArrived : List (Nat × Nat × Nat × Nat) := [(0, 16, 19, 20)]
abbrev mX8_hasArrived : MD := (yX8_hasArrived, cX8_hasArrived, 2, (Option.some Jvm.ClassFile.FieldType.boolean : Option FieldType))
abbrev mL_isBreach : MD := (yL_isBreach, cL_isBreach, 4, (Option.some Jvm.ClassFile.FieldType.int : Option FieldType))
abbrev hhL_isBreach : List (Nat × Nat × Nat × Nat) := [(0, 16, 19, 20)]
abbrev mX8_isBreach : MD := (yX8_isBreach, cX8_isBreach, 2, (Option.some Jvm.ClassFile.FieldType.boolean : Option FieldType))
abbrev mL_breachesAt : MD := (yL_breachesAt, cL_breachesAt, 4, (Option.some Jvm.ClassFile.FieldType.int : Option FieldType))
abbrev hhL_breachesAt : List (Nat × Nat × Nat × Nat) := [(0, 9, 12, 37)]
abbrev mX8_breachesAt : MD := (yX8_breachesAt, cX8_breachesAt, 5, (Option.some Jvm.ClassFile.FieldType.int : Option FieldType))
abbrev mL_meanDelay : MD := (yL_meanDelay, cL_meanDelay, 3, (Option.some Jvm.ClassFile.FieldType.int : Option FieldType))
abbrev hhL_meanDelay : List (Nat × Nat × Nat × Nat) := [(0, 7, 10, 113)]
abbrev mX8_meanDelay : MD := (yX8_meanDelay, cX8_meanDelay, 1, (Option.some Jvm.ClassFile.FieldType.double : Option FieldType))
abbrev mX8_meanOfDelays : MD := (yX8_meanOfDelays, cX8_meanOfDelays, 2, (Option.some Jvm.ClassFile.FieldType.double : Option FieldType))
abbrev mX8_arrivedCount : MD := (yX8_arrivedCount, cX8_arrivedCount, 3, (Option.some Jvm.ClassFile.FieldType.int : Option FieldType))
abbrev mL_meanBits : MD := (yL_meanBits, cL_meanBits, 3, (Option.some Jvm.ClassFile.FieldType.int : Option FieldType))
abbrev hhL_meanBits : List (Nat × Nat × Nat × Nat) := [(0, 7, 10, 113)]
abbrev mX8_meanBits : MD := (yX8_meanBits, cX8_meanBits, 1, (Option.some Jvm.ClassFile.FieldType.long : Option FieldType))
abbrev mL_arrivedShare : MD := (yL_arrivedShare, cL_arrivedShare, 3, (Option.some Jvm.ClassFile.FieldType.int : Option FieldType))
abbrev hhL_arrivedShare : List (Nat × Nat × Nat × Nat) := [(0, 8, 11, 113)]
abbrev mX8_arrivedShare : MD := (yX8_arrivedShare, cX8_arrivedShare, 2, (Option.some Jvm.ClassFile.FieldType.float : Option FieldType))
abbrev mX9_init : MD := (yX9_init, cX9_init, 1, (Option.none : Option FieldType))
abbrev mX9_thrown : MD := (yX9_thrown, cX9_thrown, 1, (Option.some Jvm.ClassFile.FieldType.int : Option FieldType))
abbrev mX9_addKey : MD := (yX9_addKey, cX9_addKey, 5, (Option.some Jvm.ClassFile.FieldType.int : Option FieldType))
abbrev mX9_isBetween : MD := (yX9_isBetween, cX9_isBetween, 3, (Option.some Jvm.ClassFile.FieldType.boolean : Option FieldType))
abbrev mX9_areTimes : MD := (yX9_areTimes, cX9_areTimes, 2, (Option.some Jvm.ClassFile.FieldType.boolean : Option FieldType))
abbrev mX9_fails : MD := (yX9_fails, cX9_fails, 2, (Option.some Jvm.ClassFile.FieldType.int : Option FieldType))
abbrev mX9_changes : MD := (yX9_changes, cX9_changes, 3, (Option.none : Option FieldType))
abbrev mX9_setTimes : MD := (yX9_setTimes, cX9_setTimes, 4, (Option.some Jvm.ClassFile.FieldType.int : Option FieldType))
abbrev mX9_isKey : MD := (yX9_isKey, cX9_isKey, 2, (Option.some Jvm.ClassFile.FieldType.boolean : Option FieldType))
abbrev mX9_isStuck : MD := (yX9_isStuck, cX9_isStuck, 2, (Option.some Jvm.ClassFile.FieldType.boolean : Option FieldType))
abbrev mX9_setDoors : MD := (yX9_setDoors, cX9_setDoors, 3, (Option.some Jvm.ClassFile.FieldType.int : Option FieldType))
abbrev mX9_revoke : MD := (yX9_revoke, cX9_revoke, 2, (Option.some Jvm.ClassFile.FieldType.int : Option FieldType))
abbrev mX9_version : MD := (yX9_version, cX9_version, 1, (Option.some Jvm.ClassFile.FieldType.int : Option FieldType))
abbrev mX9_addDoor : MD := (yX9_addDoor, cX9_addDoor, 1, (Option.some Jvm.ClassFile.FieldType.int : Option FieldType))
abbrev mX9_setRate : MD := (yX9_setRate, cX9_setRate, 3, (Option.some Jvm.ClassFile.FieldType.int : Option FieldType))
abbrev mX9_isDoor : MD := (yX9_isDoor, cX9_isDoor, 2, (Option.some Jvm.ClassFile.FieldType.boolean : Option FieldType))
abbrev mX9_clockOf : MD := (yX9_clockOf, cX9_clockOf, 2, (Option.some Jvm.ClassFile.FieldType.int : Option FieldType))
abbrev mX9_driftedOf : MD := (yX9_driftedOf, cX9_driftedOf, 2, (Option.some Jvm.ClassFile.FieldType.float : Option FieldType))
abbrev mX9_sets : MD := (yX9_sets, cX9_sets, 3, (Option.none : Option FieldType))
abbrev mX9_addPhone : MD := (yX9_addPhone, cX9_addPhone, 1, (Option.some Jvm.ClassFile.FieldType.int : Option FieldType))
abbrev mX9_pass : MD := (yX9_pass, cX9_pass, 2, (Option.some Jvm.ClassFile.FieldType.int : Option FieldType))
abbrev mX9_time : MD := (yX9_time, cX9_time, 1, (Option.some Jvm.ClassFile.FieldType.int : Option FieldType))
abbrev mX9_meetCloud : MD := (yX9_meetCloud, cX9_meetCloud, 4, (Option.some Jvm.ClassFile.FieldType.int : Option FieldType))
abbrev mX9_isPhone : MD := (yX9_isPhone, cX9_isPhone, 2, (Option.some Jvm.ClassFile.FieldType.boolean : Option FieldType))
abbrev mX9_meetDoor : MD := (yX9_meetDoor, cX9_meetDoor, 5, (Option.some Jvm.ClassFile.FieldType.int : Option FieldType))
abbrev mX9_open : MD := (yX9_open, cX9_open, 3, (Option.some Jvm.ClassFile.FieldType.char : Option FieldType))
abbrev mX9_isNone : MD := (yX9_isNone, cX9_isNone, 3, (Option.some Jvm.ClassFile.FieldType.boolean : Option FieldType))
abbrev mX9_letter : MD := (yX9_letter, cX9_letter, 5, (Option.some Jvm.ClassFile.FieldType.char : Option FieldType))
abbrev mX9_answer : MD := (yX9_answer, cX9_answer, 3, (Option.some Jvm.ClassFile.FieldType.char : Option FieldType))
abbrev mX9_clock : MD := (yX9_clock, cX9_clock, 2, (Option.some Jvm.ClassFile.FieldType.int : Option FieldType))
abbrev mX9_isNowhere : MD := (yX9_isNowhere, cX9_isNowhere, 2, (Option.some Jvm.ClassFile.FieldType.boolean : Option FieldType))
abbrev mX9_drifted : MD := (yX9_drifted, cX9_drifted, 2, (Option.some Jvm.ClassFile.FieldType.float : Option FieldType))
abbrev mX9_driftedBits : MD := (yX9_driftedBits, cX9_driftedBits, 2, (Option.some Jvm.ClassFile.FieldType.int : Option FieldType))
abbrev mJxf58ca_floatToIntBits_5c35a : MD := (yJxf58ca_floatToIntBits_5c35a, cJxf58ca_floatToIntBits_5c35a, 1, (Option.some Jvm.ClassFile.FieldType.int : Option FieldType))
abbrev mJxf58ca_isNaN_12338 : MD := (yJxf58ca_isNaN_12338, cJxf58ca_isNaN_12338, 1, (Option.some Jvm.ClassFile.FieldType.boolean : Option FieldType))
abbrev mX9_versionOf : MD := (yX9_versionOf, cX9_versionOf, 2, (Option.some Jvm.ClassFile.FieldType.int : Option FieldType))
abbrev mX9_versionByReplay : MD := (yX9_versionByReplay, cX9_versionByReplay, 2, (Option.some Jvm.ClassFile.FieldType.int : Option FieldType))
abbrev mX9_versionOn : MD := (yX9_versionOn, cX9_versionOn, 2, (Option.some Jvm.ClassFile.FieldType.int : Option FieldType))
abbrev mX9_fromIn : MD := (yX9_fromIn, cX9_fromIn, 3, (Option.some Jvm.ClassFile.FieldType.int : Option FieldType))
abbrev mX9_waiting : MD := (yX9_waiting, cX9_waiting, 4, (Option.some Jvm.ClassFile.FieldType.int : Option FieldType))
abbrev mX9_carried : MD := (yX9_carried, cX9_carried, 4, (Option.some Jvm.ClassFile.FieldType.int : Option FieldType))
abbrev mX9_audits : MD := (yX9_audits, cX9_audits, 1, (Option.some Jvm.ClassFile.FieldType.int : Option FieldType))
abbrev mX9_letterOf : MD := (yX9_letterOf, cX9_letterOf, 2, (Option.some Jvm.ClassFile.FieldType.char : Option FieldType))
abbrev mX9_isNoAudit : MD := (yX9_isNoAudit, cX9_isNoAudit, 2, (Option.some Jvm.ClassFile.FieldType.boolean : Option FieldType))
abbrev mX9_isAudit : MD := (yX9_isAudit, cX9_isAudit, 2, (Option.some Jvm.ClassFile.FieldType.boolean : Option FieldType))
abbrev mX9_letterByList : MD := (yX9_letterByList, cX9_letterByList, 2, (Option.some Jvm.ClassFile.FieldType.char : Option FieldType))
abbrev mX9_minuteOf : MD := (yX9_minuteOf, cX9_minuteOf, 2, (Option.some Jvm.ClassFile.FieldType.int : Option FieldType))
abbrev mX9_versionAt : MD := (yX9_versionAt, cX9_versionAt, 2, (Option.some Jvm.ClassFile.FieldType.int : Option FieldType))
abbrev mX9_hasArrived : MD := (yX9_hasArrived, cX9_hasArrived, 2, (Option.some Jvm.ClassFile.FieldType.boolean : Option FieldType))
abbrev mX9_isBreach : MD := (yX9_isBreach, cX9_isBreach, 2, (Option.some Jvm.ClassFile.FieldType.boolean : Option FieldType))
abbrev mX9_isBroken : MD := (yX9_isBroken, cX9_isBroken, 3, (Option.some Jvm.ClassFile.FieldType.boolean : Option FieldType))
abbrev mX9_breaches : MD := (yX9_breaches, cX9_breaches, 3, (Option.some Jvm.ClassFile.FieldType.int : Option FieldType))
abbrev mX9_breachesAt : MD := (yX9_breachesAt, cX9_breachesAt, 4, (Option.some Jvm.ClassFile.FieldType.int : Option FieldType))
abbrev mX9_delays : MD := (yX9_delays, cX9_delays, 1, (Option.some Jvm.ClassFile.FieldType.long : Option FieldType))
abbrev mX9_delaySum : MD := (yX9_delaySum, cX9_delaySum, 4, (Option.some Jvm.ClassFile.FieldType.long : Option FieldType))
abbrev mX9_meanDelay : MD := (yX9_meanDelay, cX9_meanDelay, 1, (Option.some Jvm.ClassFile.FieldType.double : Option FieldType))
abbrev mX9_mean : MD := (yX9_mean, cX9_mean, 1, (Option.some Jvm.ClassFile.FieldType.double : Option FieldType))
abbrev mX9_arrivedMany : MD := (yX9_arrivedMany, cX9_arrivedMany, 3, (Option.some Jvm.ClassFile.FieldType.int : Option FieldType))
abbrev mX9_meanBits : MD := (yX9_meanBits, cX9_meanBits, 1, (Option.some Jvm.ClassFile.FieldType.long : Option FieldType))
abbrev mJxe99ae_doubleToLongBits_ccdee : MD := (yJxe99ae_doubleToLongBits_ccdee, cJxe99ae_doubleToLongBits_ccdee, 2, (Option.some Jvm.ClassFile.FieldType.long : Option FieldType))
abbrev mJxe99ae_isNaN_b9ae7 : MD := (yJxe99ae_isNaN_b9ae7, cJxe99ae_isNaN_b9ae7, 2, (Option.some Jvm.ClassFile.FieldType.boolean : Option FieldType))
abbrev mX9_arrivedShare : MD := (yX9_arrivedShare, cX9_arrivedShare, 1, (Option.some Jvm.ClassFile.FieldType.float : Option FieldType))
abbrev mX9_isSound : MD := (yX9_isSound, cX9_isSound, 1, (Option.some Jvm.ClassFile.FieldType.boolean : Option FieldType))
theorem kiX8_init : KI mX8_init 0 := ⟨(List.mem_of_getElem? (i := 70) (by decide +kernel)), (List.mem_of_getElem? (i := 35) (by decide +kernel)), (List.mem_of_getElem? (i := 71) (by decide +kernel)), ⟨by decide +kernel, by decide +kernel⟩, by decide +kernel, by decide, rfl, rfl⟩
theorem kiX2_init : KI mX2_init 0 := ⟨(List.mem_of_getElem? (i := 78) (by decide +kernel)), (List.mem_of_getElem? (i := 36) (by decide +kernel)), (List.mem_of_getElem? (i := 79) (by decide +kernel)), ⟨by decide +kernel, by decide +kernel⟩, by decide +kernel, by decide, rfl, rfl⟩
theorem kiJx4a65c_init_da8c8 : KI mJx4a65c_init_da8c8 0 := ⟨(List.mem_of_getElem? (i := 84) (by decide +kernel)), (List.mem_of_getElem? (i := 39) (by decide +kernel)), (List.mem_of_getElem? (i := 85) (by decide +kernel)), ⟨by decide +kernel, by decide +kernel⟩, by decide +kernel, by decide, rfl, rfl⟩
theorem kiJxc12de_init_da8c8 : KI mJxc12de_init_da8c8 0 := ⟨(List.mem_of_getElem? (i := 87) (by decide +kernel)), (List.mem_of_getElem? (i := 38) (by decide +kernel)), (List.mem_of_getElem? (i := 88) (by decide +kernel)), ⟨by decide +kernel, by decide +kernel⟩, by decide +kernel, by decide, rfl, rfl⟩
theorem kiJxa1e45_init_da8c8 : KI mJxa1e45_init_da8c8 0 := ⟨(List.mem_of_getElem? (i := 90) (by decide +kernel)), (List.mem_of_getElem? (i := 37) (by decide +kernel)), (List.mem_of_getElem? (i := 91) (by decide +kernel)), ⟨by decide +kernel, by decide +kernel⟩, by decide +kernel, by decide, rfl, rfl⟩
theorem kiX6_init : KI mX6_init 0 := ⟨(List.mem_of_getElem? (i := 120) (by decide +kernel)), (List.mem_of_getElem? (i := 40) (by decide +kernel)), (List.mem_of_getElem? (i := 121) (by decide +kernel)), ⟨by decide +kernel, by decide +kernel⟩, by decide +kernel, by decide, rfl, rfl⟩
theorem kvX8_version : KV mX8_version 0 := ⟨(List.mem_of_getElem? (i := 153) (by decide +kernel)), (List.mem_of_getElem? (i := 154) (by decide +kernel)), (List.mem_of_getElem? (i := 35) (by decide +kernel)), (List.mem_of_getElem? (i := 155) (by decide +kernel)), ⟨by decide +kernel, by decide +kernel⟩, by decide +kernel, by decide⟩
theorem kvX2_newest : KV mX2_newest 0 := ⟨(List.mem_of_getElem? (i := 157) (by decide +kernel)), (List.mem_of_getElem? (i := 158) (by decide +kernel)), (List.mem_of_getElem? (i := 36) (by decide +kernel)), (List.mem_of_getElem? (i := 159) (by decide +kernel)), ⟨by decide +kernel, by decide +kernel⟩, by decide +kernel, by decide⟩
theorem kvJx4a65c_size_8abf5 : KV mJx4a65c_size_8abf5 0 := ⟨(List.mem_of_getElem? (i := 161) (by decide +kernel)), (List.mem_of_getElem? (i := 162) (by decide +kernel)), (List.mem_of_getElem? (i := 39) (by decide +kernel)), (List.mem_of_getElem? (i := 163) (by decide +kernel)), ⟨by decide +kernel, by decide +kernel⟩, by decide +kernel, by decide⟩
theorem kvX8_time : KV mX8_time 0 := ⟨(List.mem_of_getElem? (i := 165) (by decide +kernel)), (List.mem_of_getElem? (i := 166) (by decide +kernel)), (List.mem_of_getElem? (i := 35) (by decide +kernel)), (List.mem_of_getElem? (i := 167) (by decide +kernel)), ⟨by decide +kernel, by decide +kernel⟩, by decide +kernel, by decide⟩
theorem kvX8_audits : KV mX8_audits 0 := ⟨(List.mem_of_getElem? (i := 169) (by decide +kernel)), (List.mem_of_getElem? (i := 170) (by decide +kernel)), (List.mem_of_getElem? (i := 35) (by decide +kernel)), (List.mem_of_getElem? (i := 171) (by decide +kernel)), ⟨by decide +kernel, by decide +kernel⟩, by decide +kernel, by decide⟩
theorem kvX8_breaches : KV mX8_breaches 0 := ⟨(List.mem_of_getElem? (i := 174) (by decide +kernel)), (List.mem_of_getElem? (i := 175) (by decide +kernel)), (List.mem_of_getElem? (i := 35) (by decide +kernel)), (List.mem_of_getElem? (i := 176) (by decide +kernel)), ⟨by decide +kernel, by decide +kernel⟩, by decide +kernel, by decide⟩
theorem kvJx4a65c_get_915e3 : KV mJx4a65c_get_915e3 1 := ⟨(List.mem_of_getElem? (i := 178) (by decide +kernel)), (List.mem_of_getElem? (i := 179) (by decide +kernel)), (List.mem_of_getElem? (i := 39) (by decide +kernel)), (List.mem_of_getElem? (i := 180) (by decide +kernel)), ⟨by decide +kernel, by decide +kernel⟩, by decide +kernel, by decide⟩
theorem ksJ15_checkIndex_7cf53 : KS mJ15_checkIndex_7cf53 2 := ⟨(List.mem_of_getElem? (i := 182) (by decide +kernel)), (List.mem_of_getElem? (i := 52) (by decide +kernel)), (List.mem_of_getElem? (i := 183) (by decide +kernel)), ⟨by decide +kernel, by decide +kernel⟩, by decide +kernel, by decide⟩
theorem ksJ3_checkIndex_8e157 : KS mJ3_checkIndex_8e157 3 := ⟨(List.mem_of_getElem? (i := 185) (by decide +kernel)), (List.mem_of_getElem? (i := 53) (by decide +kernel)), (List.mem_of_getElem? (i := 186) (by decide +kernel)), ⟨by decide +kernel, by decide +kernel⟩, by decide +kernel, by decide⟩
theorem kvJx4a65c_elementData_915e3 : KV mJx4a65c_elementData_915e3 1 := ⟨(List.mem_of_getElem? (i := 188) (by decide +kernel)), (List.mem_of_getElem? (i := 189) (by decide +kernel)), (List.mem_of_getElem? (i := 39) (by decide +kernel)), (List.mem_of_getElem? (i := 190) (by decide +kernel)), ⟨by decide +kernel, by decide +kernel⟩, by decide +kernel, by decide⟩
theorem kvX8_isToldAsBreach : KV mX8_isToldAsBreach 1 := ⟨(List.mem_of_getElem? (i := 194) (by decide +kernel)), (List.mem_of_getElem? (i := 0) (by decide +kernel)), (List.mem_of_getElem? (i := 35) (by decide +kernel)), (List.mem_of_getElem? (i := 195) (by decide +kernel)), ⟨by decide +kernel, by decide +kernel⟩, by decide +kernel, by decide⟩
theorem kvX0_isInCloud : KV mX0_isInCloud 0 := ⟨(List.mem_of_getElem? (i := 197) (by decide +kernel)), (List.mem_of_getElem? (i := 198) (by decide +kernel)), (List.mem_of_getElem? (i := 61) (by decide +kernel)), (List.mem_of_getElem? (i := 199) (by decide +kernel)), ⟨by decide +kernel, by decide +kernel⟩, by decide +kernel, by decide⟩
theorem kvX2_newestAt : KV mX2_newestAt 1 := ⟨(List.mem_of_getElem? (i := 201) (by decide +kernel)), (List.mem_of_getElem? (i := 202) (by decide +kernel)), (List.mem_of_getElem? (i := 36) (by decide +kernel)), (List.mem_of_getElem? (i := 203) (by decide +kernel)), ⟨by decide +kernel, by decide +kernel⟩, by decide +kernel, by decide⟩
theorem kvX2_letterIn : KV mX2_letterIn 4 := ⟨(List.mem_of_getElem? (i := 207) (by decide +kernel)), (List.mem_of_getElem? (i := 208) (by decide +kernel)), (List.mem_of_getElem? (i := 36) (by decide +kernel)), (List.mem_of_getElem? (i := 209) (by decide +kernel)), ⟨by decide +kernel, by decide +kernel⟩, by decide +kernel, by decide⟩
theorem kvX2_keyIn : KV mX2_keyIn 2 := ⟨(List.mem_of_getElem? (i := 211) (by decide +kernel)), (List.mem_of_getElem? (i := 212) (by decide +kernel)), (List.mem_of_getElem? (i := 36) (by decide +kernel)), (List.mem_of_getElem? (i := 213) (by decide +kernel)), ⟨by decide +kernel, by decide +kernel⟩, by decide +kernel, by decide⟩
theorem ksJ9_min_7cf53 : KS mJ9_min_7cf53 2 := ⟨(List.mem_of_getElem? (i := 215) (by decide +kernel)), (List.mem_of_getElem? (i := 49) (by decide +kernel)), (List.mem_of_getElem? (i := 216) (by decide +kernel)), ⟨by decide +kernel, by decide +kernel⟩, by decide +kernel, by decide⟩
theorem kvX4_letterAt : KV mX4_letterAt 2 := ⟨(List.mem_of_getElem? (i := 218) (by decide +kernel)), (List.mem_of_getElem? (i := 219) (by decide +kernel)), (List.mem_of_getElem? (i := 47) (by decide +kernel)), (List.mem_of_getElem? (i := 220) (by decide +kernel)), ⟨by decide +kernel, by decide +kernel⟩, by decide +kernel, by decide⟩
theorem kvX8_delays : KV mX8_delays 0 := ⟨(List.mem_of_getElem? (i := 222) (by decide +kernel)), (List.mem_of_getElem? (i := 223) (by decide +kernel)), (List.mem_of_getElem? (i := 35) (by decide +kernel)), (List.mem_of_getElem? (i := 224) (by decide +kernel)), ⟨by decide +kernel, by decide +kernel⟩, by decide +kernel, by decide⟩
theorem kvX8_isSound : KV mX8_isSound 0 := ⟨(List.mem_of_getElem? (i := 226) (by decide +kernel)), (List.mem_of_getElem? (i := 227) (by decide +kernel)), (List.mem_of_getElem? (i := 35) (by decide +kernel)), (List.mem_of_getElem? (i := 228) (by decide +kernel)), ⟨by decide +kernel, by decide +kernel⟩, by decide +kernel, by decide⟩
theorem kvX8_areDoorsSound : KV mX8_areDoorsSound 0 := ⟨(List.mem_of_getElem? (i := 231) (by decide +kernel)), (List.mem_of_getElem? (i := 1) (by decide +kernel)), (List.mem_of_getElem? (i := 35) (by decide +kernel)), (List.mem_of_getElem? (i := 232) (by decide +kernel)), ⟨by decide +kernel, by decide +kernel⟩, by decide +kernel, by decide⟩
theorem kvX6_replay : KV mX6_replay 2 := ⟨(List.mem_of_getElem? (i := 235) (by decide +kernel)), (List.mem_of_getElem? (i := 236) (by decide +kernel)), (List.mem_of_getElem? (i := 40) (by decide +kernel)), (List.mem_of_getElem? (i := 237) (by decide +kernel)), ⟨by decide +kernel, by decide +kernel⟩, by decide +kernel, by decide⟩
theorem ksJ7_fill_53178 : KS mJ7_fill_53178 2 := ⟨(List.mem_of_getElem? (i := 239) (by decide +kernel)), (List.mem_of_getElem? (i := 50) (by decide +kernel)), (List.mem_of_getElem? (i := 240) (by decide +kernel)), ⟨by decide +kernel, by decide +kernel⟩, by decide +kernel, by decide⟩
theorem ksJ9_max_7cf53 : KS mJ9_max_7cf53 2 := ⟨(List.mem_of_getElem? (i := 245) (by decide +kernel)), (List.mem_of_getElem? (i := 49) (by decide +kernel)), (List.mem_of_getElem? (i := 246) (by decide +kernel)), ⟨by decide +kernel, by decide +kernel⟩, by decide +kernel, by decide⟩
theorem kvX8_arePhonesSound : KV mX8_arePhonesSound 0 := ⟨(List.mem_of_getElem? (i := 249) (by decide +kernel)), (List.mem_of_getElem? (i := 2) (by decide +kernel)), (List.mem_of_getElem? (i := 35) (by decide +kernel)), (List.mem_of_getElem? (i := 250) (by decide +kernel)), ⟨by decide +kernel, by decide +kernel⟩, by decide +kernel, by decide⟩
theorem kvX8_areAuditsSound : KV mX8_areAuditsSound 0 := ⟨(List.mem_of_getElem? (i := 254) (by decide +kernel)), (List.mem_of_getElem? (i := 3) (by decide +kernel)), (List.mem_of_getElem? (i := 35) (by decide +kernel)), (List.mem_of_getElem? (i := 255) (by decide +kernel)), ⟨by decide +kernel, by decide +kernel⟩, by decide +kernel, by decide⟩
theorem kvX8_letterAgain : KV mX8_letterAgain 1 := ⟨(List.mem_of_getElem? (i := 258) (by decide +kernel)), (List.mem_of_getElem? (i := 4) (by decide +kernel)), (List.mem_of_getElem? (i := 35) (by decide +kernel)), (List.mem_of_getElem? (i := 259) (by decide +kernel)), ⟨by decide +kernel, by decide +kernel⟩, by decide +kernel, by decide⟩
theorem kwL_addKey : KW mL_addKey hhL_addKey 5 := ⟨(List.mem_of_getElem? (i := 261) (by decide +kernel)), (List.mem_of_getElem? (i := 34) (by decide +kernel)), (List.mem_of_getElem? (i := 262) (by decide +kernel)), ⟨by decide +kernel, by decide +kernel⟩, by decide +kernel, by decide⟩
theorem kvX8_addKey : KV mX8_addKey 3 := ⟨(List.mem_of_getElem? (i := 266) (by decide +kernel)), (List.mem_of_getElem? (i := 267) (by decide +kernel)), (List.mem_of_getElem? (i := 35) (by decide +kernel)), (List.mem_of_getElem? (i := 268) (by decide +kernel)), ⟨by decide +kernel, by decide +kernel⟩, by decide +kernel, by decide⟩
theorem ksX8_checkDoorSet : KS mX8_checkDoorSet 1 := ⟨(List.mem_of_getElem? (i := 270) (by decide +kernel)), (List.mem_of_getElem? (i := 35) (by decide +kernel)), (List.mem_of_getElem? (i := 271) (by decide +kernel)), ⟨by decide +kernel, by decide +kernel⟩, by decide +kernel, by decide⟩
theorem ksX8_checkTimes : KS mX8_checkTimes 2 := ⟨(List.mem_of_getElem? (i := 344) (by decide +kernel)), (List.mem_of_getElem? (i := 35) (by decide +kernel)), (List.mem_of_getElem? (i := 345) (by decide +kernel)), ⟨by decide +kernel, by decide +kernel⟩, by decide +kernel, by decide⟩
theorem kvX8_checkRoomForChange : KV mX8_checkRoomForChange 0 := ⟨(List.mem_of_getElem? (i := 366) (by decide +kernel)), (List.mem_of_getElem? (i := 6) (by decide +kernel)), (List.mem_of_getElem? (i := 35) (by decide +kernel)), (List.mem_of_getElem? (i := 367) (by decide +kernel)), ⟨by decide +kernel, by decide +kernel⟩, by decide +kernel, by decide⟩
theorem kiX4_init : KI mX4_init 6 := ⟨(List.mem_of_getElem? (i := 372) (by decide +kernel)), (List.mem_of_getElem? (i := 47) (by decide +kernel)), (List.mem_of_getElem? (i := 373) (by decide +kernel)), ⟨by decide +kernel, by decide +kernel⟩, by decide +kernel, by decide, rfl, rfl⟩
theorem kvX2_keep : KV mX2_keep 1 := ⟨(List.mem_of_getElem? (i := 401) (by decide +kernel)), (List.mem_of_getElem? (i := 402) (by decide +kernel)), (List.mem_of_getElem? (i := 36) (by decide +kernel)), (List.mem_of_getElem? (i := 403) (by decide +kernel)), ⟨by decide +kernel, by decide +kernel⟩, by decide +kernel, by decide⟩
theorem kvJx4a65c_add_9ea2d : KV mJx4a65c_add_9ea2d 1 := ⟨(List.mem_of_getElem? (i := 405) (by decide +kernel)), (List.mem_of_getElem? (i := 406) (by decide +kernel)), (List.mem_of_getElem? (i := 39) (by decide +kernel)), (List.mem_of_getElem? (i := 407) (by decide +kernel)), ⟨by decide +kernel, by decide +kernel⟩, by decide +kernel, by decide⟩
theorem kvJx4a65c_add_72be8 : KV mJx4a65c_add_72be8 3 := ⟨(List.mem_of_getElem? (i := 410) (by decide +kernel)), (List.mem_of_getElem? (i := 7) (by decide +kernel)), (List.mem_of_getElem? (i := 39) (by decide +kernel)), (List.mem_of_getElem? (i := 411) (by decide +kernel)), ⟨by decide +kernel, by decide +kernel⟩, by decide +kernel, by decide⟩
theorem kvJx4a65c_grow_d5877 : KV mJx4a65c_grow_d5877 0 := ⟨(List.mem_of_getElem? (i := 414) (by decide +kernel)), (List.mem_of_getElem? (i := 8) (by decide +kernel)), (List.mem_of_getElem? (i := 39) (by decide +kernel)), (List.mem_of_getElem? (i := 415) (by decide +kernel)), ⟨by decide +kernel, by decide +kernel⟩, by decide +kernel, by decide⟩
theorem kvJx4a65c_grow_92f84 : KV mJx4a65c_grow_92f84 1 := ⟨(List.mem_of_getElem? (i := 418) (by decide +kernel)), (List.mem_of_getElem? (i := 9) (by decide +kernel)), (List.mem_of_getElem? (i := 39) (by decide +kernel)), (List.mem_of_getElem? (i := 419) (by decide +kernel)), ⟨by decide +kernel, by decide +kernel⟩, by decide +kernel, by decide⟩
theorem ksJ8_newLength_cabcc : KS mJ8_newLength_cabcc 3 := ⟨(List.mem_of_getElem? (i := 421) (by decide +kernel)), (List.mem_of_getElem? (i := 48) (by decide +kernel)), (List.mem_of_getElem? (i := 422) (by decide +kernel)), ⟨by decide +kernel, by decide +kernel⟩, by decide +kernel, by decide⟩
theorem ksJ8_hugeLength_7cf53 : KS mJ8_hugeLength_7cf53 2 := ⟨(List.mem_of_getElem? (i := 426) (by decide +kernel)), (List.mem_of_getElem? (i := 48) (by decide +kernel)), (List.mem_of_getElem? (i := 427) (by decide +kernel)), ⟨by decide +kernel, by decide +kernel⟩, by decide +kernel, by decide⟩
theorem ksJ7_copyOf_1904c : KS mJ7_copyOf_1904c 2 := ⟨(List.mem_of_getElem? (i := 429) (by decide +kernel)), (List.mem_of_getElem? (i := 50) (by decide +kernel)), (List.mem_of_getElem? (i := 430) (by decide +kernel)), ⟨by decide +kernel, by decide +kernel⟩, by decide +kernel, by decide⟩
theorem ksJ7_copyOf_6403c : KS mJ7_copyOf_6403c 3 := ⟨(List.mem_of_getElem? (i := 452) (by decide +kernel)), (List.mem_of_getElem? (i := 50) (by decide +kernel)), (List.mem_of_getElem? (i := 453) (by decide +kernel)), ⟨by decide +kernel, by decide +kernel⟩, by decide +kernel, by decide⟩
theorem kwL_setTimes : KW mL_setTimes hhL_setTimes 5 := ⟨(List.mem_of_getElem? (i := 464) (by decide +kernel)), (List.mem_of_getElem? (i := 34) (by decide +kernel)), (List.mem_of_getElem? (i := 465) (by decide +kernel)), ⟨by decide +kernel, by decide +kernel⟩, by decide +kernel, by decide⟩
theorem kvX8_setTimes : KV mX8_setTimes 3 := ⟨(List.mem_of_getElem? (i := 468) (by decide +kernel)), (List.mem_of_getElem? (i := 469) (by decide +kernel)), (List.mem_of_getElem? (i := 35) (by decide +kernel)), (List.mem_of_getElem? (i := 470) (by decide +kernel)), ⟨by decide +kernel, by decide +kernel⟩, by decide +kernel, by decide⟩
theorem kvX8_presentKey : KV mX8_presentKey 1 := ⟨(List.mem_of_getElem? (i := 473) (by decide +kernel)), (List.mem_of_getElem? (i := 10) (by decide +kernel)), (List.mem_of_getElem? (i := 35) (by decide +kernel)), (List.mem_of_getElem? (i := 474) (by decide +kernel)), ⟨by decide +kernel, by decide +kernel⟩, by decide +kernel, by decide⟩
theorem ksX8_checkNotRevoked : KS mX8_checkNotRevoked 1 := ⟨(List.mem_of_getElem? (i := 493) (by decide +kernel)), (List.mem_of_getElem? (i := 35) (by decide +kernel)), (List.mem_of_getElem? (i := 494) (by decide +kernel)), ⟨by decide +kernel, by decide +kernel⟩, by decide +kernel, by decide⟩
theorem kwL_setDoors : KW mL_setDoors hhL_setDoors 4 := ⟨(List.mem_of_getElem? (i := 497) (by decide +kernel)), (List.mem_of_getElem? (i := 34) (by decide +kernel)), (List.mem_of_getElem? (i := 498) (by decide +kernel)), ⟨by decide +kernel, by decide +kernel⟩, by decide +kernel, by decide⟩
theorem kvX8_setDoors : KV mX8_setDoors 2 := ⟨(List.mem_of_getElem? (i := 500) (by decide +kernel)), (List.mem_of_getElem? (i := 501) (by decide +kernel)), (List.mem_of_getElem? (i := 35) (by decide +kernel)), (List.mem_of_getElem? (i := 502) (by decide +kernel)), ⟨by decide +kernel, by decide +kernel⟩, by decide +kernel, by decide⟩
theorem kwL_revoke : KW mL_revoke hhL_revoke 3 := ⟨(List.mem_of_getElem? (i := 504) (by decide +kernel)), (List.mem_of_getElem? (i := 34) (by decide +kernel)), (List.mem_of_getElem? (i := 505) (by decide +kernel)), ⟨by decide +kernel, by decide +kernel⟩, by decide +kernel, by decide⟩
theorem kvX8_revoke : KV mX8_revoke 1 := ⟨(List.mem_of_getElem? (i := 507) (by decide +kernel)), (List.mem_of_getElem? (i := 508) (by decide +kernel)), (List.mem_of_getElem? (i := 35) (by decide +kernel)), (List.mem_of_getElem? (i := 509) (by decide +kernel)), ⟨by decide +kernel, by decide +kernel⟩, by decide +kernel, by decide⟩
theorem kwL_addDoor : KW mL_addDoor hhL_addDoor 2 := ⟨(List.mem_of_getElem? (i := 511) (by decide +kernel)), (List.mem_of_getElem? (i := 34) (by decide +kernel)), (List.mem_of_getElem? (i := 512) (by decide +kernel)), ⟨by decide +kernel, by decide +kernel⟩, by decide +kernel, by decide⟩
theorem kvX8_addDoor : KV mX8_addDoor 0 := ⟨(List.mem_of_getElem? (i := 514) (by decide +kernel)), (List.mem_of_getElem? (i := 515) (by decide +kernel)), (List.mem_of_getElem? (i := 35) (by decide +kernel)), (List.mem_of_getElem? (i := 516) (by decide +kernel)), ⟨by decide +kernel, by decide +kernel⟩, by decide +kernel, by decide⟩
theorem kiX3_init : KI mX3_init 2 := ⟨(List.mem_of_getElem? (i := 520) (by decide +kernel)), (List.mem_of_getElem? (i := 55) (by decide +kernel)), (List.mem_of_getElem? (i := 521) (by decide +kernel)), ⟨by decide +kernel, by decide +kernel⟩, by decide +kernel, by decide, rfl, rfl⟩
theorem kwL_setRate : KW mL_setRate hhL_setRate 4 := ⟨(List.mem_of_getElem? (i := 544) (by decide +kernel)), (List.mem_of_getElem? (i := 34) (by decide +kernel)), (List.mem_of_getElem? (i := 545) (by decide +kernel)), ⟨by decide +kernel, by decide +kernel⟩, by decide +kernel, by decide⟩
theorem kiJx00060_init_a7421 : KI mJx00060_init_a7421 1 := ⟨(List.mem_of_getElem? (i := 548) (by decide +kernel)), (List.mem_of_getElem? (i := 57) (by decide +kernel)), (List.mem_of_getElem? (i := 549) (by decide +kernel)), ⟨by decide +kernel, by decide +kernel⟩, by decide +kernel, by decide, rfl, rfl⟩
theorem kvX8_setRate : KV mX8_setRate 2 := ⟨(List.mem_of_getElem? (i := 571) (by decide +kernel)), (List.mem_of_getElem? (i := 572) (by decide +kernel)), (List.mem_of_getElem? (i := 35) (by decide +kernel)), (List.mem_of_getElem? (i := 573) (by decide +kernel)), ⟨by decide +kernel, by decide +kernel⟩, by decide +kernel, by decide⟩
theorem kvX8_doorOf : KV mX8_doorOf 1 := ⟨(List.mem_of_getElem? (i := 576) (by decide +kernel)), (List.mem_of_getElem? (i := 11) (by decide +kernel)), (List.mem_of_getElem? (i := 35) (by decide +kernel)), (List.mem_of_getElem? (i := 577) (by decide +kernel)), ⟨by decide +kernel, by decide +kernel⟩, by decide +kernel, by decide⟩
theorem kvX3_minuteAt : KV mX3_minuteAt 1 := ⟨(List.mem_of_getElem? (i := 593) (by decide +kernel)), (List.mem_of_getElem? (i := 594) (by decide +kernel)), (List.mem_of_getElem? (i := 55) (by decide +kernel)), (List.mem_of_getElem? (i := 595) (by decide +kernel)), ⟨by decide +kernel, by decide +kernel⟩, by decide +kernel, by decide⟩
theorem kvX3_driftAt : KV mX3_driftAt 1 := ⟨(List.mem_of_getElem? (i := 597) (by decide +kernel)), (List.mem_of_getElem? (i := 598) (by decide +kernel)), (List.mem_of_getElem? (i := 55) (by decide +kernel)), (List.mem_of_getElem? (i := 599) (by decide +kernel)), ⟨by decide +kernel, by decide +kernel⟩, by decide +kernel, by decide⟩
theorem kvX3_setClock : KV mX3_setClock 2 := ⟨(List.mem_of_getElem? (i := 601) (by decide +kernel)), (List.mem_of_getElem? (i := 602) (by decide +kernel)), (List.mem_of_getElem? (i := 55) (by decide +kernel)), (List.mem_of_getElem? (i := 603) (by decide +kernel)), ⟨by decide +kernel, by decide +kernel⟩, by decide +kernel, by decide⟩
theorem kwL_addPhone : KW mL_addPhone hhL_addPhone 2 := ⟨(List.mem_of_getElem? (i := 606) (by decide +kernel)), (List.mem_of_getElem? (i := 34) (by decide +kernel)), (List.mem_of_getElem? (i := 607) (by decide +kernel)), ⟨by decide +kernel, by decide +kernel⟩, by decide +kernel, by decide⟩
theorem kvX8_addPhone : KV mX8_addPhone 0 := ⟨(List.mem_of_getElem? (i := 609) (by decide +kernel)), (List.mem_of_getElem? (i := 610) (by decide +kernel)), (List.mem_of_getElem? (i := 35) (by decide +kernel)), (List.mem_of_getElem? (i := 611) (by decide +kernel)), ⟨by decide +kernel, by decide +kernel⟩, by decide +kernel, by decide⟩
theorem kiX7_init : KI mX7_init 0 := ⟨(List.mem_of_getElem? (i := 615) (by decide +kernel)), (List.mem_of_getElem? (i := 59) (by decide +kernel)), (List.mem_of_getElem? (i := 616) (by decide +kernel)), ⟨by decide +kernel, by decide +kernel⟩, by decide +kernel, by decide, rfl, rfl⟩
theorem kwL_pass : KW mL_pass hhL_pass 3 := ⟨(List.mem_of_getElem? (i := 624) (by decide +kernel)), (List.mem_of_getElem? (i := 34) (by decide +kernel)), (List.mem_of_getElem? (i := 625) (by decide +kernel)), ⟨by decide +kernel, by decide +kernel⟩, by decide +kernel, by decide⟩
theorem kvX8_pass : KV mX8_pass 1 := ⟨(List.mem_of_getElem? (i := 627) (by decide +kernel)), (List.mem_of_getElem? (i := 628) (by decide +kernel)), (List.mem_of_getElem? (i := 35) (by decide +kernel)), (List.mem_of_getElem? (i := 629) (by decide +kernel)), ⟨by decide +kernel, by decide +kernel⟩, by decide +kernel, by decide⟩
theorem kwL_meetCloud : KW mL_meetCloud hhL_meetCloud 3 := ⟨(List.mem_of_getElem? (i := 633) (by decide +kernel)), (List.mem_of_getElem? (i := 34) (by decide +kernel)), (List.mem_of_getElem? (i := 634) (by decide +kernel)), ⟨by decide +kernel, by decide +kernel⟩, by decide +kernel, by decide⟩
theorem kvX8_meetCloud : KV mX8_meetCloud 1 := ⟨(List.mem_of_getElem? (i := 636) (by decide +kernel)), (List.mem_of_getElem? (i := 637) (by decide +kernel)), (List.mem_of_getElem? (i := 35) (by decide +kernel)), (List.mem_of_getElem? (i := 638) (by decide +kernel)), ⟨by decide +kernel, by decide +kernel⟩, by decide +kernel, by decide⟩
theorem kvX8_phoneOf : KV mX8_phoneOf 1 := ⟨(List.mem_of_getElem? (i := 641) (by decide +kernel)), (List.mem_of_getElem? (i := 12) (by decide +kernel)), (List.mem_of_getElem? (i := 35) (by decide +kernel)), (List.mem_of_getElem? (i := 642) (by decide +kernel)), ⟨by decide +kernel, by decide +kernel⟩, by decide +kernel, by decide⟩
theorem kiX5_init : KI mX5_init 3 := ⟨(List.mem_of_getElem? (i := 647) (by decide +kernel)), (List.mem_of_getElem? (i := 60) (by decide +kernel)), (List.mem_of_getElem? (i := 648) (by decide +kernel)), ⟨by decide +kernel, by decide +kernel⟩, by decide +kernel, by decide, rfl, rfl⟩
theorem kvX6_keep : KV mX6_keep 1 := ⟨(List.mem_of_getElem? (i := 664) (by decide +kernel)), (List.mem_of_getElem? (i := 665) (by decide +kernel)), (List.mem_of_getElem? (i := 40) (by decide +kernel)), (List.mem_of_getElem? (i := 666) (by decide +kernel)), ⟨by decide +kernel, by decide +kernel⟩, by decide +kernel, by decide⟩
theorem kvX0_isCarriedBy : KV mX0_isCarriedBy 1 := ⟨(List.mem_of_getElem? (i := 669) (by decide +kernel)), (List.mem_of_getElem? (i := 670) (by decide +kernel)), (List.mem_of_getElem? (i := 61) (by decide +kernel)), (List.mem_of_getElem? (i := 671) (by decide +kernel)), ⟨by decide +kernel, by decide +kernel⟩, by decide +kernel, by decide⟩
theorem kwL_meetDoor : KW mL_meetDoor hhL_meetDoor 4 := ⟨(List.mem_of_getElem? (i := 673) (by decide +kernel)), (List.mem_of_getElem? (i := 34) (by decide +kernel)), (List.mem_of_getElem? (i := 674) (by decide +kernel)), ⟨by decide +kernel, by decide +kernel⟩, by decide +kernel, by decide⟩
theorem kvX8_meetDoor : KV mX8_meetDoor 2 := ⟨(List.mem_of_getElem? (i := 676) (by decide +kernel)), (List.mem_of_getElem? (i := 677) (by decide +kernel)), (List.mem_of_getElem? (i := 35) (by decide +kernel)), (List.mem_of_getElem? (i := 678) (by decide +kernel)), ⟨by decide +kernel, by decide +kernel⟩, by decide +kernel, by decide⟩
theorem kvX0_isWaitingAt : KV mX0_isWaitingAt 1 := ⟨(List.mem_of_getElem? (i := 681) (by decide +kernel)), (List.mem_of_getElem? (i := 682) (by decide +kernel)), (List.mem_of_getElem? (i := 61) (by decide +kernel)), (List.mem_of_getElem? (i := 683) (by decide +kernel)), ⟨by decide +kernel, by decide +kernel⟩, by decide +kernel, by decide⟩
theorem kwL_open : KW mL_open hhL_open 4 := ⟨(List.mem_of_getElem? (i := 685) (by decide +kernel)), (List.mem_of_getElem? (i := 34) (by decide +kernel)), (List.mem_of_getElem? (i := 686) (by decide +kernel)), ⟨by decide +kernel, by decide +kernel⟩, by decide +kernel, by decide⟩
theorem kvX8_open : KV mX8_open 2 := ⟨(List.mem_of_getElem? (i := 688) (by decide +kernel)), (List.mem_of_getElem? (i := 689) (by decide +kernel)), (List.mem_of_getElem? (i := 35) (by decide +kernel)), (List.mem_of_getElem? (i := 690) (by decide +kernel)), ⟨by decide +kernel, by decide +kernel⟩, by decide +kernel, by decide⟩
theorem kiX0_init : KI mX0_init 6 := ⟨(List.mem_of_getElem? (i := 694) (by decide +kernel)), (List.mem_of_getElem? (i := 61) (by decide +kernel)), (List.mem_of_getElem? (i := 695) (by decide +kernel)), ⟨by decide +kernel, by decide +kernel⟩, by decide +kernel, by decide, rfl, rfl⟩
theorem kwL_answer : KW mL_answer hhL_answer 4 := ⟨(List.mem_of_getElem? (i := 731) (by decide +kernel)), (List.mem_of_getElem? (i := 34) (by decide +kernel)), (List.mem_of_getElem? (i := 732) (by decide +kernel)), ⟨by decide +kernel, by decide +kernel⟩, by decide +kernel, by decide⟩
theorem kvX8_answer : KV mX8_answer 2 := ⟨(List.mem_of_getElem? (i := 734) (by decide +kernel)), (List.mem_of_getElem? (i := 735) (by decide +kernel)), (List.mem_of_getElem? (i := 35) (by decide +kernel)), (List.mem_of_getElem? (i := 736) (by decide +kernel)), ⟨by decide +kernel, by decide +kernel⟩, by decide +kernel, by decide⟩
theorem kwL_clock : KW mL_clock hhL_clock 3 := ⟨(List.mem_of_getElem? (i := 738) (by decide +kernel)), (List.mem_of_getElem? (i := 34) (by decide +kernel)), (List.mem_of_getElem? (i := 739) (by decide +kernel)), ⟨by decide +kernel, by decide +kernel⟩, by decide +kernel, by decide⟩
theorem kvX8_clock : KV mX8_clock 1 := ⟨(List.mem_of_getElem? (i := 741) (by decide +kernel)), (List.mem_of_getElem? (i := 742) (by decide +kernel)), (List.mem_of_getElem? (i := 35) (by decide +kernel)), (List.mem_of_getElem? (i := 743) (by decide +kernel)), ⟨by decide +kernel, by decide +kernel⟩, by decide +kernel, by decide⟩
theorem kwL_drifted : KW mL_drifted hhL_drifted 3 := ⟨(List.mem_of_getElem? (i := 745) (by decide +kernel)), (List.mem_of_getElem? (i := 34) (by decide +kernel)), (List.mem_of_getElem? (i := 746) (by decide +kernel)), ⟨by decide +kernel, by decide +kernel⟩, by decide +kernel, by decide⟩
theorem kvX8_drifted : KV mX8_drifted 1 := ⟨(List.mem_of_getElem? (i := 748) (by decide +kernel)), (List.mem_of_getElem? (i := 749) (by decide +kernel)), (List.mem_of_getElem? (i := 35) (by decide +kernel)), (List.mem_of_getElem? (i := 750) (by decide +kernel)), ⟨by decide +kernel, by decide +kernel⟩, by decide +kernel, by decide⟩
theorem kwL_driftedBits : KW mL_driftedBits hhL_driftedBits 3 := ⟨(List.mem_of_getElem? (i := 753) (by decide +kernel)), (List.mem_of_getElem? (i := 34) (by decide +kernel)), (List.mem_of_getElem? (i := 754) (by decide +kernel)), ⟨by decide +kernel, by decide +kernel⟩, by decide +kernel, by decide⟩
theorem kvX8_driftedBits : KV mX8_driftedBits 1 := ⟨(List.mem_of_getElem? (i := 756) (by decide +kernel)), (List.mem_of_getElem? (i := 757) (by decide +kernel)), (List.mem_of_getElem? (i := 35) (by decide +kernel)), (List.mem_of_getElem? (i := 758) (by decide +kernel)), ⟨by decide +kernel, by decide +kernel⟩, by decide +kernel, by decide⟩
theorem ksX1_ofFloat : KS mX1_ofFloat 1 := ⟨(List.mem_of_getElem? (i := 760) (by decide +kernel)), (List.mem_of_getElem? (i := 62) (by decide +kernel)), (List.mem_of_getElem? (i := 761) (by decide +kernel)), ⟨by decide +kernel, by decide +kernel⟩, by decide +kernel, by decide⟩
theorem ksX1_ofDouble : KS mX1_ofDouble 1 := ⟨(List.mem_of_getElem? (i := 763) (by decide +kernel)), (List.mem_of_getElem? (i := 62) (by decide +kernel)), (List.mem_of_getElem? (i := 764) (by decide +kernel)), ⟨by decide +kernel, by decide +kernel⟩, by decide +kernel, by decide⟩
theorem kwL_versionOf : KW mL_versionOf hhL_versionOf 3 := ⟨(List.mem_of_getElem? (i := 769) (by decide +kernel)), (List.mem_of_getElem? (i := 34) (by decide +kernel)), (List.mem_of_getElem? (i := 770) (by decide +kernel)), ⟨by decide +kernel, by decide +kernel⟩, by decide +kernel, by decide⟩
theorem kvX8_versionOf : KV mX8_versionOf 1 := ⟨(List.mem_of_getElem? (i := 772) (by decide +kernel)), (List.mem_of_getElem? (i := 773) (by decide +kernel)), (List.mem_of_getElem? (i := 35) (by decide +kernel)), (List.mem_of_getElem? (i := 774) (by decide +kernel)), ⟨by decide +kernel, by decide +kernel⟩, by decide +kernel, by decide⟩
theorem kwL_versionByReplay : KW mL_versionByReplay hhL_versionByReplay 3 := ⟨(List.mem_of_getElem? (i := 776) (by decide +kernel)), (List.mem_of_getElem? (i := 34) (by decide +kernel)), (List.mem_of_getElem? (i := 777) (by decide +kernel)), ⟨by decide +kernel, by decide +kernel⟩, by decide +kernel, by decide⟩
theorem kvX8_versionByReplay : KV mX8_versionByReplay 1 := ⟨(List.mem_of_getElem? (i := 779) (by decide +kernel)), (List.mem_of_getElem? (i := 780) (by decide +kernel)), (List.mem_of_getElem? (i := 35) (by decide +kernel)), (List.mem_of_getElem? (i := 781) (by decide +kernel)), ⟨by decide +kernel, by decide +kernel⟩, by decide +kernel, by decide⟩
theorem kwL_versionOn : KW mL_versionOn hhL_versionOn 3 := ⟨(List.mem_of_getElem? (i := 783) (by decide +kernel)), (List.mem_of_getElem? (i := 34) (by decide +kernel)), (List.mem_of_getElem? (i := 784) (by decide +kernel)), ⟨by decide +kernel, by decide +kernel⟩, by decide +kernel, by decide⟩
theorem kvX8_versionOn : KV mX8_versionOn 1 := ⟨(List.mem_of_getElem? (i := 786) (by decide +kernel)), (List.mem_of_getElem? (i := 787) (by decide +kernel)), (List.mem_of_getElem? (i := 35) (by decide +kernel)), (List.mem_of_getElem? (i := 788) (by decide +kernel)), ⟨by decide +kernel, by decide +kernel⟩, by decide +kernel, by decide⟩
theorem kwL_fromIn : KW mL_fromIn hhL_fromIn 4 := ⟨(List.mem_of_getElem? (i := 790) (by decide +kernel)), (List.mem_of_getElem? (i := 34) (by decide +kernel)), (List.mem_of_getElem? (i := 791) (by decide +kernel)), ⟨by decide +kernel, by decide +kernel⟩, by decide +kernel, by decide⟩
theorem kvX8_fromIn : KV mX8_fromIn 2 := ⟨(List.mem_of_getElem? (i := 793) (by decide +kernel)), (List.mem_of_getElem? (i := 794) (by decide +kernel)), (List.mem_of_getElem? (i := 35) (by decide +kernel)), (List.mem_of_getElem? (i := 795) (by decide +kernel)), ⟨by decide +kernel, by decide +kernel⟩, by decide +kernel, by decide⟩
theorem kwL_waiting : KW mL_waiting hhL_waiting 3 := ⟨(List.mem_of_getElem? (i := 798) (by decide +kernel)), (List.mem_of_getElem? (i := 34) (by decide +kernel)), (List.mem_of_getElem? (i := 799) (by decide +kernel)), ⟨by decide +kernel, by decide +kernel⟩, by decide +kernel, by decide⟩
theorem kvX8_waiting : KV mX8_waiting 1 := ⟨(List.mem_of_getElem? (i := 801) (by decide +kernel)), (List.mem_of_getElem? (i := 802) (by decide +kernel)), (List.mem_of_getElem? (i := 35) (by decide +kernel)), (List.mem_of_getElem? (i := 803) (by decide +kernel)), ⟨by decide +kernel, by decide +kernel⟩, by decide +kernel, by decide⟩
theorem kwL_carried : KW mL_carried hhL_carried 3 := ⟨(List.mem_of_getElem? (i := 805) (by decide +kernel)), (List.mem_of_getElem? (i := 34) (by decide +kernel)), (List.mem_of_getElem? (i := 806) (by decide +kernel)), ⟨by decide +kernel, by decide +kernel⟩, by decide +kernel, by decide⟩
theorem kvX8_carried : KV mX8_carried 1 := ⟨(List.mem_of_getElem? (i := 808) (by decide +kernel)), (List.mem_of_getElem? (i := 809) (by decide +kernel)), (List.mem_of_getElem? (i := 35) (by decide +kernel)), (List.mem_of_getElem? (i := 810) (by decide +kernel)), ⟨by decide +kernel, by decide +kernel⟩, by decide +kernel, by decide⟩
theorem kwL_letterOf : KW mL_letterOf hhL_letterOf 3 := ⟨(List.mem_of_getElem? (i := 812) (by decide +kernel)), (List.mem_of_getElem? (i := 34) (by decide +kernel)), (List.mem_of_getElem? (i := 813) (by decide +kernel)), ⟨by decide +kernel, by decide +kernel⟩, by decide +kernel, by decide⟩
theorem kvX8_letterOf : KV mX8_letterOf 1 := ⟨(List.mem_of_getElem? (i := 815) (by decide +kernel)), (List.mem_of_getElem? (i := 816) (by decide +kernel)), (List.mem_of_getElem? (i := 35) (by decide +kernel)), (List.mem_of_getElem? (i := 817) (by decide +kernel)), ⟨by decide +kernel, by decide +kernel⟩, by decide +kernel, by decide⟩
theorem kvX8_auditOf : KV mX8_auditOf 1 := ⟨(List.mem_of_getElem? (i := 820) (by decide +kernel)), (List.mem_of_getElem? (i := 13) (by decide +kernel)), (List.mem_of_getElem? (i := 35) (by decide +kernel)), (List.mem_of_getElem? (i := 821) (by decide +kernel)), ⟨by decide +kernel, by decide +kernel⟩, by decide +kernel, by decide⟩
theorem kwL_letterByList : KW mL_letterByList hhL_letterByList 3 := ⟨(List.mem_of_getElem? (i := 824) (by decide +kernel)), (List.mem_of_getElem? (i := 34) (by decide +kernel)), (List.mem_of_getElem? (i := 825) (by decide +kernel)), ⟨by decide +kernel, by decide +kernel⟩, by decide +kernel, by decide⟩
theorem kvX8_letterByList : KV mX8_letterByList 1 := ⟨(List.mem_of_getElem? (i := 827) (by decide +kernel)), (List.mem_of_getElem? (i := 828) (by decide +kernel)), (List.mem_of_getElem? (i := 35) (by decide +kernel)), (List.mem_of_getElem? (i := 829) (by decide +kernel)), ⟨by decide +kernel, by decide +kernel⟩, by decide +kernel, by decide⟩
theorem kwL_minuteOf : KW mL_minuteOf hhL_minuteOf 3 := ⟨(List.mem_of_getElem? (i := 831) (by decide +kernel)), (List.mem_of_getElem? (i := 34) (by decide +kernel)), (List.mem_of_getElem? (i := 832) (by decide +kernel)), ⟨by decide +kernel, by decide +kernel⟩, by decide +kernel, by decide⟩
theorem kvX8_minuteOf : KV mX8_minuteOf 1 := ⟨(List.mem_of_getElem? (i := 834) (by decide +kernel)), (List.mem_of_getElem? (i := 835) (by decide +kernel)), (List.mem_of_getElem? (i := 35) (by decide +kernel)), (List.mem_of_getElem? (i := 836) (by decide +kernel)), ⟨by decide +kernel, by decide +kernel⟩, by decide +kernel, by decide⟩
theorem kwL_versionAt : KW mL_versionAt hhL_versionAt 3 := ⟨(List.mem_of_getElem? (i := 838) (by decide +kernel)), (List.mem_of_getElem? (i := 34) (by decide +kernel)), (List.mem_of_getElem? (i := 839) (by decide +kernel)), ⟨by decide +kernel, by decide +kernel⟩, by decide +kernel, by decide⟩
theorem kvX8_versionAt : KV mX8_versionAt 1 := ⟨(List.mem_of_getElem? (i := 841) (by decide +kernel)), (List.mem_of_getElem? (i := 842) (by decide +kernel)), (List.mem_of_getElem? (i := 35) (by decide +kernel)), (List.mem_of_getElem? (i := 843) (by decide +kernel)), ⟨by decide +kernel, by decide +kernel⟩, by decide +kernel, by decide⟩
theorem kwL_hasArrived : KW mL_hasArrived hhL_hasArrived 3 := ⟨(List.mem_of_getElem? (i := 845) (by decide +kernel)), (List.mem_of_getElem? (i := 34) (by decide +kernel)), (List.mem_of_getElem? (i := 846) (by decide +kernel)), ⟨by decide +kernel, by decide +kernel⟩, by decide +kernel, by decide⟩
theorem kvX8_hasArrived : KV mX8_hasArrived 1 := ⟨(List.mem_of_getElem? (i := 848) (by decide +kernel)), (List.mem_of_getElem? (i := 849) (by decide +kernel)), (List.mem_of_getElem? (i := 35) (by decide +kernel)), (List.mem_of_getElem? (i := 850) (by decide +kernel)), ⟨by decide +kernel, by decide +kernel⟩, by decide +kernel, by decide⟩
theorem kwL_isBreach : KW mL_isBreach hhL_isBreach 3 := ⟨(List.mem_of_getElem? (i := 852) (by decide +kernel)), (List.mem_of_getElem? (i := 34) (by decide +kernel)), (List.mem_of_getElem? (i := 853) (by decide +kernel)), ⟨by decide +kernel, by decide +kernel⟩, by decide +kernel, by decide⟩
theorem kvX8_isBreach : KV mX8_isBreach 1 := ⟨(List.mem_of_getElem? (i := 855) (by decide +kernel)), (List.mem_of_getElem? (i := 856) (by decide +kernel)), (List.mem_of_getElem? (i := 35) (by decide +kernel)), (List.mem_of_getElem? (i := 857) (by decide +kernel)), ⟨by decide +kernel, by decide +kernel⟩, by decide +kernel, by decide⟩
theorem kwL_breachesAt : KW mL_breachesAt hhL_breachesAt 3 := ⟨(List.mem_of_getElem? (i := 859) (by decide +kernel)), (List.mem_of_getElem? (i := 34) (by decide +kernel)), (List.mem_of_getElem? (i := 860) (by decide +kernel)), ⟨by decide +kernel, by decide +kernel⟩, by decide +kernel, by decide⟩
theorem kvX8_breachesAt : KV mX8_breachesAt 1 := ⟨(List.mem_of_getElem? (i := 862) (by decide +kernel)), (List.mem_of_getElem? (i := 863) (by decide +kernel)), (List.mem_of_getElem? (i := 35) (by decide +kernel)), (List.mem_of_getElem? (i := 864) (by decide +kernel)), ⟨by decide +kernel, by decide +kernel⟩, by decide +kernel, by decide⟩
theorem kwL_meanDelay : KW mL_meanDelay hhL_meanDelay 2 := ⟨(List.mem_of_getElem? (i := 866) (by decide +kernel)), (List.mem_of_getElem? (i := 34) (by decide +kernel)), (List.mem_of_getElem? (i := 867) (by decide +kernel)), ⟨by decide +kernel, by decide +kernel⟩, by decide +kernel, by decide⟩
theorem kvX8_meanDelay : KV mX8_meanDelay 0 := ⟨(List.mem_of_getElem? (i := 883) (by decide +kernel)), (List.mem_of_getElem? (i := 884) (by decide +kernel)), (List.mem_of_getElem? (i := 35) (by decide +kernel)), (List.mem_of_getElem? (i := 885) (by decide +kernel)), ⟨by decide +kernel, by decide +kernel⟩, by decide +kernel, by decide⟩
theorem kvX8_meanOfDelays : KV mX8_meanOfDelays 0 := ⟨(List.mem_of_getElem? (i := 888) (by decide +kernel)), (List.mem_of_getElem? (i := 14) (by decide +kernel)), (List.mem_of_getElem? (i := 35) (by decide +kernel)), (List.mem_of_getElem? (i := 889) (by decide +kernel)), ⟨by decide +kernel, by decide +kernel⟩, by decide +kernel, by decide⟩
theorem kvX8_arrivedCount : KV mX8_arrivedCount 0 := ⟨(List.mem_of_getElem? (i := 892) (by decide +kernel)), (List.mem_of_getElem? (i := 15) (by decide +kernel)), (List.mem_of_getElem? (i := 35) (by decide +kernel)), (List.mem_of_getElem? (i := 893) (by decide +kernel)), ⟨by decide +kernel, by decide +kernel⟩, by decide +kernel, by decide⟩
theorem kwL_meanBits : KW mL_meanBits hhL_meanBits 2 := ⟨(List.mem_of_getElem? (i := 899) (by decide +kernel)), (List.mem_of_getElem? (i := 34) (by decide +kernel)), (List.mem_of_getElem? (i := 900) (by decide +kernel)), ⟨by decide +kernel, by decide +kernel⟩, by decide +kernel, by decide⟩
theorem kvX8_meanBits : KV mX8_meanBits 0 := ⟨(List.mem_of_getElem? (i := 902) (by decide +kernel)), (List.mem_of_getElem? (i := 903) (by decide +kernel)), (List.mem_of_getElem? (i := 35) (by decide +kernel)), (List.mem_of_getElem? (i := 904) (by decide +kernel)), ⟨by decide +kernel, by decide +kernel⟩, by decide +kernel, by decide⟩
theorem kwL_arrivedShare : KW mL_arrivedShare hhL_arrivedShare 2 := ⟨(List.mem_of_getElem? (i := 907) (by decide +kernel)), (List.mem_of_getElem? (i := 34) (by decide +kernel)), (List.mem_of_getElem? (i := 908) (by decide +kernel)), ⟨by decide +kernel, by decide +kernel⟩, by decide +kernel, by decide⟩
theorem kvX8_arrivedShare : KV mX8_arrivedShare 0 := ⟨(List.mem_of_getElem? (i := 910) (by decide +kernel)), (List.mem_of_getElem? (i := 911) (by decide +kernel)), (List.mem_of_getElem? (i := 35) (by decide +kernel)), (List.mem_of_getElem? (i := 912) (by decide +kernel)), ⟨by decide +kernel, by decide +kernel⟩, by decide +kernel, by decide⟩
theorem kiX9_init : KI mX9_init 0 := ⟨(List.mem_of_getElem? (i := 917) (by decide +kernel)), (List.mem_of_getElem? (i := 41) (by decide +kernel)), (List.mem_of_getElem? (i := 918) (by decide +kernel)), ⟨by decide +kernel, by decide +kernel⟩, by decide +kernel, by decide, rfl, rfl⟩
theorem kvX9_thrown : KV mX9_thrown 0 := ⟨(List.mem_of_getElem? (i := 1004) (by decide +kernel)), (List.mem_of_getElem? (i := 1005) (by decide +kernel)), (List.mem_of_getElem? (i := 41) (by decide +kernel)), (List.mem_of_getElem? (i := 1006) (by decide +kernel)), ⟨by decide +kernel, by decide +kernel⟩, by decide +kernel, by decide⟩
theorem kvX9_addKey : KV mX9_addKey 3 := ⟨(List.mem_of_getElem? (i := 1008) (by decide +kernel)), (List.mem_of_getElem? (i := 1009) (by decide +kernel)), (List.mem_of_getElem? (i := 41) (by decide +kernel)), (List.mem_of_getElem? (i := 1010) (by decide +kernel)), ⟨by decide +kernel, by decide +kernel⟩, by decide +kernel, by decide⟩
theorem ksX9_isBetween : KS mX9_isBetween 3 := ⟨(List.mem_of_getElem? (i := 1012) (by decide +kernel)), (List.mem_of_getElem? (i := 41) (by decide +kernel)), (List.mem_of_getElem? (i := 1013) (by decide +kernel)), ⟨by decide +kernel, by decide +kernel⟩, by decide +kernel, by decide⟩
theorem ksX9_areTimes : KS mX9_areTimes 2 := ⟨(List.mem_of_getElem? (i := 1015) (by decide +kernel)), (List.mem_of_getElem? (i := 41) (by decide +kernel)), (List.mem_of_getElem? (i := 1016) (by decide +kernel)), ⟨by decide +kernel, by decide +kernel⟩, by decide +kernel, by decide⟩
theorem kvX9_fails : KV mX9_fails 1 := ⟨(List.mem_of_getElem? (i := 1021) (by decide +kernel)), (List.mem_of_getElem? (i := 16) (by decide +kernel)), (List.mem_of_getElem? (i := 41) (by decide +kernel)), (List.mem_of_getElem? (i := 1022) (by decide +kernel)), ⟨by decide +kernel, by decide +kernel⟩, by decide +kernel, by decide⟩
theorem kvX9_changes : KV mX9_changes 0 := ⟨(List.mem_of_getElem? (i := 1025) (by decide +kernel)), (List.mem_of_getElem? (i := 17) (by decide +kernel)), (List.mem_of_getElem? (i := 41) (by decide +kernel)), (List.mem_of_getElem? (i := 1026) (by decide +kernel)), ⟨by decide +kernel, by decide +kernel⟩, by decide +kernel, by decide⟩
theorem kvX9_setTimes : KV mX9_setTimes 3 := ⟨(List.mem_of_getElem? (i := 1028) (by decide +kernel)), (List.mem_of_getElem? (i := 1029) (by decide +kernel)), (List.mem_of_getElem? (i := 41) (by decide +kernel)), (List.mem_of_getElem? (i := 1030) (by decide +kernel)), ⟨by decide +kernel, by decide +kernel⟩, by decide +kernel, by decide⟩
theorem kvX9_isKey : KV mX9_isKey 1 := ⟨(List.mem_of_getElem? (i := 1033) (by decide +kernel)), (List.mem_of_getElem? (i := 18) (by decide +kernel)), (List.mem_of_getElem? (i := 41) (by decide +kernel)), (List.mem_of_getElem? (i := 1034) (by decide +kernel)), ⟨by decide +kernel, by decide +kernel⟩, by decide +kernel, by decide⟩
theorem kvX9_isStuck : KV mX9_isStuck 1 := ⟨(List.mem_of_getElem? (i := 1037) (by decide +kernel)), (List.mem_of_getElem? (i := 19) (by decide +kernel)), (List.mem_of_getElem? (i := 41) (by decide +kernel)), (List.mem_of_getElem? (i := 1038) (by decide +kernel)), ⟨by decide +kernel, by decide +kernel⟩, by decide +kernel, by decide⟩
theorem kvX9_setDoors : KV mX9_setDoors 2 := ⟨(List.mem_of_getElem? (i := 1040) (by decide +kernel)), (List.mem_of_getElem? (i := 1041) (by decide +kernel)), (List.mem_of_getElem? (i := 41) (by decide +kernel)), (List.mem_of_getElem? (i := 1042) (by decide +kernel)), ⟨by decide +kernel, by decide +kernel⟩, by decide +kernel, by decide⟩
theorem kvX9_revoke : KV mX9_revoke 1 := ⟨(List.mem_of_getElem? (i := 1044) (by decide +kernel)), (List.mem_of_getElem? (i := 1045) (by decide +kernel)), (List.mem_of_getElem? (i := 41) (by decide +kernel)), (List.mem_of_getElem? (i := 1046) (by decide +kernel)), ⟨by decide +kernel, by decide +kernel⟩, by decide +kernel, by decide⟩
theorem kvX9_version : KV mX9_version 0 := ⟨(List.mem_of_getElem? (i := 1048) (by decide +kernel)), (List.mem_of_getElem? (i := 1049) (by decide +kernel)), (List.mem_of_getElem? (i := 41) (by decide +kernel)), (List.mem_of_getElem? (i := 1050) (by decide +kernel)), ⟨by decide +kernel, by decide +kernel⟩, by decide +kernel, by decide⟩
theorem kvX9_addDoor : KV mX9_addDoor 0 := ⟨(List.mem_of_getElem? (i := 1052) (by decide +kernel)), (List.mem_of_getElem? (i := 1053) (by decide +kernel)), (List.mem_of_getElem? (i := 41) (by decide +kernel)), (List.mem_of_getElem? (i := 1054) (by decide +kernel)), ⟨by decide +kernel, by decide +kernel⟩, by decide +kernel, by decide⟩
theorem kvX9_setRate : KV mX9_setRate 2 := ⟨(List.mem_of_getElem? (i := 1056) (by decide +kernel)), (List.mem_of_getElem? (i := 1057) (by decide +kernel)), (List.mem_of_getElem? (i := 41) (by decide +kernel)), (List.mem_of_getElem? (i := 1058) (by decide +kernel)), ⟨by decide +kernel, by decide +kernel⟩, by decide +kernel, by decide⟩
theorem kvX9_isDoor : KV mX9_isDoor 1 := ⟨(List.mem_of_getElem? (i := 1061) (by decide +kernel)), (List.mem_of_getElem? (i := 20) (by decide +kernel)), (List.mem_of_getElem? (i := 41) (by decide +kernel)), (List.mem_of_getElem? (i := 1062) (by decide +kernel)), ⟨by decide +kernel, by decide +kernel⟩, by decide +kernel, by decide⟩
theorem kvX9_clockOf : KV mX9_clockOf 1 := ⟨(List.mem_of_getElem? (i := 1065) (by decide +kernel)), (List.mem_of_getElem? (i := 21) (by decide +kernel)), (List.mem_of_getElem? (i := 41) (by decide +kernel)), (List.mem_of_getElem? (i := 1066) (by decide +kernel)), ⟨by decide +kernel, by decide +kernel⟩, by decide +kernel, by decide⟩
theorem kvX9_driftedOf : KV mX9_driftedOf 1 := ⟨(List.mem_of_getElem? (i := 1069) (by decide +kernel)), (List.mem_of_getElem? (i := 22) (by decide +kernel)), (List.mem_of_getElem? (i := 41) (by decide +kernel)), (List.mem_of_getElem? (i := 1070) (by decide +kernel)), ⟨by decide +kernel, by decide +kernel⟩, by decide +kernel, by decide⟩
theorem kvX9_sets : KV mX9_sets 2 := ⟨(List.mem_of_getElem? (i := 1073) (by decide +kernel)), (List.mem_of_getElem? (i := 23) (by decide +kernel)), (List.mem_of_getElem? (i := 41) (by decide +kernel)), (List.mem_of_getElem? (i := 1074) (by decide +kernel)), ⟨by decide +kernel, by decide +kernel⟩, by decide +kernel, by decide⟩
theorem kvX9_addPhone : KV mX9_addPhone 0 := ⟨(List.mem_of_getElem? (i := 1077) (by decide +kernel)), (List.mem_of_getElem? (i := 1078) (by decide +kernel)), (List.mem_of_getElem? (i := 41) (by decide +kernel)), (List.mem_of_getElem? (i := 1079) (by decide +kernel)), ⟨by decide +kernel, by decide +kernel⟩, by decide +kernel, by decide⟩
theorem kvX9_pass : KV mX9_pass 1 := ⟨(List.mem_of_getElem? (i := 1081) (by decide +kernel)), (List.mem_of_getElem? (i := 1082) (by decide +kernel)), (List.mem_of_getElem? (i := 41) (by decide +kernel)), (List.mem_of_getElem? (i := 1083) (by decide +kernel)), ⟨by decide +kernel, by decide +kernel⟩, by decide +kernel, by decide⟩
theorem kvX9_time : KV mX9_time 0 := ⟨(List.mem_of_getElem? (i := 1085) (by decide +kernel)), (List.mem_of_getElem? (i := 1086) (by decide +kernel)), (List.mem_of_getElem? (i := 41) (by decide +kernel)), (List.mem_of_getElem? (i := 1087) (by decide +kernel)), ⟨by decide +kernel, by decide +kernel⟩, by decide +kernel, by decide⟩
theorem kvX9_meetCloud : KV mX9_meetCloud 1 := ⟨(List.mem_of_getElem? (i := 1089) (by decide +kernel)), (List.mem_of_getElem? (i := 1090) (by decide +kernel)), (List.mem_of_getElem? (i := 41) (by decide +kernel)), (List.mem_of_getElem? (i := 1091) (by decide +kernel)), ⟨by decide +kernel, by decide +kernel⟩, by decide +kernel, by decide⟩
theorem kvX9_isPhone : KV mX9_isPhone 1 := ⟨(List.mem_of_getElem? (i := 1094) (by decide +kernel)), (List.mem_of_getElem? (i := 24) (by decide +kernel)), (List.mem_of_getElem? (i := 41) (by decide +kernel)), (List.mem_of_getElem? (i := 1095) (by decide +kernel)), ⟨by decide +kernel, by decide +kernel⟩, by decide +kernel, by decide⟩
theorem kvX9_meetDoor : KV mX9_meetDoor 2 := ⟨(List.mem_of_getElem? (i := 1097) (by decide +kernel)), (List.mem_of_getElem? (i := 1098) (by decide +kernel)), (List.mem_of_getElem? (i := 41) (by decide +kernel)), (List.mem_of_getElem? (i := 1099) (by decide +kernel)), ⟨by decide +kernel, by decide +kernel⟩, by decide +kernel, by decide⟩
theorem kvX9_open : KV mX9_open 2 := ⟨(List.mem_of_getElem? (i := 1102) (by decide +kernel)), (List.mem_of_getElem? (i := 1103) (by decide +kernel)), (List.mem_of_getElem? (i := 41) (by decide +kernel)), (List.mem_of_getElem? (i := 1104) (by decide +kernel)), ⟨by decide +kernel, by decide +kernel⟩, by decide +kernel, by decide⟩
theorem kvX9_isNone : KV mX9_isNone 2 := ⟨(List.mem_of_getElem? (i := 1107) (by decide +kernel)), (List.mem_of_getElem? (i := 25) (by decide +kernel)), (List.mem_of_getElem? (i := 41) (by decide +kernel)), (List.mem_of_getElem? (i := 1108) (by decide +kernel)), ⟨by decide +kernel, by decide +kernel⟩, by decide +kernel, by decide⟩
theorem kvX9_letter : KV mX9_letter 4 := ⟨(List.mem_of_getElem? (i := 1111) (by decide +kernel)), (List.mem_of_getElem? (i := 26) (by decide +kernel)), (List.mem_of_getElem? (i := 41) (by decide +kernel)), (List.mem_of_getElem? (i := 1112) (by decide +kernel)), ⟨by decide +kernel, by decide +kernel⟩, by decide +kernel, by decide⟩
theorem kvX9_answer : KV mX9_answer 2 := ⟨(List.mem_of_getElem? (i := 1114) (by decide +kernel)), (List.mem_of_getElem? (i := 1115) (by decide +kernel)), (List.mem_of_getElem? (i := 41) (by decide +kernel)), (List.mem_of_getElem? (i := 1116) (by decide +kernel)), ⟨by decide +kernel, by decide +kernel⟩, by decide +kernel, by decide⟩
theorem kvX9_clock : KV mX9_clock 1 := ⟨(List.mem_of_getElem? (i := 1118) (by decide +kernel)), (List.mem_of_getElem? (i := 1119) (by decide +kernel)), (List.mem_of_getElem? (i := 41) (by decide +kernel)), (List.mem_of_getElem? (i := 1120) (by decide +kernel)), ⟨by decide +kernel, by decide +kernel⟩, by decide +kernel, by decide⟩
theorem kvX9_isNowhere : KV mX9_isNowhere 1 := ⟨(List.mem_of_getElem? (i := 1123) (by decide +kernel)), (List.mem_of_getElem? (i := 27) (by decide +kernel)), (List.mem_of_getElem? (i := 41) (by decide +kernel)), (List.mem_of_getElem? (i := 1124) (by decide +kernel)), ⟨by decide +kernel, by decide +kernel⟩, by decide +kernel, by decide⟩
theorem kvX9_drifted : KV mX9_drifted 1 := ⟨(List.mem_of_getElem? (i := 1126) (by decide +kernel)), (List.mem_of_getElem? (i := 1127) (by decide +kernel)), (List.mem_of_getElem? (i := 41) (by decide +kernel)), (List.mem_of_getElem? (i := 1128) (by decide +kernel)), ⟨by decide +kernel, by decide +kernel⟩, by decide +kernel, by decide⟩
theorem kvX9_driftedBits : KV mX9_driftedBits 1 := ⟨(List.mem_of_getElem? (i := 1130) (by decide +kernel)), (List.mem_of_getElem? (i := 1131) (by decide +kernel)), (List.mem_of_getElem? (i := 41) (by decide +kernel)), (List.mem_of_getElem? (i := 1132) (by decide +kernel)), ⟨by decide +kernel, by decide +kernel⟩, by decide +kernel, by decide⟩
theorem ksJxf58ca_floatToIntBits_5c35a : KS mJxf58ca_floatToIntBits_5c35a 1 := ⟨(List.mem_of_getElem? (i := 1134) (by decide +kernel)), (List.mem_of_getElem? (i := 64) (by decide +kernel)), (List.mem_of_getElem? (i := 1135) (by decide +kernel)), ⟨by decide +kernel, by decide +kernel⟩, by decide +kernel, by decide⟩
theorem ksJxf58ca_isNaN_12338 : KS mJxf58ca_isNaN_12338 1 := ⟨(List.mem_of_getElem? (i := 1137) (by decide +kernel)), (List.mem_of_getElem? (i := 64) (by decide +kernel)), (List.mem_of_getElem? (i := 1138) (by decide +kernel)), ⟨by decide +kernel, by decide +kernel⟩, by decide +kernel, by decide⟩
theorem kvX9_versionOf : KV mX9_versionOf 1 := ⟨(List.mem_of_getElem? (i := 1144) (by decide +kernel)), (List.mem_of_getElem? (i := 1145) (by decide +kernel)), (List.mem_of_getElem? (i := 41) (by decide +kernel)), (List.mem_of_getElem? (i := 1146) (by decide +kernel)), ⟨by decide +kernel, by decide +kernel⟩, by decide +kernel, by decide⟩
theorem kvX9_versionByReplay : KV mX9_versionByReplay 1 := ⟨(List.mem_of_getElem? (i := 1148) (by decide +kernel)), (List.mem_of_getElem? (i := 1149) (by decide +kernel)), (List.mem_of_getElem? (i := 41) (by decide +kernel)), (List.mem_of_getElem? (i := 1150) (by decide +kernel)), ⟨by decide +kernel, by decide +kernel⟩, by decide +kernel, by decide⟩
theorem kvX9_versionOn : KV mX9_versionOn 1 := ⟨(List.mem_of_getElem? (i := 1153) (by decide +kernel)), (List.mem_of_getElem? (i := 1154) (by decide +kernel)), (List.mem_of_getElem? (i := 41) (by decide +kernel)), (List.mem_of_getElem? (i := 1155) (by decide +kernel)), ⟨by decide +kernel, by decide +kernel⟩, by decide +kernel, by decide⟩
theorem kvX9_fromIn : KV mX9_fromIn 2 := ⟨(List.mem_of_getElem? (i := 1157) (by decide +kernel)), (List.mem_of_getElem? (i := 1158) (by decide +kernel)), (List.mem_of_getElem? (i := 41) (by decide +kernel)), (List.mem_of_getElem? (i := 1159) (by decide +kernel)), ⟨by decide +kernel, by decide +kernel⟩, by decide +kernel, by decide⟩
theorem kvX9_waiting : KV mX9_waiting 1 := ⟨(List.mem_of_getElem? (i := 1161) (by decide +kernel)), (List.mem_of_getElem? (i := 1162) (by decide +kernel)), (List.mem_of_getElem? (i := 41) (by decide +kernel)), (List.mem_of_getElem? (i := 1163) (by decide +kernel)), ⟨by decide +kernel, by decide +kernel⟩, by decide +kernel, by decide⟩
theorem kvX9_carried : KV mX9_carried 1 := ⟨(List.mem_of_getElem? (i := 1165) (by decide +kernel)), (List.mem_of_getElem? (i := 1166) (by decide +kernel)), (List.mem_of_getElem? (i := 41) (by decide +kernel)), (List.mem_of_getElem? (i := 1167) (by decide +kernel)), ⟨by decide +kernel, by decide +kernel⟩, by decide +kernel, by decide⟩
theorem kvX9_audits : KV mX9_audits 0 := ⟨(List.mem_of_getElem? (i := 1169) (by decide +kernel)), (List.mem_of_getElem? (i := 1170) (by decide +kernel)), (List.mem_of_getElem? (i := 41) (by decide +kernel)), (List.mem_of_getElem? (i := 1171) (by decide +kernel)), ⟨by decide +kernel, by decide +kernel⟩, by decide +kernel, by decide⟩
theorem kvX9_letterOf : KV mX9_letterOf 1 := ⟨(List.mem_of_getElem? (i := 1173) (by decide +kernel)), (List.mem_of_getElem? (i := 1174) (by decide +kernel)), (List.mem_of_getElem? (i := 41) (by decide +kernel)), (List.mem_of_getElem? (i := 1175) (by decide +kernel)), ⟨by decide +kernel, by decide +kernel⟩, by decide +kernel, by decide⟩
theorem kvX9_isNoAudit : KV mX9_isNoAudit 1 := ⟨(List.mem_of_getElem? (i := 1178) (by decide +kernel)), (List.mem_of_getElem? (i := 28) (by decide +kernel)), (List.mem_of_getElem? (i := 41) (by decide +kernel)), (List.mem_of_getElem? (i := 1179) (by decide +kernel)), ⟨by decide +kernel, by decide +kernel⟩, by decide +kernel, by decide⟩
theorem kvX9_isAudit : KV mX9_isAudit 1 := ⟨(List.mem_of_getElem? (i := 1182) (by decide +kernel)), (List.mem_of_getElem? (i := 29) (by decide +kernel)), (List.mem_of_getElem? (i := 41) (by decide +kernel)), (List.mem_of_getElem? (i := 1183) (by decide +kernel)), ⟨by decide +kernel, by decide +kernel⟩, by decide +kernel, by decide⟩
theorem kvX9_letterByList : KV mX9_letterByList 1 := ⟨(List.mem_of_getElem? (i := 1185) (by decide +kernel)), (List.mem_of_getElem? (i := 1186) (by decide +kernel)), (List.mem_of_getElem? (i := 41) (by decide +kernel)), (List.mem_of_getElem? (i := 1187) (by decide +kernel)), ⟨by decide +kernel, by decide +kernel⟩, by decide +kernel, by decide⟩
theorem kvX9_minuteOf : KV mX9_minuteOf 1 := ⟨(List.mem_of_getElem? (i := 1189) (by decide +kernel)), (List.mem_of_getElem? (i := 1190) (by decide +kernel)), (List.mem_of_getElem? (i := 41) (by decide +kernel)), (List.mem_of_getElem? (i := 1191) (by decide +kernel)), ⟨by decide +kernel, by decide +kernel⟩, by decide +kernel, by decide⟩
theorem kvX9_versionAt : KV mX9_versionAt 1 := ⟨(List.mem_of_getElem? (i := 1193) (by decide +kernel)), (List.mem_of_getElem? (i := 1194) (by decide +kernel)), (List.mem_of_getElem? (i := 41) (by decide +kernel)), (List.mem_of_getElem? (i := 1195) (by decide +kernel)), ⟨by decide +kernel, by decide +kernel⟩, by decide +kernel, by decide⟩
theorem kvX9_hasArrived : KV mX9_hasArrived 1 := ⟨(List.mem_of_getElem? (i := 1197) (by decide +kernel)), (List.mem_of_getElem? (i := 1198) (by decide +kernel)), (List.mem_of_getElem? (i := 41) (by decide +kernel)), (List.mem_of_getElem? (i := 1199) (by decide +kernel)), ⟨by decide +kernel, by decide +kernel⟩, by decide +kernel, by decide⟩
theorem kvX9_isBreach : KV mX9_isBreach 1 := ⟨(List.mem_of_getElem? (i := 1201) (by decide +kernel)), (List.mem_of_getElem? (i := 1202) (by decide +kernel)), (List.mem_of_getElem? (i := 41) (by decide +kernel)), (List.mem_of_getElem? (i := 1203) (by decide +kernel)), ⟨by decide +kernel, by decide +kernel⟩, by decide +kernel, by decide⟩
theorem kvX9_isBroken : KV mX9_isBroken 1 := ⟨(List.mem_of_getElem? (i := 1206) (by decide +kernel)), (List.mem_of_getElem? (i := 30) (by decide +kernel)), (List.mem_of_getElem? (i := 41) (by decide +kernel)), (List.mem_of_getElem? (i := 1207) (by decide +kernel)), ⟨by decide +kernel, by decide +kernel⟩, by decide +kernel, by decide⟩
theorem kvX9_breaches : KV mX9_breaches 0 := ⟨(List.mem_of_getElem? (i := 1209) (by decide +kernel)), (List.mem_of_getElem? (i := 1210) (by decide +kernel)), (List.mem_of_getElem? (i := 41) (by decide +kernel)), (List.mem_of_getElem? (i := 1211) (by decide +kernel)), ⟨by decide +kernel, by decide +kernel⟩, by decide +kernel, by decide⟩
theorem kvX9_breachesAt : KV mX9_breachesAt 1 := ⟨(List.mem_of_getElem? (i := 1213) (by decide +kernel)), (List.mem_of_getElem? (i := 1214) (by decide +kernel)), (List.mem_of_getElem? (i := 41) (by decide +kernel)), (List.mem_of_getElem? (i := 1215) (by decide +kernel)), ⟨by decide +kernel, by decide +kernel⟩, by decide +kernel, by decide⟩
theorem kvX9_delays : KV mX9_delays 0 := ⟨(List.mem_of_getElem? (i := 1217) (by decide +kernel)), (List.mem_of_getElem? (i := 1218) (by decide +kernel)), (List.mem_of_getElem? (i := 41) (by decide +kernel)), (List.mem_of_getElem? (i := 1219) (by decide +kernel)), ⟨by decide +kernel, by decide +kernel⟩, by decide +kernel, by decide⟩
theorem kvX9_delaySum : KV mX9_delaySum 0 := ⟨(List.mem_of_getElem? (i := 1222) (by decide +kernel)), (List.mem_of_getElem? (i := 31) (by decide +kernel)), (List.mem_of_getElem? (i := 41) (by decide +kernel)), (List.mem_of_getElem? (i := 1223) (by decide +kernel)), ⟨by decide +kernel, by decide +kernel⟩, by decide +kernel, by decide⟩
theorem kvX9_meanDelay : KV mX9_meanDelay 0 := ⟨(List.mem_of_getElem? (i := 1225) (by decide +kernel)), (List.mem_of_getElem? (i := 1226) (by decide +kernel)), (List.mem_of_getElem? (i := 41) (by decide +kernel)), (List.mem_of_getElem? (i := 1227) (by decide +kernel)), ⟨by decide +kernel, by decide +kernel⟩, by decide +kernel, by decide⟩
theorem kvX9_mean : KV mX9_mean 0 := ⟨(List.mem_of_getElem? (i := 1230) (by decide +kernel)), (List.mem_of_getElem? (i := 32) (by decide +kernel)), (List.mem_of_getElem? (i := 41) (by decide +kernel)), (List.mem_of_getElem? (i := 1231) (by decide +kernel)), ⟨by decide +kernel, by decide +kernel⟩, by decide +kernel, by decide⟩
theorem kvX9_arrivedMany : KV mX9_arrivedMany 0 := ⟨(List.mem_of_getElem? (i := 1234) (by decide +kernel)), (List.mem_of_getElem? (i := 33) (by decide +kernel)), (List.mem_of_getElem? (i := 41) (by decide +kernel)), (List.mem_of_getElem? (i := 1235) (by decide +kernel)), ⟨by decide +kernel, by decide +kernel⟩, by decide +kernel, by decide⟩
theorem kvX9_meanBits : KV mX9_meanBits 0 := ⟨(List.mem_of_getElem? (i := 1237) (by decide +kernel)), (List.mem_of_getElem? (i := 1238) (by decide +kernel)), (List.mem_of_getElem? (i := 41) (by decide +kernel)), (List.mem_of_getElem? (i := 1239) (by decide +kernel)), ⟨by decide +kernel, by decide +kernel⟩, by decide +kernel, by decide⟩
theorem ksJxe99ae_doubleToLongBits_ccdee : KS mJxe99ae_doubleToLongBits_ccdee 1 := ⟨(List.mem_of_getElem? (i := 1241) (by decide +kernel)), (List.mem_of_getElem? (i := 66) (by decide +kernel)), (List.mem_of_getElem? (i := 1242) (by decide +kernel)), ⟨by decide +kernel, by decide +kernel⟩, by decide +kernel, by decide⟩
theorem ksJxe99ae_isNaN_b9ae7 : KS mJxe99ae_isNaN_b9ae7 1 := ⟨(List.mem_of_getElem? (i := 1244) (by decide +kernel)), (List.mem_of_getElem? (i := 66) (by decide +kernel)), (List.mem_of_getElem? (i := 1245) (by decide +kernel)), ⟨by decide +kernel, by decide +kernel⟩, by decide +kernel, by decide⟩
theorem kvX9_arrivedShare : KV mX9_arrivedShare 0 := ⟨(List.mem_of_getElem? (i := 1251) (by decide +kernel)), (List.mem_of_getElem? (i := 1252) (by decide +kernel)), (List.mem_of_getElem? (i := 41) (by decide +kernel)), (List.mem_of_getElem? (i := 1253) (by decide +kernel)), ⟨by decide +kernel, by decide +kernel⟩, by decide +kernel, by decide⟩
theorem kvX9_isSound : KV mX9_isSound 0 := ⟨(List.mem_of_getElem? (i := 1255) (by decide +kernel)), (List.mem_of_getElem? (i := 1256) (by decide +kernel)), (List.mem_of_getElem? (i := 41) (by decide +kernel)), (List.mem_of_getElem? (i := 1257) (by decide +kernel)), ⟨by decide +kernel, by decide +kernel⟩, by decide +kernel, by decide⟩
theorem lkL_123 : Cond.methodLink RL 123 mX8_init.1 ∈ lw_tbl := (List.mem_of_getElem? (i := 69) (by decide +kernel))
theorem lkX8_1 : Cond.methodLink RX8 1 objectInit ∈ lw_tbl := (List.mem_of_getElem? (i := 72) (by decide +kernel))
theorem lkX8_9 : Cond.methodLinkNest RX8 9 mX2_init.1 "Doorledger" ∈ lw_tbl := (List.mem_of_getElem? (i := 77) (by decide +kernel))
theorem lkX2_1 : Cond.methodLink RX2 1 objectInit ∈ lw_tbl := (List.mem_of_getElem? (i := 80) (by decide +kernel))
theorem lkX2_9 : Cond.methodLink RX2 9 mJx4a65c_init_da8c8.1 ∈ lw_tbl := (List.mem_of_getElem? (i := 83) (by decide +kernel))
theorem lkJx4a65c_1 : Cond.methodLink RJx4a65c 1 mJxc12de_init_da8c8.1 ∈ lw_tbl := (List.mem_of_getElem? (i := 86) (by decide +kernel))
theorem lkJxc12de_1 : Cond.methodLink RJxc12de 1 mJxa1e45_init_da8c8.1 ∈ lw_tbl := (List.mem_of_getElem? (i := 89) (by decide +kernel))
theorem lkJxa1e45_1 : Cond.methodLink RJxa1e45 1 objectInit ∈ lw_tbl := (List.mem_of_getElem? (i := 92) (by decide +kernel))
theorem lkX8_18 : Cond.methodLink RX8 18 mJx4a65c_init_da8c8.1 ∈ lw_tbl := (List.mem_of_getElem? (i := 116) (by decide +kernel))
theorem lkX8_31 : Cond.methodLinkNest RX8 31 mX6_init.1 "Doorledger" ∈ lw_tbl := (List.mem_of_getElem? (i := 119) (by decide +kernel))
theorem lkX6_3 : Cond.methodLink RX6 3 objectInit ∈ lw_tbl := (List.mem_of_getElem? (i := 122) (by decide +kernel))
theorem lkX6_11 : Cond.methodLink RX6 11 mJx4a65c_init_da8c8.1 ∈ lw_tbl := (List.mem_of_getElem? (i := 124) (by decide +kernel))
theorem lkL_147 : Cond.methodLink RL 147 mX8_version.1 ∈ lw_tbl := (List.mem_of_getElem? (i := 152) (by decide +kernel))
theorem lkX8_86 : Cond.methodLink RX8 86 mX2_newest.1 ∈ lw_tbl := (List.mem_of_getElem? (i := 156) (by decide +kernel))
theorem lkX2_20 : Cond.methodLink RX2 20 mJx4a65c_size_8abf5.1 ∈ lw_tbl := (List.mem_of_getElem? (i := 160) (by decide +kernel))
theorem lkL_164 : Cond.methodLink RL 164 mX8_time.1 ∈ lw_tbl := (List.mem_of_getElem? (i := 164) (by decide +kernel))
theorem lkL_208 : Cond.methodLink RL 208 mX8_audits.1 ∈ lw_tbl := (List.mem_of_getElem? (i := 168) (by decide +kernel))
theorem lkX8_90 : Cond.methodLink RX8 90 mJx4a65c_size_8abf5.1 ∈ lw_tbl := (List.mem_of_getElem? (i := 172) (by decide +kernel))
theorem lkL_230 : Cond.methodLink RL 230 mX8_breaches.1 ∈ lw_tbl := (List.mem_of_getElem? (i := 173) (by decide +kernel))
theorem lkX8_149 : Cond.methodLink RX8 149 mJx4a65c_get_915e3.1 ∈ lw_tbl := (List.mem_of_getElem? (i := 177) (by decide +kernel))
theorem lkJx4a65c_118 : Cond.methodLink RJx4a65c 118 mJ15_checkIndex_7cf53.1 ∈ lw_tbl := (List.mem_of_getElem? (i := 181) (by decide +kernel))
theorem lkJ15_105 : Cond.methodLink RJ15 105 mJ3_checkIndex_8e157.1 ∈ lw_tbl := (List.mem_of_getElem? (i := 184) (by decide +kernel))
theorem lkJx4a65c_123 : Cond.methodLink RJx4a65c 123 mJx4a65c_elementData_915e3.1 ∈ lw_tbl := (List.mem_of_getElem? (i := 187) (by decide +kernel))
theorem lkX8_229 : Cond.methodLink RX8 229 mX8_isToldAsBreach.1 ∈ lw_tbl := (List.mem_of_getElem? (i := 192) (by decide +kernel))
theorem lkX8_225 : Cond.methodLink RX8 225 mX0_isInCloud.1 ∈ lw_tbl := (List.mem_of_getElem? (i := 196) (by decide +kernel))
theorem lkX8_290 : Cond.methodLink RX8 290 mX2_newestAt.1 ∈ lw_tbl := (List.mem_of_getElem? (i := 200) (by decide +kernel))
theorem lkX2_24 : Cond.methodLink RX2 24 mJx4a65c_get_915e3.1 ∈ lw_tbl := (List.mem_of_getElem? (i := 204) (by decide +kernel))
theorem lkX8_177 : Cond.methodLink RX8 177 mX2_letterIn.1 ∈ lw_tbl := (List.mem_of_getElem? (i := 206) (by decide +kernel))
theorem lkX2_46 : Cond.methodLink RX2 46 mX2_keyIn.1 ∈ lw_tbl := (List.mem_of_getElem? (i := 210) (by decide +kernel))
theorem lkX2_37 : Cond.methodLink RX2 37 mJ9_min_7cf53.1 ∈ lw_tbl := (List.mem_of_getElem? (i := 214) (by decide +kernel))
theorem lkX2_50 : Cond.methodLink RX2 50 mX4_letterAt.1 ∈ lw_tbl := (List.mem_of_getElem? (i := 217) (by decide +kernel))
theorem lkL_237 : Cond.methodLink RL 237 mX8_delays.1 ∈ lw_tbl := (List.mem_of_getElem? (i := 221) (by decide +kernel))
theorem lkL_251 : Cond.methodLink RL 251 mX8_isSound.1 ∈ lw_tbl := (List.mem_of_getElem? (i := 225) (by decide +kernel))
theorem lkX8_255 : Cond.methodLink RX8 255 mX8_areDoorsSound.1 ∈ lw_tbl := (List.mem_of_getElem? (i := 229) (by decide +kernel))
theorem lkX8_197 : Cond.methodLink RX8 197 mX6_replay.1 ∈ lw_tbl := (List.mem_of_getElem? (i := 234) (by decide +kernel))
theorem lkX6_30 : Cond.methodLink RX6 30 mJ7_fill_53178.1 ∈ lw_tbl := (List.mem_of_getElem? (i := 238) (by decide +kernel))
theorem lkX6_22 : Cond.methodLink RX6 22 mJx4a65c_size_8abf5.1 ∈ lw_tbl := (List.mem_of_getElem? (i := 241) (by decide +kernel))
theorem lkX6_36 : Cond.methodLink RX6 36 mJx4a65c_get_915e3.1 ∈ lw_tbl := (List.mem_of_getElem? (i := 242) (by decide +kernel))
theorem lkX6_52 : Cond.methodLink RX6 52 mJ9_max_7cf53.1 ∈ lw_tbl := (List.mem_of_getElem? (i := 244) (by decide +kernel))
theorem lkX8_258 : Cond.methodLink RX8 258 mX8_arePhonesSound.1 ∈ lw_tbl := (List.mem_of_getElem? (i := 247) (by decide +kernel))
theorem lkX8_261 : Cond.methodLink RX8 261 mX8_areAuditsSound.1 ∈ lw_tbl := (List.mem_of_getElem? (i := 252) (by decide +kernel))
theorem lkX8_217 : Cond.methodLink RX8 217 mX8_letterAgain.1 ∈ lw_tbl := (List.mem_of_getElem? (i := 256) (by decide +kernel))
theorem lkL_127 : Cond.methodLink RL 127 mL_addKey.1 ∈ lw_tbl := (List.mem_of_getElem? (i := 260) (by decide +kernel))
theorem lkL_7 : Cond.methodLink RL 7 mX8_addKey.1 ∈ lw_tbl := (List.mem_of_getElem? (i := 265) (by decide +kernel))
theorem lkX8_40 : Cond.methodLink RX8 40 mX8_checkDoorSet.1 ∈ lw_tbl := (List.mem_of_getElem? (i := 269) (by decide +kernel))
theorem lkX8_44 : Cond.methodLink RX8 44 mX8_checkTimes.1 ∈ lw_tbl := (List.mem_of_getElem? (i := 343) (by decide +kernel))
theorem lkX8_58 : Cond.methodLink RX8 58 mX8_checkRoomForChange.1 ∈ lw_tbl := (List.mem_of_getElem? (i := 364) (by decide +kernel))
theorem lkX8_63 : Cond.methodLink RX8 63 mX4_init.1 ∈ lw_tbl := (List.mem_of_getElem? (i := 371) (by decide +kernel))
theorem lkX4_1 : Cond.methodLink RX4 1 objectInit ∈ lw_tbl := (List.mem_of_getElem? (i := 374) (by decide +kernel))
theorem lkX8_66 : Cond.methodLink RX8 66 mX2_keep.1 ∈ lw_tbl := (List.mem_of_getElem? (i := 400) (by decide +kernel))
theorem lkX2_33 : Cond.methodLink RX2 33 mJx4a65c_add_9ea2d.1 ∈ lw_tbl := (List.mem_of_getElem? (i := 404) (by decide +kernel))
theorem lkJx4a65c_131 : Cond.methodLink RJx4a65c 131 mJx4a65c_add_72be8.1 ∈ lw_tbl := (List.mem_of_getElem? (i := 408) (by decide +kernel))
theorem lkJx4a65c_129 : Cond.methodLink RJx4a65c 129 mJx4a65c_grow_d5877.1 ∈ lw_tbl := (List.mem_of_getElem? (i := 412) (by decide +kernel))
theorem lkJx4a65c_69 : Cond.methodLink RJx4a65c 69 mJx4a65c_grow_92f84.1 ∈ lw_tbl := (List.mem_of_getElem? (i := 416) (by decide +kernel))
theorem lkJx4a65c_73 : Cond.methodLink RJx4a65c 73 mJ8_newLength_cabcc.1 ∈ lw_tbl := (List.mem_of_getElem? (i := 420) (by decide +kernel))
theorem lkJ8_194 : Cond.methodLink RJ8 194 mJ9_max_7cf53.1 ∈ lw_tbl := (List.mem_of_getElem? (i := 423) (by decide +kernel))
theorem lkJ8_201 : Cond.methodLink RJ8 201 mJ8_hugeLength_7cf53.1 ∈ lw_tbl := (List.mem_of_getElem? (i := 425) (by decide +kernel))
theorem lkJx4a65c_66 : Cond.methodLink RJx4a65c 66 mJ7_copyOf_1904c.1 ∈ lw_tbl := (List.mem_of_getElem? (i := 428) (by decide +kernel))
theorem lkJ7_86 : Cond.methodLink RJ7 86 ⟨"java/lang/Object", "getClass", "()Ljava/lang/Class;"⟩ ∈ lw_tbl := (List.mem_of_getElem? (i := 431) (by decide +kernel))
theorem lkJ7_300 : Cond.methodLink RJ7 300 mJ7_copyOf_6403c.1 ∈ lw_tbl := (List.mem_of_getElem? (i := 451) (by decide +kernel))
theorem lkJ7_304 : Cond.methodLink RJ7 304 mJ9_min_7cf53.1 ∈ lw_tbl := (List.mem_of_getElem? (i := 457) (by decide +kernel))
theorem lkJ7_150 : Cond.methodLink RJ7 150 arraycopyName ∈ lw_tbl := (List.mem_of_getElem? (i := 458) (by decide +kernel))
theorem lkJx4a65c_79 : Cond.methodLink RJx4a65c 79 mJ9_max_7cf53.1 ∈ lw_tbl := (List.mem_of_getElem? (i := 461) (by decide +kernel))
theorem lkL_136 : Cond.methodLink RL 136 mL_setTimes.1 ∈ lw_tbl := (List.mem_of_getElem? (i := 463) (by decide +kernel))
theorem lkL_17 : Cond.methodLink RL 17 mX8_setTimes.1 ∈ lw_tbl := (List.mem_of_getElem? (i := 467) (by decide +kernel))
theorem lkX8_70 : Cond.methodLink RX8 70 mX8_presentKey.1 ∈ lw_tbl := (List.mem_of_getElem? (i := 471) (by decide +kernel))
theorem lkX8_200 : Cond.methodLink RX8 200 mX2_keyIn.1 ∈ lw_tbl := (List.mem_of_getElem? (i := 475) (by decide +kernel))
theorem lkX8_74 : Cond.methodLink RX8 74 mX8_checkNotRevoked.1 ∈ lw_tbl := (List.mem_of_getElem? (i := 492) (by decide +kernel))
theorem lkL_139 : Cond.methodLink RL 139 mL_setDoors.1 ∈ lw_tbl := (List.mem_of_getElem? (i := 496) (by decide +kernel))
theorem lkL_22 : Cond.methodLink RL 22 mX8_setDoors.1 ∈ lw_tbl := (List.mem_of_getElem? (i := 499) (by decide +kernel))
theorem lkL_143 : Cond.methodLink RL 143 mL_revoke.1 ∈ lw_tbl := (List.mem_of_getElem? (i := 503) (by decide +kernel))
theorem lkL_26 : Cond.methodLink RL 26 mX8_revoke.1 ∈ lw_tbl := (List.mem_of_getElem? (i := 506) (by decide +kernel))
theorem lkL_151 : Cond.methodLink RL 151 mL_addDoor.1 ∈ lw_tbl := (List.mem_of_getElem? (i := 510) (by decide +kernel))
theorem lkL_30 : Cond.methodLink RL 30 mX8_addDoor.1 ∈ lw_tbl := (List.mem_of_getElem? (i := 513) (by decide +kernel))
theorem lkX8_97 : Cond.methodLink RX8 97 mX3_init.1 ∈ lw_tbl := (List.mem_of_getElem? (i := 519) (by decide +kernel))
theorem lkX3_1 : Cond.methodLink RX3 1 objectInit ∈ lw_tbl := (List.mem_of_getElem? (i := 522) (by decide +kernel))
theorem lkX8_99 : Cond.methodLink RX8 99 mJx4a65c_add_9ea2d.1 ∈ lw_tbl := (List.mem_of_getElem? (i := 542) (by decide +kernel))
theorem lkL_155 : Cond.methodLink RL 155 mL_setRate.1 ∈ lw_tbl := (List.mem_of_getElem? (i := 543) (by decide +kernel))
theorem lkL_34 : Cond.methodLink RL 34 mX8_setRate.1 ∈ lw_tbl := (List.mem_of_getElem? (i := 570) (by decide +kernel))
theorem lkX8_103 : Cond.methodLink RX8 103 mX8_doorOf.1 ∈ lw_tbl := (List.mem_of_getElem? (i := 574) (by decide +kernel))
theorem lkX8_112 : Cond.methodLink RX8 112 mX3_minuteAt.1 ∈ lw_tbl := (List.mem_of_getElem? (i := 592) (by decide +kernel))
theorem lkX3_26 : Cond.methodLink RX3 26 mX3_driftAt.1 ∈ lw_tbl := (List.mem_of_getElem? (i := 596) (by decide +kernel))
theorem lkX8_116 : Cond.methodLink RX8 116 mX3_setClock.1 ∈ lw_tbl := (List.mem_of_getElem? (i := 600) (by decide +kernel))
theorem lkL_158 : Cond.methodLink RL 158 mL_addPhone.1 ∈ lw_tbl := (List.mem_of_getElem? (i := 605) (by decide +kernel))
theorem lkL_39 : Cond.methodLink RL 39 mX8_addPhone.1 ∈ lw_tbl := (List.mem_of_getElem? (i := 608) (by decide +kernel))
theorem lkX8_128 : Cond.methodLinkNest RX8 128 mX7_init.1 "Doorledger" ∈ lw_tbl := (List.mem_of_getElem? (i := 614) (by decide +kernel))
theorem lkX7_1 : Cond.methodLink RX7 1 objectInit ∈ lw_tbl := (List.mem_of_getElem? (i := 617) (by decide +kernel))
theorem lkL_161 : Cond.methodLink RL 161 mL_pass.1 ∈ lw_tbl := (List.mem_of_getElem? (i := 623) (by decide +kernel))
theorem lkL_42 : Cond.methodLink RL 42 mX8_pass.1 ∈ lw_tbl := (List.mem_of_getElem? (i := 626) (by decide +kernel))
theorem lkL_168 : Cond.methodLink RL 168 mL_meetCloud.1 ∈ lw_tbl := (List.mem_of_getElem? (i := 632) (by decide +kernel))
theorem lkL_45 : Cond.methodLink RL 45 mX8_meetCloud.1 ∈ lw_tbl := (List.mem_of_getElem? (i := 635) (by decide +kernel))
theorem lkX8_134 : Cond.methodLink RX8 134 mX8_phoneOf.1 ∈ lw_tbl := (List.mem_of_getElem? (i := 639) (by decide +kernel))
theorem lkX8_143 : Cond.methodLink RX8 143 mX5_init.1 ∈ lw_tbl := (List.mem_of_getElem? (i := 646) (by decide +kernel))
theorem lkX5_1 : Cond.methodLink RX5 1 objectInit ∈ lw_tbl := (List.mem_of_getElem? (i := 649) (by decide +kernel))
theorem lkX8_146 : Cond.methodLink RX8 146 mX6_keep.1 ∈ lw_tbl := (List.mem_of_getElem? (i := 663) (by decide +kernel))
theorem lkX6_26 : Cond.methodLink RX6 26 mJx4a65c_add_9ea2d.1 ∈ lw_tbl := (List.mem_of_getElem? (i := 667) (by decide +kernel))
theorem lkX8_155 : Cond.methodLink RX8 155 mX0_isCarriedBy.1 ∈ lw_tbl := (List.mem_of_getElem? (i := 668) (by decide +kernel))
theorem lkL_171 : Cond.methodLink RL 171 mL_meetDoor.1 ∈ lw_tbl := (List.mem_of_getElem? (i := 672) (by decide +kernel))
theorem lkL_48 : Cond.methodLink RL 48 mX8_meetDoor.1 ∈ lw_tbl := (List.mem_of_getElem? (i := 675) (by decide +kernel))
theorem lkX8_163 : Cond.methodLink RX8 163 mJ9_max_7cf53.1 ∈ lw_tbl := (List.mem_of_getElem? (i := 679) (by decide +kernel))
theorem lkX8_169 : Cond.methodLink RX8 169 mX0_isWaitingAt.1 ∈ lw_tbl := (List.mem_of_getElem? (i := 680) (by decide +kernel))
theorem lkL_174 : Cond.methodLink RL 174 mL_open.1 ∈ lw_tbl := (List.mem_of_getElem? (i := 684) (by decide +kernel))
theorem lkL_51 : Cond.methodLink RL 51 mX8_open.1 ∈ lw_tbl := (List.mem_of_getElem? (i := 687) (by decide +kernel))
theorem lkX8_181 : Cond.methodLink RX8 181 mX0_init.1 ∈ lw_tbl := (List.mem_of_getElem? (i := 693) (by decide +kernel))
theorem lkX0_1 : Cond.methodLink RX0 1 objectInit ∈ lw_tbl := (List.mem_of_getElem? (i := 696) (by decide +kernel))
theorem lkL_177 : Cond.methodLink RL 177 mL_answer.1 ∈ lw_tbl := (List.mem_of_getElem? (i := 730) (by decide +kernel))
theorem lkL_55 : Cond.methodLink RL 55 mX8_answer.1 ∈ lw_tbl := (List.mem_of_getElem? (i := 733) (by decide +kernel))
theorem lkL_180 : Cond.methodLink RL 180 mL_clock.1 ∈ lw_tbl := (List.mem_of_getElem? (i := 737) (by decide +kernel))
theorem lkL_58 : Cond.methodLink RL 58 mX8_clock.1 ∈ lw_tbl := (List.mem_of_getElem? (i := 740) (by decide +kernel))
theorem lkL_183 : Cond.methodLink RL 183 mL_drifted.1 ∈ lw_tbl := (List.mem_of_getElem? (i := 744) (by decide +kernel))
theorem lkL_61 : Cond.methodLink RL 61 mX8_drifted.1 ∈ lw_tbl := (List.mem_of_getElem? (i := 747) (by decide +kernel))
theorem lkX8_184 : Cond.methodLink RX8 184 mX3_driftAt.1 ∈ lw_tbl := (List.mem_of_getElem? (i := 751) (by decide +kernel))
theorem lkL_187 : Cond.methodLink RL 187 mL_driftedBits.1 ∈ lw_tbl := (List.mem_of_getElem? (i := 752) (by decide +kernel))
theorem lkL_65 : Cond.methodLink RL 65 mX8_driftedBits.1 ∈ lw_tbl := (List.mem_of_getElem? (i := 755) (by decide +kernel))
theorem lkX8_188 : Cond.methodLink RX8 188 mX1_ofFloat.1 ∈ lw_tbl := (List.mem_of_getElem? (i := 759) (by decide +kernel))
theorem lkX1_13 : Cond.methodLink RX1 13 mX1_ofDouble.1 ∈ lw_tbl := (List.mem_of_getElem? (i := 762) (by decide +kernel))
theorem lkL_190 : Cond.methodLink RL 190 mL_versionOf.1 ∈ lw_tbl := (List.mem_of_getElem? (i := 768) (by decide +kernel))
theorem lkL_68 : Cond.methodLink RL 68 mX8_versionOf.1 ∈ lw_tbl := (List.mem_of_getElem? (i := 771) (by decide +kernel))
theorem lkL_193 : Cond.methodLink RL 193 mL_versionByReplay.1 ∈ lw_tbl := (List.mem_of_getElem? (i := 775) (by decide +kernel))
theorem lkL_71 : Cond.methodLink RL 71 mX8_versionByReplay.1 ∈ lw_tbl := (List.mem_of_getElem? (i := 778) (by decide +kernel))
theorem lkL_196 : Cond.methodLink RL 196 mL_versionOn.1 ∈ lw_tbl := (List.mem_of_getElem? (i := 782) (by decide +kernel))
theorem lkL_74 : Cond.methodLink RL 74 mX8_versionOn.1 ∈ lw_tbl := (List.mem_of_getElem? (i := 785) (by decide +kernel))
theorem lkL_199 : Cond.methodLink RL 199 mL_fromIn.1 ∈ lw_tbl := (List.mem_of_getElem? (i := 789) (by decide +kernel))
theorem lkL_77 : Cond.methodLink RL 77 mX8_fromIn.1 ∈ lw_tbl := (List.mem_of_getElem? (i := 792) (by decide +kernel))
theorem lkL_202 : Cond.methodLink RL 202 mL_waiting.1 ∈ lw_tbl := (List.mem_of_getElem? (i := 797) (by decide +kernel))
theorem lkL_80 : Cond.methodLink RL 80 mX8_waiting.1 ∈ lw_tbl := (List.mem_of_getElem? (i := 800) (by decide +kernel))
theorem lkL_205 : Cond.methodLink RL 205 mL_carried.1 ∈ lw_tbl := (List.mem_of_getElem? (i := 804) (by decide +kernel))
theorem lkL_83 : Cond.methodLink RL 83 mX8_carried.1 ∈ lw_tbl := (List.mem_of_getElem? (i := 807) (by decide +kernel))
theorem lkL_212 : Cond.methodLink RL 212 mL_letterOf.1 ∈ lw_tbl := (List.mem_of_getElem? (i := 811) (by decide +kernel))
theorem lkL_86 : Cond.methodLink RL 86 mX8_letterOf.1 ∈ lw_tbl := (List.mem_of_getElem? (i := 814) (by decide +kernel))
theorem lkX8_209 : Cond.methodLink RX8 209 mX8_auditOf.1 ∈ lw_tbl := (List.mem_of_getElem? (i := 818) (by decide +kernel))
theorem lkL_215 : Cond.methodLink RL 215 mL_letterByList.1 ∈ lw_tbl := (List.mem_of_getElem? (i := 823) (by decide +kernel))
theorem lkL_90 : Cond.methodLink RL 90 mX8_letterByList.1 ∈ lw_tbl := (List.mem_of_getElem? (i := 826) (by decide +kernel))
theorem lkL_218 : Cond.methodLink RL 218 mL_minuteOf.1 ∈ lw_tbl := (List.mem_of_getElem? (i := 830) (by decide +kernel))
theorem lkL_93 : Cond.methodLink RL 93 mX8_minuteOf.1 ∈ lw_tbl := (List.mem_of_getElem? (i := 833) (by decide +kernel))
theorem lkL_221 : Cond.methodLink RL 221 mL_versionAt.1 ∈ lw_tbl := (List.mem_of_getElem? (i := 837) (by decide +kernel))
theorem lkL_96 : Cond.methodLink RL 96 mX8_versionAt.1 ∈ lw_tbl := (List.mem_of_getElem? (i := 840) (by decide +kernel))
theorem lkL_224 : Cond.methodLink RL 224 mL_hasArrived.1 ∈ lw_tbl := (List.mem_of_getElem? (i := 844) (by decide +kernel))
theorem lkL_99 : Cond.methodLink RL 99 mX8_hasArrived.1 ∈ lw_tbl := (List.mem_of_getElem? (i := 847) (by decide +kernel))
theorem lkL_227 : Cond.methodLink RL 227 mL_isBreach.1 ∈ lw_tbl := (List.mem_of_getElem? (i := 851) (by decide +kernel))
theorem lkL_103 : Cond.methodLink RL 103 mX8_isBreach.1 ∈ lw_tbl := (List.mem_of_getElem? (i := 854) (by decide +kernel))
theorem lkL_234 : Cond.methodLink RL 234 mL_breachesAt.1 ∈ lw_tbl := (List.mem_of_getElem? (i := 858) (by decide +kernel))
theorem lkL_106 : Cond.methodLink RL 106 mX8_breachesAt.1 ∈ lw_tbl := (List.mem_of_getElem? (i := 861) (by decide +kernel))
theorem lkL_241 : Cond.methodLink RL 241 mL_meanDelay.1 ∈ lw_tbl := (List.mem_of_getElem? (i := 865) (by decide +kernel))
theorem lkL_109 : Cond.methodLink RL 109 mX8_meanDelay.1 ∈ lw_tbl := (List.mem_of_getElem? (i := 882) (by decide +kernel))
theorem lkX8_239 : Cond.methodLink RX8 239 mX8_meanOfDelays.1 ∈ lw_tbl := (List.mem_of_getElem? (i := 886) (by decide +kernel))
theorem lkX8_252 : Cond.methodLink RX8 252 mX8_arrivedCount.1 ∈ lw_tbl := (List.mem_of_getElem? (i := 890) (by decide +kernel))
theorem lkX8_295 : Cond.methodLink RX8 295 mX8_delays.1 ∈ lw_tbl := (List.mem_of_getElem? (i := 897) (by decide +kernel))
theorem lkL_245 : Cond.methodLink RL 245 mL_meanBits.1 ∈ lw_tbl := (List.mem_of_getElem? (i := 898) (by decide +kernel))
theorem lkL_115 : Cond.methodLink RL 115 mX8_meanBits.1 ∈ lw_tbl := (List.mem_of_getElem? (i := 901) (by decide +kernel))
theorem lkX8_243 : Cond.methodLink RX8 243 mX1_ofDouble.1 ∈ lw_tbl := (List.mem_of_getElem? (i := 905) (by decide +kernel))
theorem lkL_248 : Cond.methodLink RL 248 mL_arrivedShare.1 ∈ lw_tbl := (List.mem_of_getElem? (i := 906) (by decide +kernel))
theorem lkL_119 : Cond.methodLink RL 119 mX8_arrivedShare.1 ∈ lw_tbl := (List.mem_of_getElem? (i := 909) (by decide +kernel))
theorem lkL_126 : Cond.methodLink RL 126 mX9_init.1 ∈ lw_tbl := (List.mem_of_getElem? (i := 916) (by decide +kernel))
theorem lkX9_1 : Cond.methodLink RX9 1 objectInit ∈ lw_tbl := (List.mem_of_getElem? (i := 919) (by decide +kernel))
theorem lkL_133 : Cond.methodLink RL 133 mX9_thrown.1 ∈ lw_tbl := (List.mem_of_getElem? (i := 1003) (by decide +kernel))
theorem lkL_132 : Cond.methodLink RL 132 mX9_addKey.1 ∈ lw_tbl := (List.mem_of_getElem? (i := 1007) (by decide +kernel))
theorem lkX9_80 : Cond.methodLink RX9 80 mX9_isBetween.1 ∈ lw_tbl := (List.mem_of_getElem? (i := 1011) (by decide +kernel))
theorem lkX9_98 : Cond.methodLink RX9 98 mX9_areTimes.1 ∈ lw_tbl := (List.mem_of_getElem? (i := 1014) (by decide +kernel))
theorem lkX9_102 : Cond.methodLink RX9 102 mX9_fails.1 ∈ lw_tbl := (List.mem_of_getElem? (i := 1019) (by decide +kernel))
theorem lkX9_106 : Cond.methodLink RX9 106 mX9_changes.1 ∈ lw_tbl := (List.mem_of_getElem? (i := 1023) (by decide +kernel))
theorem lkL_138 : Cond.methodLink RL 138 mX9_setTimes.1 ∈ lw_tbl := (List.mem_of_getElem? (i := 1027) (by decide +kernel))
theorem lkX9_109 : Cond.methodLink RX9 109 mX9_isKey.1 ∈ lw_tbl := (List.mem_of_getElem? (i := 1031) (by decide +kernel))
theorem lkX9_113 : Cond.methodLink RX9 113 mX9_isStuck.1 ∈ lw_tbl := (List.mem_of_getElem? (i := 1035) (by decide +kernel))
theorem lkL_142 : Cond.methodLink RL 142 mX9_setDoors.1 ∈ lw_tbl := (List.mem_of_getElem? (i := 1039) (by decide +kernel))
theorem lkL_146 : Cond.methodLink RL 146 mX9_revoke.1 ∈ lw_tbl := (List.mem_of_getElem? (i := 1043) (by decide +kernel))
theorem lkL_150 : Cond.methodLink RL 150 mX9_version.1 ∈ lw_tbl := (List.mem_of_getElem? (i := 1047) (by decide +kernel))
theorem lkL_154 : Cond.methodLink RL 154 mX9_addDoor.1 ∈ lw_tbl := (List.mem_of_getElem? (i := 1051) (by decide +kernel))
theorem lkL_157 : Cond.methodLink RL 157 mX9_setRate.1 ∈ lw_tbl := (List.mem_of_getElem? (i := 1055) (by decide +kernel))
theorem lkX9_120 : Cond.methodLink RX9 120 mX9_isDoor.1 ∈ lw_tbl := (List.mem_of_getElem? (i := 1059) (by decide +kernel))
theorem lkX9_123 : Cond.methodLink RX9 123 mX9_clockOf.1 ∈ lw_tbl := (List.mem_of_getElem? (i := 1063) (by decide +kernel))
theorem lkX9_116 : Cond.methodLink RX9 116 mX9_driftedOf.1 ∈ lw_tbl := (List.mem_of_getElem? (i := 1067) (by decide +kernel))
theorem lkX9_126 : Cond.methodLink RX9 126 mX9_sets.1 ∈ lw_tbl := (List.mem_of_getElem? (i := 1071) (by decide +kernel))
theorem lkL_160 : Cond.methodLink RL 160 mX9_addPhone.1 ∈ lw_tbl := (List.mem_of_getElem? (i := 1076) (by decide +kernel))
theorem lkL_163 : Cond.methodLink RL 163 mX9_pass.1 ∈ lw_tbl := (List.mem_of_getElem? (i := 1080) (by decide +kernel))
theorem lkL_167 : Cond.methodLink RL 167 mX9_time.1 ∈ lw_tbl := (List.mem_of_getElem? (i := 1084) (by decide +kernel))
theorem lkL_170 : Cond.methodLink RL 170 mX9_meetCloud.1 ∈ lw_tbl := (List.mem_of_getElem? (i := 1088) (by decide +kernel))
theorem lkX9_131 : Cond.methodLink RX9 131 mX9_isPhone.1 ∈ lw_tbl := (List.mem_of_getElem? (i := 1092) (by decide +kernel))
theorem lkL_173 : Cond.methodLink RL 173 mX9_meetDoor.1 ∈ lw_tbl := (List.mem_of_getElem? (i := 1096) (by decide +kernel))
theorem lkX9_134 : Cond.methodLink RX9 134 mJ9_max_7cf53.1 ∈ lw_tbl := (List.mem_of_getElem? (i := 1100) (by decide +kernel))
theorem lkL_176 : Cond.methodLink RL 176 mX9_open.1 ∈ lw_tbl := (List.mem_of_getElem? (i := 1101) (by decide +kernel))
theorem lkX9_140 : Cond.methodLink RX9 140 mX9_isNone.1 ∈ lw_tbl := (List.mem_of_getElem? (i := 1105) (by decide +kernel))
theorem lkX9_143 : Cond.methodLink RX9 143 mX9_letter.1 ∈ lw_tbl := (List.mem_of_getElem? (i := 1109) (by decide +kernel))
theorem lkL_179 : Cond.methodLink RL 179 mX9_answer.1 ∈ lw_tbl := (List.mem_of_getElem? (i := 1113) (by decide +kernel))
theorem lkL_182 : Cond.methodLink RL 182 mX9_clock.1 ∈ lw_tbl := (List.mem_of_getElem? (i := 1117) (by decide +kernel))
theorem lkX9_147 : Cond.methodLink RX9 147 mX9_isNowhere.1 ∈ lw_tbl := (List.mem_of_getElem? (i := 1121) (by decide +kernel))
theorem lkL_186 : Cond.methodLink RL 186 mX9_drifted.1 ∈ lw_tbl := (List.mem_of_getElem? (i := 1125) (by decide +kernel))
theorem lkL_189 : Cond.methodLink RL 189 mX9_driftedBits.1 ∈ lw_tbl := (List.mem_of_getElem? (i := 1129) (by decide +kernel))
theorem lkX9_150 : Cond.methodLink RX9 150 mJxf58ca_floatToIntBits_5c35a.1 ∈ lw_tbl := (List.mem_of_getElem? (i := 1133) (by decide +kernel))
theorem lkJxf58ca_59 : Cond.methodLink RJxf58ca 59 mJxf58ca_isNaN_12338.1 ∈ lw_tbl := (List.mem_of_getElem? (i := 1136) (by decide +kernel))
theorem lkJxf58ca_74 : Cond.methodLink RJxf58ca 74 ⟨"java/lang/Float", "floatToRawIntBits", "(F)I"⟩ ∈ lw_tbl := (List.mem_of_getElem? (i := 1139) (by decide +kernel))
theorem lkL_192 : Cond.methodLink RL 192 mX9_versionOf.1 ∈ lw_tbl := (List.mem_of_getElem? (i := 1143) (by decide +kernel))
theorem lkL_195 : Cond.methodLink RL 195 mX9_versionByReplay.1 ∈ lw_tbl := (List.mem_of_getElem? (i := 1147) (by decide +kernel))
theorem lkX9_156 : Cond.methodLink RX9 156 mX9_versionOf.1 ∈ lw_tbl := (List.mem_of_getElem? (i := 1151) (by decide +kernel))
theorem lkL_198 : Cond.methodLink RL 198 mX9_versionOn.1 ∈ lw_tbl := (List.mem_of_getElem? (i := 1152) (by decide +kernel))
theorem lkL_201 : Cond.methodLink RL 201 mX9_fromIn.1 ∈ lw_tbl := (List.mem_of_getElem? (i := 1156) (by decide +kernel))
theorem lkL_204 : Cond.methodLink RL 204 mX9_waiting.1 ∈ lw_tbl := (List.mem_of_getElem? (i := 1160) (by decide +kernel))
theorem lkL_207 : Cond.methodLink RL 207 mX9_carried.1 ∈ lw_tbl := (List.mem_of_getElem? (i := 1164) (by decide +kernel))
theorem lkL_211 : Cond.methodLink RL 211 mX9_audits.1 ∈ lw_tbl := (List.mem_of_getElem? (i := 1168) (by decide +kernel))
theorem lkL_214 : Cond.methodLink RL 214 mX9_letterOf.1 ∈ lw_tbl := (List.mem_of_getElem? (i := 1172) (by decide +kernel))
theorem lkX9_162 : Cond.methodLink RX9 162 mX9_isNoAudit.1 ∈ lw_tbl := (List.mem_of_getElem? (i := 1176) (by decide +kernel))
theorem lkX9_159 : Cond.methodLink RX9 159 mX9_isAudit.1 ∈ lw_tbl := (List.mem_of_getElem? (i := 1180) (by decide +kernel))
theorem lkL_217 : Cond.methodLink RL 217 mX9_letterByList.1 ∈ lw_tbl := (List.mem_of_getElem? (i := 1184) (by decide +kernel))
theorem lkL_220 : Cond.methodLink RL 220 mX9_minuteOf.1 ∈ lw_tbl := (List.mem_of_getElem? (i := 1188) (by decide +kernel))
theorem lkL_223 : Cond.methodLink RL 223 mX9_versionAt.1 ∈ lw_tbl := (List.mem_of_getElem? (i := 1192) (by decide +kernel))
theorem lkL_226 : Cond.methodLink RL 226 mX9_hasArrived.1 ∈ lw_tbl := (List.mem_of_getElem? (i := 1196) (by decide +kernel))
theorem lkL_229 : Cond.methodLink RL 229 mX9_isBreach.1 ∈ lw_tbl := (List.mem_of_getElem? (i := 1200) (by decide +kernel))
theorem lkX9_165 : Cond.methodLink RX9 165 mX9_isBroken.1 ∈ lw_tbl := (List.mem_of_getElem? (i := 1204) (by decide +kernel))
theorem lkL_233 : Cond.methodLink RL 233 mX9_breaches.1 ∈ lw_tbl := (List.mem_of_getElem? (i := 1208) (by decide +kernel))
theorem lkL_236 : Cond.methodLink RL 236 mX9_breachesAt.1 ∈ lw_tbl := (List.mem_of_getElem? (i := 1212) (by decide +kernel))
theorem lkL_240 : Cond.methodLink RL 240 mX9_delays.1 ∈ lw_tbl := (List.mem_of_getElem? (i := 1216) (by decide +kernel))
theorem lkX9_168 : Cond.methodLink RX9 168 mX9_delaySum.1 ∈ lw_tbl := (List.mem_of_getElem? (i := 1220) (by decide +kernel))
theorem lkL_244 : Cond.methodLink RL 244 mX9_meanDelay.1 ∈ lw_tbl := (List.mem_of_getElem? (i := 1224) (by decide +kernel))
theorem lkX9_176 : Cond.methodLink RX9 176 mX9_mean.1 ∈ lw_tbl := (List.mem_of_getElem? (i := 1228) (by decide +kernel))
theorem lkX9_172 : Cond.methodLink RX9 172 mX9_arrivedMany.1 ∈ lw_tbl := (List.mem_of_getElem? (i := 1232) (by decide +kernel))
theorem lkL_247 : Cond.methodLink RL 247 mX9_meanBits.1 ∈ lw_tbl := (List.mem_of_getElem? (i := 1236) (by decide +kernel))
theorem lkX9_180 : Cond.methodLink RX9 180 mJxe99ae_doubleToLongBits_ccdee.1 ∈ lw_tbl := (List.mem_of_getElem? (i := 1240) (by decide +kernel))
theorem lkJxe99ae_122 : Cond.methodLink RJxe99ae 122 mJxe99ae_isNaN_b9ae7.1 ∈ lw_tbl := (List.mem_of_getElem? (i := 1243) (by decide +kernel))
theorem lkJxe99ae_134 : Cond.methodLink RJxe99ae 134 ⟨"java/lang/Double", "doubleToRawLongBits", "(D)J"⟩ ∈ lw_tbl := (List.mem_of_getElem? (i := 1246) (by decide +kernel))
theorem lkL_250 : Cond.methodLink RL 250 mX9_arrivedShare.1 ∈ lw_tbl := (List.mem_of_getElem? (i := 1250) (by decide +kernel))
theorem lkL_255 : Cond.methodLink RL 255 mX9_isSound.1 ∈ lw_tbl := (List.mem_of_getElem? (i := 1254) (by decide +kernel))
theorem st_min : Cond.static Lib.Math.min.name ∈ lw_tbl := (List.mem_of_getElem? (i := 215) (by decide +kernel))
theorem co_min : Cond.code Lib.Math.min.name Lib.Math.min.code 2 (some .int) ∈ lw_tbl := (List.mem_of_getElem? (i := 216) (by decide +kernel))
theorem st_max : Cond.static Lib.Math.max.name ∈ lw_tbl := (List.mem_of_getElem? (i := 245) (by decide +kernel))
theorem co_max : Cond.code Lib.Math.max.name Lib.Math.max.code 2 (some .int) ∈ lw_tbl := (List.mem_of_getElem? (i := 246) (by decide +kernel))
theorem im_obj : Cond.instanceMethod objectInit ∈ lw_tbl := (List.mem_of_getElem? (i := 73) (by decide +kernel))
theorem co_obj : Cond.code objectInit ⟨#[0xb1]⟩ 1 none ∈ lw_tbl := (List.mem_of_getElem? (i := 74) (by decide +kernel))
theorem ini_L : Cond.initialized RL ∈ lw_tbl := (List.mem_of_getElem? (i := 34) (by decide +kernel))
theorem ini_X8 : Cond.initialized RX8 ∈ lw_tbl := (List.mem_of_getElem? (i := 35) (by decide +kernel))
theorem ini_X2 : Cond.initialized RX2 ∈ lw_tbl := (List.mem_of_getElem? (i := 36) (by decide +kernel))
theorem ini_Jxa1e45 : Cond.initialized RJxa1e45 ∈ lw_tbl := (List.mem_of_getElem? (i := 37) (by decide +kernel))
theorem ini_Jxc12de : Cond.initialized RJxc12de ∈ lw_tbl := (List.mem_of_getElem? (i := 38) (by decide +kernel))
theorem ini_Jx4a65c : Cond.initialized RJx4a65c ∈ lw_tbl := (List.mem_of_getElem? (i := 39) (by decide +kernel))
theorem ini_X6 : Cond.initialized RX6 ∈ lw_tbl := (List.mem_of_getElem? (i := 40) (by decide +kernel))
theorem ini_X9 : Cond.initialized RX9 ∈ lw_tbl := (List.mem_of_getElem? (i := 41) (by decide +kernel))
theorem ini_X4 : Cond.initialized RX4 ∈ lw_tbl := (List.mem_of_getElem? (i := 47) (by decide +kernel))
theorem ini_J8 : Cond.initialized RJ8 ∈ lw_tbl := (List.mem_of_getElem? (i := 48) (by decide +kernel))
theorem ini_J9 : Cond.initialized RJ9 ∈ lw_tbl := (List.mem_of_getElem? (i := 49) (by decide +kernel))
theorem ini_J7 : Cond.initialized RJ7 ∈ lw_tbl := (List.mem_of_getElem? (i := 50) (by decide +kernel))
theorem ini_J10 : Cond.initialized RJ10 ∈ lw_tbl := (List.mem_of_getElem? (i := 51) (by decide +kernel))
theorem ini_J15 : Cond.initialized RJ15 ∈ lw_tbl := (List.mem_of_getElem? (i := 52) (by decide +kernel))
theorem ini_J3 : Cond.initialized RJ3 ∈ lw_tbl := (List.mem_of_getElem? (i := 53) (by decide +kernel))
theorem ini_X3 : Cond.initialized RX3 ∈ lw_tbl := (List.mem_of_getElem? (i := 55) (by decide +kernel))
theorem ini_Jx00060 : Cond.initialized RJx00060 ∈ lw_tbl := (List.mem_of_getElem? (i := 57) (by decide +kernel))
theorem ini_J0 : Cond.initialized RJ0 ∈ lw_tbl := (List.mem_of_getElem? (i := 58) (by decide +kernel))
theorem ini_X7 : Cond.initialized RX7 ∈ lw_tbl := (List.mem_of_getElem? (i := 59) (by decide +kernel))
theorem ini_X5 : Cond.initialized RX5 ∈ lw_tbl := (List.mem_of_getElem? (i := 60) (by decide +kernel))
theorem ini_X0 : Cond.initialized RX0 ∈ lw_tbl := (List.mem_of_getElem? (i := 61) (by decide +kernel))
theorem ini_X1 : Cond.initialized RX1 ∈ lw_tbl := (List.mem_of_getElem? (i := 62) (by decide +kernel))
theorem ini_Jxd2413 : Cond.initialized RJxd2413 ∈ lw_tbl := (List.mem_of_getElem? (i := 63) (by decide +kernel))
theorem ini_Jxf58ca : Cond.initialized RJxf58ca ∈ lw_tbl := (List.mem_of_getElem? (i := 64) (by decide +kernel))
theorem ini_Jxe99ae : Cond.initialized RJxe99ae ∈ lw_tbl := (List.mem_of_getElem? (i := 66) (by decide +kernel))
theorem na_fillInStackTrace : Cond.native ⟨"java/lang/Throwable", "fillInStackTrace", "(I)Ljava/lang/Throwable;"⟩ ∈ lw_tbl := (List.mem_of_getElem? (i := 315) (by decide +kernel))
theorem im_fillInStackTrace : Cond.instanceMethod ⟨"java/lang/Throwable", "fillInStackTrace", "(I)Ljava/lang/Throwable;"⟩ ∈ lw_tbl := (List.mem_of_getElem? (i := 313) (by decide +kernel))
theorem na_getClass : Cond.native ⟨"java/lang/Object", "getClass", "()Ljava/lang/Class;"⟩ ∈ lw_tbl := (List.mem_of_getElem? (i := 450) (by decide +kernel))
theorem im_getClass : Cond.instanceMethod ⟨"java/lang/Object", "getClass", "()Ljava/lang/Class;"⟩ ∈ lw_tbl := (List.mem_of_getElem? (i := 432) (by decide +kernel))
theorem de_getClass : Cond.declares ⟨"java/lang/Object", "getClass", "()Ljava/lang/Class;"⟩ ∈ lw_tbl := (List.mem_of_getElem? (i := 1282) (by decide +kernel))
theorem na_arraycopy : Cond.native ⟨"java/lang/System", "arraycopy", "(Ljava/lang/Object;ILjava/lang/Object;II)V"⟩ ∈ lw_tbl := (List.mem_of_getElem? (i := 460) (by decide +kernel))
theorem st_arraycopy : Cond.static ⟨"java/lang/System", "arraycopy", "(Ljava/lang/Object;ILjava/lang/Object;II)V"⟩ ∈ lw_tbl := (List.mem_of_getElem? (i := 459) (by decide +kernel))
theorem na_floatToRawIntBits : Cond.native ⟨"java/lang/Float", "floatToRawIntBits", "(F)I"⟩ ∈ lw_tbl := (List.mem_of_getElem? (i := 1141) (by decide +kernel))
theorem st_floatToRawIntBits : Cond.static ⟨"java/lang/Float", "floatToRawIntBits", "(F)I"⟩ ∈ lw_tbl := (List.mem_of_getElem? (i := 1140) (by decide +kernel))
theorem na_doubleToRawLongBits : Cond.native ⟨"java/lang/Double", "doubleToRawLongBits", "(D)J"⟩ ∈ lw_tbl := (List.mem_of_getElem? (i := 1248) (by decide +kernel))
theorem st_doubleToRawLongBits : Cond.static ⟨"java/lang/Double", "doubleToRawLongBits", "(D)J"⟩ ∈ lw_tbl := (List.mem_of_getElem? (i := 1247) (by decide +kernel))
theorem se_getClass : Cond.selects "[Ljava/lang/Object;" ⟨"java/lang/Object", "getClass", "()Ljava/lang/Class;"⟩ ⟨"java/lang/Object", "getClass", "()Ljava/lang/Class;"⟩ ∈ lw_tbl := (List.mem_of_getElem? (i := 1281) (by decide +kernel))
theorem clL_8 : Cond.classLink RL 8 RX8 ∈ lw_tbl := (List.mem_of_getElem? (i := 67) (by decide +kernel))
theorem inX8 : Cond.instantiable RX8 6 ∈ lw_tbl := (List.mem_of_getElem? (i := 68) (by decide +kernel))
theorem clX8_7 : Cond.classLink RX8 7 RX2 ∈ lw_tbl := (List.mem_of_getElem? (i := 75) (by decide +kernel))
theorem inX2 : Cond.instantiable RX2 2 ∈ lw_tbl := (List.mem_of_getElem? (i := 76) (by decide +kernel))
theorem clX2_7 : Cond.classLink RX2 7 RJx4a65c ∈ lw_tbl := (List.mem_of_getElem? (i := 81) (by decide +kernel))
theorem inJx4a65c : Cond.instantiable RJx4a65c 3 ∈ lw_tbl := (List.mem_of_getElem? (i := 82) (by decide +kernel))
theorem clX8_16 : Cond.classLink RX8 16 RJx4a65c ∈ lw_tbl := (List.mem_of_getElem? (i := 115) (by decide +kernel))
theorem clX8_29 : Cond.classLink RX8 29 RX6 ∈ lw_tbl := (List.mem_of_getElem? (i := 117) (by decide +kernel))
theorem inX6 : Cond.instantiable RX6 2 ∈ lw_tbl := (List.mem_of_getElem? (i := 118) (by decide +kernel))
theorem clX6_9 : Cond.classLink RX6 9 RJx4a65c ∈ lw_tbl := (List.mem_of_getElem? (i := 123) (by decide +kernel))
theorem clX8_153 : Cond.classLink RX8 153 RX0 ∈ lw_tbl := (List.mem_of_getElem? (i := 191) (by decide +kernel))
theorem clX2_28 : Cond.classLink RX2 28 RX4 ∈ lw_tbl := (List.mem_of_getElem? (i := 205) (by decide +kernel))
theorem clX8_95 : Cond.classLink RX8 95 RX3 ∈ lw_tbl := (List.mem_of_getElem? (i := 233) (by decide +kernel))
theorem clX6_40 : Cond.classLink RX6 40 RX5 ∈ lw_tbl := (List.mem_of_getElem? (i := 243) (by decide +kernel))
theorem clX8_126 : Cond.classLink RX8 126 RX7 ∈ lw_tbl := (List.mem_of_getElem? (i := 251) (by decide +kernel))
theorem clL_13 : Cond.classLink RL 13 "java/lang/IllegalArgumentException" ∈ lw_tbl := (List.mem_of_getElem? (i := 263) (by decide +kernel))
theorem clL_15 : Cond.classLink RL 15 "java/lang/IllegalStateException" ∈ lw_tbl := (List.mem_of_getElem? (i := 264) (by decide +kernel))
theorem clX8_107 : Cond.classLink RX8 107 "java/lang/IllegalArgumentException" ∈ lw_tbl := (List.mem_of_getElem? (i := 272) (by decide +kernel))
theorem clX8_51 : Cond.classLink RX8 51 "java/lang/IllegalStateException" ∈ lw_tbl := (List.mem_of_getElem? (i := 348) (by decide +kernel))
theorem clX8_61 : Cond.classLink RX8 61 RX4 ∈ lw_tbl := (List.mem_of_getElem? (i := 369) (by decide +kernel))
theorem inX4 : Cond.instantiable RX4 6 ∈ lw_tbl := (List.mem_of_getElem? (i := 370) (by decide +kernel))
theorem clJ7_110 : Cond.classLink RJ7 110 "[Ljava/lang/Object;" ∈ lw_tbl := (List.mem_of_getElem? (i := 454) (by decide +kernel))
theorem clJ7_2 : Cond.classLink RJ7 2 "java/lang/Object" ∈ lw_tbl := (List.mem_of_getElem? (i := 456) (by decide +kernel))
theorem clJx4a65c_7 : Cond.classLink RJx4a65c 7 "java/lang/Object" ∈ lw_tbl := (List.mem_of_getElem? (i := 462) (by decide +kernel))
theorem clL_20 : Cond.classLink RL 20 "java/util/NoSuchElementException" ∈ lw_tbl := (List.mem_of_getElem? (i := 466) (by decide +kernel))
theorem clX8_204 : Cond.classLink RX8 204 "java/util/NoSuchElementException" ∈ lw_tbl := (List.mem_of_getElem? (i := 476) (by decide +kernel))
theorem inX3 : Cond.instantiable RX3 5 ∈ lw_tbl := (List.mem_of_getElem? (i := 518) (by decide +kernel))
theorem clL_37 : Cond.classLink RL 37 "java/lang/IndexOutOfBoundsException" ∈ lw_tbl := (List.mem_of_getElem? (i := 546) (by decide +kernel))
theorem clX8_278 : Cond.classLink RX8 278 "java/lang/IndexOutOfBoundsException" ∈ lw_tbl := (List.mem_of_getElem? (i := 578) (by decide +kernel))
theorem inX7 : Cond.instantiable RX7 1 ∈ lw_tbl := (List.mem_of_getElem? (i := 613) (by decide +kernel))
theorem clX8_141 : Cond.classLink RX8 141 RX5 ∈ lw_tbl := (List.mem_of_getElem? (i := 644) (by decide +kernel))
theorem inX5 : Cond.instantiable RX5 3 ∈ lw_tbl := (List.mem_of_getElem? (i := 645) (by decide +kernel))
theorem inX0 : Cond.instantiable RX0 8 ∈ lw_tbl := (List.mem_of_getElem? (i := 692) (by decide +kernel))
theorem clL_113 : Cond.classLink RL 113 "java/lang/ArithmeticException" ∈ lw_tbl := (List.mem_of_getElem? (i := 868) (by decide +kernel))
theorem clX8_247 : Cond.classLink RX8 247 "java/lang/ArithmeticException" ∈ lw_tbl := (List.mem_of_getElem? (i := 894) (by decide +kernel))
theorem clL_124 : Cond.classLink RL 124 RX9 ∈ lw_tbl := (List.mem_of_getElem? (i := 914) (by decide +kernel))
theorem inX9 : Cond.instantiable RX9 25 ∈ lw_tbl := (List.mem_of_getElem? (i := 915) (by decide +kernel))
theorem clX9_16 : Cond.classLink RX9 16 "[[I" ∈ lw_tbl := (List.mem_of_getElem? (i := 920) (by decide +kernel))
theorem clX9_27 : Cond.classLink RX9 27 "[[Z" ∈ lw_tbl := (List.mem_of_getElem? (i := 922) (by decide +kernel))
theorem caX8 : Cond.castable RX8 "java/lang/Object" ∈ lw_tbl := (List.mem_of_getElem? (i := 1262) (by decide +kernel))
theorem caX2 : Cond.castable RX2 "java/lang/Object" ∈ lw_tbl := (List.mem_of_getElem? (i := 1263) (by decide +kernel))
theorem caJx4a65c : Cond.castable RJx4a65c "java/lang/Object" ∈ lw_tbl := (List.mem_of_getElem? (i := 1264) (by decide +kernel))
theorem caX6 : Cond.castable RX6 "java/lang/Object" ∈ lw_tbl := (List.mem_of_getElem? (i := 1265) (by decide +kernel))
theorem caX9 : Cond.castable RX9 "java/lang/Object" ∈ lw_tbl := (List.mem_of_getElem? (i := 1266) (by decide +kernel))
theorem caX4 : Cond.castable RX4 "java/lang/Object" ∈ lw_tbl := (List.mem_of_getElem? (i := 1269) (by decide +kernel))
theorem caX3 : Cond.castable RX3 "java/lang/Object" ∈ lw_tbl := (List.mem_of_getElem? (i := 1271) (by decide +kernel))
theorem caX7 : Cond.castable RX7 "java/lang/Object" ∈ lw_tbl := (List.mem_of_getElem? (i := 1274) (by decide +kernel))
theorem caX5 : Cond.castable RX5 "java/lang/Object" ∈ lw_tbl := (List.mem_of_getElem? (i := 1275) (by decide +kernel))
theorem caX0 : Cond.castable RX0 "java/lang/Object" ∈ lw_tbl := (List.mem_of_getElem? (i := 1276) (by decide +kernel))
theorem flJx4a65c_9 : FL RJx4a65c 9 TJx4a65c 3 1 := ⟨by decide, Or.inl (List.mem_of_getElem? (i := 95) (by decide +kernel))⟩
theorem flJx4a65c_48 : FL RJx4a65c 48 TJx4a65c 3 2 := ⟨by decide, Or.inl (List.mem_of_getElem? (i := 96) (by decide +kernel))⟩
theorem flJxc12de_7 : FL RJxc12de 7 TJx4a65c 3 0 := ⟨by decide, Or.inl (List.mem_of_getElem? (i := 97) (by decide +kernel))⟩
theorem flJx4a65c_63 : FL RJx4a65c 63 TJx4a65c 3 0 := ⟨by decide, Or.inr (Or.inr ⟨"java/util/ArrayList", (List.mem_of_getElem? (i := 98) (by decide +kernel)), (List.mem_of_getElem? (i := 99) (by decide +kernel))⟩)⟩
theorem flX2_10 : FL RX2 10 TX2 2 0 := ⟨by decide, Or.inl (List.mem_of_getElem? (i := 107) (by decide +kernel))⟩
theorem fiX2_10 : 0 < 2 ∧ Cond.fieldLink RX2 10 (TX2 0).1 (TX2 0).2.1 (TX2 0).2.2.1 ∈ lw_tbl := ⟨by decide, (List.mem_of_getElem? (i := 107) (by decide +kernel))⟩
theorem flX2_16 : FL RX2 16 TX2 2 1 := ⟨by decide, Or.inl (List.mem_of_getElem? (i := 108) (by decide +kernel))⟩
theorem flX8_48 : FL RX8 48 TX2 2 1 := ⟨by decide, Or.inr (Or.inl ⟨"Doorledger", (List.mem_of_getElem? (i := 109) (by decide +kernel))⟩)⟩
theorem flX6_12 : FL RX6 12 TX6 2 0 := ⟨by decide, Or.inl (List.mem_of_getElem? (i := 125) (by decide +kernel))⟩
theorem fiX6_12 : 0 < 2 ∧ Cond.fieldLink RX6 12 (TX6 0).1 (TX6 0).2.1 (TX6 0).2.2.1 ∈ lw_tbl := ⟨by decide, (List.mem_of_getElem? (i := 125) (by decide +kernel))⟩
theorem flX6_18 : FL RX6 18 TX6 2 1 := ⟨by decide, Or.inl (List.mem_of_getElem? (i := 126) (by decide +kernel))⟩
theorem fiX6_18 : 1 < 2 ∧ Cond.fieldLink RX6 18 (TX6 1).1 (TX6 1).2.1 (TX6 1).2.2.1 ∈ lw_tbl := ⟨by decide, (List.mem_of_getElem? (i := 126) (by decide +kernel))⟩
theorem flX8_10 : FL RX8 10 TX8 6 0 := ⟨by decide, Or.inl (List.mem_of_getElem? (i := 133) (by decide +kernel))⟩
theorem fiX8_10 : 0 < 6 ∧ Cond.fieldLink RX8 10 (TX8 0).1 (TX8 0).2.1 (TX8 0).2.2.1 ∈ lw_tbl := ⟨by decide, (List.mem_of_getElem? (i := 133) (by decide +kernel))⟩
theorem flX8_19 : FL RX8 19 TX8 6 1 := ⟨by decide, Or.inl (List.mem_of_getElem? (i := 134) (by decide +kernel))⟩
theorem fiX8_19 : 1 < 6 ∧ Cond.fieldLink RX8 19 (TX8 1).1 (TX8 1).2.1 (TX8 1).2.2.1 ∈ lw_tbl := ⟨by decide, (List.mem_of_getElem? (i := 134) (by decide +kernel))⟩
theorem flX8_23 : FL RX8 23 TX8 6 2 := ⟨by decide, Or.inl (List.mem_of_getElem? (i := 135) (by decide +kernel))⟩
theorem fiX8_23 : 2 < 6 ∧ Cond.fieldLink RX8 23 (TX8 2).1 (TX8 2).2.1 (TX8 2).2.2.1 ∈ lw_tbl := ⟨by decide, (List.mem_of_getElem? (i := 135) (by decide +kernel))⟩
theorem flX8_26 : FL RX8 26 TX8 6 3 := ⟨by decide, Or.inl (List.mem_of_getElem? (i := 136) (by decide +kernel))⟩
theorem fiX8_26 : 3 < 6 ∧ Cond.fieldLink RX8 26 (TX8 3).1 (TX8 3).2.1 (TX8 3).2.2.1 ∈ lw_tbl := ⟨by decide, (List.mem_of_getElem? (i := 136) (by decide +kernel))⟩
theorem flX8_32 : FL RX8 32 TX8 6 4 := ⟨by decide, Or.inl (List.mem_of_getElem? (i := 137) (by decide +kernel))⟩
theorem fiX8_32 : 4 < 6 ∧ Cond.fieldLink RX8 32 (TX8 4).1 (TX8 4).2.1 (TX8 4).2.2.1 ∈ lw_tbl := ⟨by decide, (List.mem_of_getElem? (i := 137) (by decide +kernel))⟩
theorem flX8_36 : FL RX8 36 TX8 6 5 := ⟨by decide, Or.inl (List.mem_of_getElem? (i := 138) (by decide +kernel))⟩
theorem flX4_7 : FL RX4 7 TX4 6 0 := ⟨by decide, Or.inl (List.mem_of_getElem? (i := 375) (by decide +kernel))⟩
theorem fiX4_7 : 0 < 6 ∧ Cond.fieldLink RX4 7 (TX4 0).1 (TX4 0).2.1 (TX4 0).2.2.1 ∈ lw_tbl := ⟨by decide, (List.mem_of_getElem? (i := 375) (by decide +kernel))⟩
theorem flX2_43 : FL RX2 43 TX4 6 0 := ⟨by decide, Or.inr (Or.inl ⟨"Doorledger", (List.mem_of_getElem? (i := 376) (by decide +kernel))⟩)⟩
theorem flX4_13 : FL RX4 13 TX4 6 1 := ⟨by decide, Or.inl (List.mem_of_getElem? (i := 377) (by decide +kernel))⟩
theorem fiX4_13 : 1 < 6 ∧ Cond.fieldLink RX4 13 (TX4 1).1 (TX4 1).2.1 (TX4 1).2.2.1 ∈ lw_tbl := ⟨by decide, (List.mem_of_getElem? (i := 377) (by decide +kernel))⟩
theorem flX8_78 : FL RX8 78 TX4 6 1 := ⟨by decide, Or.inr (Or.inl ⟨"Doorledger", (List.mem_of_getElem? (i := 378) (by decide +kernel))⟩)⟩
theorem flX4_16 : FL RX4 16 TX4 6 2 := ⟨by decide, Or.inl (List.mem_of_getElem? (i := 379) (by decide +kernel))⟩
theorem fiX4_16 : 2 < 6 ∧ Cond.fieldLink RX4 16 (TX4 2).1 (TX4 2).2.1 (TX4 2).2.2.1 ∈ lw_tbl := ⟨by decide, (List.mem_of_getElem? (i := 379) (by decide +kernel))⟩
theorem flX8_80 : FL RX8 80 TX4 6 2 := ⟨by decide, Or.inr (Or.inl ⟨"Doorledger", (List.mem_of_getElem? (i := 380) (by decide +kernel))⟩)⟩
theorem flX4_19 : FL RX4 19 TX4 6 3 := ⟨by decide, Or.inl (List.mem_of_getElem? (i := 381) (by decide +kernel))⟩
theorem fiX4_19 : 3 < 6 ∧ Cond.fieldLink RX4 19 (TX4 3).1 (TX4 3).2.1 (TX4 3).2.2.1 ∈ lw_tbl := ⟨by decide, (List.mem_of_getElem? (i := 381) (by decide +kernel))⟩
theorem flX8_83 : FL RX8 83 TX4 6 3 := ⟨by decide, Or.inr (Or.inl ⟨"Doorledger", (List.mem_of_getElem? (i := 382) (by decide +kernel))⟩)⟩
theorem flX4_22 : FL RX4 22 TX4 6 4 := ⟨by decide, Or.inl (List.mem_of_getElem? (i := 383) (by decide +kernel))⟩
theorem fiX4_22 : 4 < 6 ∧ Cond.fieldLink RX4 22 (TX4 4).1 (TX4 4).2.1 (TX4 4).2.2.1 ∈ lw_tbl := ⟨by decide, (List.mem_of_getElem? (i := 383) (by decide +kernel))⟩
theorem flX8_268 : FL RX8 268 TX4 6 4 := ⟨by decide, Or.inr (Or.inl ⟨"Doorledger", (List.mem_of_getElem? (i := 384) (by decide +kernel))⟩)⟩
theorem flX4_26 : FL RX4 26 TX4 6 5 := ⟨by decide, Or.inl (List.mem_of_getElem? (i := 385) (by decide +kernel))⟩
theorem fiX4_26 : 5 < 6 ∧ Cond.fieldLink RX4 26 (TX4 5).1 (TX4 5).2.1 (TX4 5).2.2.1 ∈ lw_tbl := ⟨by decide, (List.mem_of_getElem? (i := 385) (by decide +kernel))⟩
theorem flX2_30 : FL RX2 30 TX4 6 5 := ⟨by decide, Or.inr (Or.inl ⟨"Doorledger", (List.mem_of_getElem? (i := 386) (by decide +kernel))⟩)⟩
theorem flX3_13 : FL RX3 13 TX3 5 0 := ⟨by decide, Or.inl (List.mem_of_getElem? (i := 523) (by decide +kernel))⟩
theorem fiX3_13 : 0 < 5 ∧ Cond.fieldLink RX3 13 (TX3 0).1 (TX3 0).2.1 (TX3 0).2.2.1 ∈ lw_tbl := ⟨by decide, (List.mem_of_getElem? (i := 523) (by decide +kernel))⟩
theorem flX8_194 : FL RX8 194 TX3 5 0 := ⟨by decide, Or.inr (Or.inl ⟨"Doorledger", (List.mem_of_getElem? (i := 524) (by decide +kernel))⟩)⟩
theorem flX3_17 : FL RX3 17 TX3 5 1 := ⟨by decide, Or.inl (List.mem_of_getElem? (i := 525) (by decide +kernel))⟩
theorem flX8_162 : FL RX8 162 TX3 5 1 := ⟨by decide, Or.inr (Or.inl ⟨"Doorledger", (List.mem_of_getElem? (i := 526) (by decide +kernel))⟩)⟩
theorem flX3_7 : FL RX3 7 TX3 5 2 := ⟨by decide, Or.inl (List.mem_of_getElem? (i := 527) (by decide +kernel))⟩
theorem flX8_120 : FL RX8 120 TX3 5 2 := ⟨by decide, Or.inr (Or.inl ⟨"Doorledger", (List.mem_of_getElem? (i := 528) (by decide +kernel))⟩)⟩
theorem flX3_20 : FL RX3 20 TX3 5 3 := ⟨by decide, Or.inl (List.mem_of_getElem? (i := 529) (by decide +kernel))⟩
theorem flX3_23 : FL RX3 23 TX3 5 4 := ⟨by decide, Or.inl (List.mem_of_getElem? (i := 530) (by decide +kernel))⟩
theorem flX7_7 : FL RX7 7 TX7 1 0 := ⟨by decide, Or.inl (List.mem_of_getElem? (i := 618) (by decide +kernel))⟩
theorem flX8_138 : FL RX8 138 TX7 1 0 := ⟨by decide, Or.inr (Or.inl ⟨"Doorledger", (List.mem_of_getElem? (i := 619) (by decide +kernel))⟩)⟩
theorem flX5_7 : FL RX5 7 TX5 3 0 := ⟨by decide, Or.inl (List.mem_of_getElem? (i := 650) (by decide +kernel))⟩
theorem fiX5_7 : 0 < 3 ∧ Cond.fieldLink RX5 7 (TX5 0).1 (TX5 0).2.1 (TX5 0).2.2.1 ∈ lw_tbl := ⟨by decide, (List.mem_of_getElem? (i := 650) (by decide +kernel))⟩
theorem flX6_42 : FL RX6 42 TX5 3 0 := ⟨by decide, Or.inr (Or.inl ⟨"Doorledger", (List.mem_of_getElem? (i := 651) (by decide +kernel))⟩)⟩
theorem flX5_13 : FL RX5 13 TX5 3 1 := ⟨by decide, Or.inl (List.mem_of_getElem? (i := 652) (by decide +kernel))⟩
theorem fiX5_13 : 1 < 3 ∧ Cond.fieldLink RX5 13 (TX5 1).1 (TX5 1).2.1 (TX5 1).2.2.1 ∈ lw_tbl := ⟨by decide, (List.mem_of_getElem? (i := 652) (by decide +kernel))⟩
theorem flX6_46 : FL RX6 46 TX5 3 1 := ⟨by decide, Or.inr (Or.inl ⟨"Doorledger", (List.mem_of_getElem? (i := 653) (by decide +kernel))⟩)⟩
theorem flX5_16 : FL RX5 16 TX5 3 2 := ⟨by decide, Or.inl (List.mem_of_getElem? (i := 654) (by decide +kernel))⟩
theorem fiX5_16 : 2 < 3 ∧ Cond.fieldLink RX5 16 (TX5 2).1 (TX5 2).2.1 (TX5 2).2.2.1 ∈ lw_tbl := ⟨by decide, (List.mem_of_getElem? (i := 654) (by decide +kernel))⟩
theorem flX6_49 : FL RX6 49 TX5 3 2 := ⟨by decide, Or.inr (Or.inl ⟨"Doorledger", (List.mem_of_getElem? (i := 655) (by decide +kernel))⟩)⟩
theorem flX0_16 : FL RX0 16 TX0 8 0 := ⟨by decide, Or.inl (List.mem_of_getElem? (i := 697) (by decide +kernel))⟩
theorem fiX0_16 : 0 < 8 ∧ Cond.fieldLink RX0 16 (TX0 0).1 (TX0 0).2.1 (TX0 0).2.2.1 ∈ lw_tbl := ⟨by decide, (List.mem_of_getElem? (i := 697) (by decide +kernel))⟩
theorem flX8_233 : FL RX8 233 TX0 8 0 := ⟨by decide, Or.inr (Or.inl ⟨"Doorledger", (List.mem_of_getElem? (i := 698) (by decide +kernel))⟩)⟩
theorem flX0_19 : FL RX0 19 TX0 8 1 := ⟨by decide, Or.inl (List.mem_of_getElem? (i := 699) (by decide +kernel))⟩
theorem fiX0_19 : 1 < 8 ∧ Cond.fieldLink RX0 19 (TX0 1).1 (TX0 1).2.1 (TX0 1).2.2.1 ∈ lw_tbl := ⟨by decide, (List.mem_of_getElem? (i := 699) (by decide +kernel))⟩
theorem flX8_287 : FL RX8 287 TX0 8 1 := ⟨by decide, Or.inr (Or.inl ⟨"Doorledger", (List.mem_of_getElem? (i := 700) (by decide +kernel))⟩)⟩
theorem flX0_22 : FL RX0 22 TX0 8 2 := ⟨by decide, Or.inl (List.mem_of_getElem? (i := 701) (by decide +kernel))⟩
theorem fiX0_22 : 2 < 8 ∧ Cond.fieldLink RX0 22 (TX0 2).1 (TX0 2).2.1 (TX0 2).2.2.1 ∈ lw_tbl := ⟨by decide, (List.mem_of_getElem? (i := 701) (by decide +kernel))⟩
theorem flX8_221 : FL RX8 221 TX0 8 2 := ⟨by decide, Or.inr (Or.inl ⟨"Doorledger", (List.mem_of_getElem? (i := 702) (by decide +kernel))⟩)⟩
theorem flX0_25 : FL RX0 25 TX0 8 3 := ⟨by decide, Or.inl (List.mem_of_getElem? (i := 703) (by decide +kernel))⟩
theorem fiX0_25 : 3 < 8 ∧ Cond.fieldLink RX0 25 (TX0 3).1 (TX0 3).2.1 (TX0 3).2.2.1 ∈ lw_tbl := ⟨by decide, (List.mem_of_getElem? (i := 703) (by decide +kernel))⟩
theorem flX8_213 : FL RX8 213 TX0 8 3 := ⟨by decide, Or.inr (Or.inl ⟨"Doorledger", (List.mem_of_getElem? (i := 704) (by decide +kernel))⟩)⟩
theorem flX0_29 : FL RX0 29 TX0 8 4 := ⟨by decide, Or.inl (List.mem_of_getElem? (i := 705) (by decide +kernel))⟩
theorem fiX0_29 : 4 < 8 ∧ Cond.fieldLink RX0 29 (TX0 4).1 (TX0 4).2.1 (TX0 4).2.2.1 ∈ lw_tbl := ⟨by decide, (List.mem_of_getElem? (i := 705) (by decide +kernel))⟩
theorem flX8_224 : FL RX8 224 TX0 8 4 := ⟨by decide, Or.inr (Or.inl ⟨"Doorledger", (List.mem_of_getElem? (i := 706) (by decide +kernel))⟩)⟩
theorem flX0_32 : FL RX0 32 TX0 8 5 := ⟨by decide, Or.inl (List.mem_of_getElem? (i := 707) (by decide +kernel))⟩
theorem fiX0_32 : 5 < 8 ∧ Cond.fieldLink RX0 32 (TX0 5).1 (TX0 5).2.1 (TX0 5).2.2.1 ∈ lw_tbl := ⟨by decide, (List.mem_of_getElem? (i := 707) (by decide +kernel))⟩
theorem flX8_236 : FL RX8 236 TX0 8 5 := ⟨by decide, Or.inr (Or.inl ⟨"Doorledger", (List.mem_of_getElem? (i := 708) (by decide +kernel))⟩)⟩
theorem flX0_9 : FL RX0 9 TX0 8 6 := ⟨by decide, Or.inl (List.mem_of_getElem? (i := 709) (by decide +kernel))⟩
theorem flX8_172 : FL RX8 172 TX0 8 6 := ⟨by decide, Or.inr (Or.inl ⟨"Doorledger", (List.mem_of_getElem? (i := 710) (by decide +kernel))⟩)⟩
theorem flX0_13 : FL RX0 13 TX0 8 7 := ⟨by decide, Or.inl (List.mem_of_getElem? (i := 711) (by decide +kernel))⟩
theorem flX8_159 : FL RX8 159 TX0 8 7 := ⟨by decide, Or.inr (Or.inl ⟨"Doorledger", (List.mem_of_getElem? (i := 712) (by decide +kernel))⟩)⟩
theorem flX9_73 : FL RX9 73 TX9 25 0 := ⟨by decide, Or.inl (List.mem_of_getElem? (i := 924) (by decide +kernel))⟩
theorem flX9_9 : FL RX9 9 TX9 25 1 := ⟨by decide, Or.inl (List.mem_of_getElem? (i := 925) (by decide +kernel))⟩
theorem fiX9_9 : 1 < 25 ∧ Cond.fieldLink RX9 9 (TX9 1).1 (TX9 1).2.1 (TX9 1).2.2.1 ∈ lw_tbl := ⟨by decide, (List.mem_of_getElem? (i := 925) (by decide +kernel))⟩
theorem flX9_13 : FL RX9 13 TX9 25 2 := ⟨by decide, Or.inl (List.mem_of_getElem? (i := 926) (by decide +kernel))⟩
theorem fiX9_13 : 2 < 25 ∧ Cond.fieldLink RX9 13 (TX9 2).1 (TX9 2).2.1 (TX9 2).2.2.1 ∈ lw_tbl := ⟨by decide, (List.mem_of_getElem? (i := 926) (by decide +kernel))⟩
theorem flX9_18 : FL RX9 18 TX9 25 3 := ⟨by decide, Or.inl (List.mem_of_getElem? (i := 927) (by decide +kernel))⟩
theorem fiX9_18 : 3 < 25 ∧ Cond.fieldLink RX9 18 (TX9 3).1 (TX9 3).2.1 (TX9 3).2.2.1 ∈ lw_tbl := ⟨by decide, (List.mem_of_getElem? (i := 927) (by decide +kernel))⟩
theorem flX9_21 : FL RX9 21 TX9 25 4 := ⟨by decide, Or.inl (List.mem_of_getElem? (i := 928) (by decide +kernel))⟩
theorem fiX9_21 : 4 < 25 ∧ Cond.fieldLink RX9 21 (TX9 4).1 (TX9 4).2.1 (TX9 4).2.2.1 ∈ lw_tbl := ⟨by decide, (List.mem_of_getElem? (i := 928) (by decide +kernel))⟩
theorem flX9_24 : FL RX9 24 TX9 25 5 := ⟨by decide, Or.inl (List.mem_of_getElem? (i := 929) (by decide +kernel))⟩
theorem fiX9_24 : 5 < 25 ∧ Cond.fieldLink RX9 24 (TX9 5).1 (TX9 5).2.1 (TX9 5).2.2.1 ∈ lw_tbl := ⟨by decide, (List.mem_of_getElem? (i := 929) (by decide +kernel))⟩
theorem flX9_29 : FL RX9 29 TX9 25 6 := ⟨by decide, Or.inl (List.mem_of_getElem? (i := 930) (by decide +kernel))⟩
theorem fiX9_29 : 6 < 25 ∧ Cond.fieldLink RX9 29 (TX9 6).1 (TX9 6).2.1 (TX9 6).2.2.1 ∈ lw_tbl := ⟨by decide, (List.mem_of_getElem? (i := 930) (by decide +kernel))⟩
theorem flX9_77 : FL RX9 77 TX9 25 7 := ⟨by decide, Or.inl (List.mem_of_getElem? (i := 931) (by decide +kernel))⟩
theorem flX9_95 : FL RX9 95 TX9 25 8 := ⟨by decide, Or.inl (List.mem_of_getElem? (i := 932) (by decide +kernel))⟩
theorem flX9_32 : FL RX9 32 TX9 25 9 := ⟨by decide, Or.inl (List.mem_of_getElem? (i := 933) (by decide +kernel))⟩
theorem fiX9_32 : 9 < 25 ∧ Cond.fieldLink RX9 32 (TX9 9).1 (TX9 9).2.1 (TX9 9).2.2.1 ∈ lw_tbl := ⟨by decide, (List.mem_of_getElem? (i := 933) (by decide +kernel))⟩
theorem flX9_35 : FL RX9 35 TX9 25 10 := ⟨by decide, Or.inl (List.mem_of_getElem? (i := 934) (by decide +kernel))⟩
theorem fiX9_35 : 10 < 25 ∧ Cond.fieldLink RX9 35 (TX9 10).1 (TX9 10).2.1 (TX9 10).2.2.1 ∈ lw_tbl := ⟨by decide, (List.mem_of_getElem? (i := 934) (by decide +kernel))⟩
theorem flX9_38 : FL RX9 38 TX9 25 11 := ⟨by decide, Or.inl (List.mem_of_getElem? (i := 935) (by decide +kernel))⟩
theorem fiX9_38 : 11 < 25 ∧ Cond.fieldLink RX9 38 (TX9 11).1 (TX9 11).2.1 (TX9 11).2.2.1 ∈ lw_tbl := ⟨by decide, (List.mem_of_getElem? (i := 935) (by decide +kernel))⟩
theorem flX9_41 : FL RX9 41 TX9 25 12 := ⟨by decide, Or.inl (List.mem_of_getElem? (i := 936) (by decide +kernel))⟩
theorem fiX9_41 : 12 < 25 ∧ Cond.fieldLink RX9 41 (TX9 12).1 (TX9 12).2.1 (TX9 12).2.2.1 ∈ lw_tbl := ⟨by decide, (List.mem_of_getElem? (i := 936) (by decide +kernel))⟩
theorem flX9_44 : FL RX9 44 TX9 25 13 := ⟨by decide, Or.inl (List.mem_of_getElem? (i := 937) (by decide +kernel))⟩
theorem fiX9_44 : 13 < 25 ∧ Cond.fieldLink RX9 44 (TX9 13).1 (TX9 13).2.1 (TX9 13).2.2.1 ∈ lw_tbl := ⟨by decide, (List.mem_of_getElem? (i := 937) (by decide +kernel))⟩
theorem flX9_84 : FL RX9 84 TX9 25 14 := ⟨by decide, Or.inl (List.mem_of_getElem? (i := 938) (by decide +kernel))⟩
theorem flX9_87 : FL RX9 87 TX9 25 15 := ⟨by decide, Or.inl (List.mem_of_getElem? (i := 939) (by decide +kernel))⟩
theorem flX9_48 : FL RX9 48 TX9 25 16 := ⟨by decide, Or.inl (List.mem_of_getElem? (i := 940) (by decide +kernel))⟩
theorem fiX9_48 : 16 < 25 ∧ Cond.fieldLink RX9 48 (TX9 16).1 (TX9 16).2.1 (TX9 16).2.2.1 ∈ lw_tbl := ⟨by decide, (List.mem_of_getElem? (i := 940) (by decide +kernel))⟩
theorem flX9_51 : FL RX9 51 TX9 25 17 := ⟨by decide, Or.inl (List.mem_of_getElem? (i := 941) (by decide +kernel))⟩
theorem fiX9_51 : 17 < 25 ∧ Cond.fieldLink RX9 51 (TX9 17).1 (TX9 17).2.1 (TX9 17).2.2.1 ∈ lw_tbl := ⟨by decide, (List.mem_of_getElem? (i := 941) (by decide +kernel))⟩
theorem flX9_54 : FL RX9 54 TX9 25 18 := ⟨by decide, Or.inl (List.mem_of_getElem? (i := 942) (by decide +kernel))⟩
theorem fiX9_54 : 18 < 25 ∧ Cond.fieldLink RX9 54 (TX9 18).1 (TX9 18).2.1 (TX9 18).2.2.1 ∈ lw_tbl := ⟨by decide, (List.mem_of_getElem? (i := 942) (by decide +kernel))⟩
theorem flX9_57 : FL RX9 57 TX9 25 19 := ⟨by decide, Or.inl (List.mem_of_getElem? (i := 943) (by decide +kernel))⟩
theorem fiX9_57 : 19 < 25 ∧ Cond.fieldLink RX9 57 (TX9 19).1 (TX9 19).2.1 (TX9 19).2.2.1 ∈ lw_tbl := ⟨by decide, (List.mem_of_getElem? (i := 943) (by decide +kernel))⟩
theorem flX9_60 : FL RX9 60 TX9 25 20 := ⟨by decide, Or.inl (List.mem_of_getElem? (i := 944) (by decide +kernel))⟩
theorem fiX9_60 : 20 < 25 ∧ Cond.fieldLink RX9 60 (TX9 20).1 (TX9 20).2.1 (TX9 20).2.2.1 ∈ lw_tbl := ⟨by decide, (List.mem_of_getElem? (i := 944) (by decide +kernel))⟩
theorem flX9_63 : FL RX9 63 TX9 25 21 := ⟨by decide, Or.inl (List.mem_of_getElem? (i := 945) (by decide +kernel))⟩
theorem fiX9_63 : 21 < 25 ∧ Cond.fieldLink RX9 63 (TX9 21).1 (TX9 21).2.1 (TX9 21).2.2.1 ∈ lw_tbl := ⟨by decide, (List.mem_of_getElem? (i := 945) (by decide +kernel))⟩
theorem flX9_66 : FL RX9 66 TX9 25 22 := ⟨by decide, Or.inl (List.mem_of_getElem? (i := 946) (by decide +kernel))⟩
theorem fiX9_66 : 22 < 25 ∧ Cond.fieldLink RX9 66 (TX9 22).1 (TX9 22).2.1 (TX9 22).2.2.1 ∈ lw_tbl := ⟨by decide, (List.mem_of_getElem? (i := 946) (by decide +kernel))⟩
theorem flX9_69 : FL RX9 69 TX9 25 23 := ⟨by decide, Or.inl (List.mem_of_getElem? (i := 947) (by decide +kernel))⟩
theorem fiX9_69 : 23 < 25 ∧ Cond.fieldLink RX9 69 (TX9 23).1 (TX9 23).2.1 (TX9 23).2.2.1 ∈ lw_tbl := ⟨by decide, (List.mem_of_getElem? (i := 947) (by decide +kernel))⟩
theorem flX9_90 : FL RX9 90 TX9 25 24 := ⟨by decide, Or.inl (List.mem_of_getElem? (i := 948) (by decide +kernel))⟩
theorem kstX8_131 : Cond.constant RX8 131 (100000) ∈ lw_tbl := (List.mem_of_getElem? (i := 346) (by decide +kernel))
theorem kstJ8_200 : Cond.constant RJ8 200 (2147483639) ∈ lw_tbl := (List.mem_of_getElem? (i := 424) (by decide +kernel))
theorem kstX8_119 : Cond.constantFloat RX8 119 (1148846080) ∈ lw_tbl := (List.mem_of_getElem? (i := 604) (by decide +kernel))
theorem kstX1_7 : Cond.constantDouble RX1 7 (4611686018427387904) ∈ lw_tbl := (List.mem_of_getElem? (i := 765) (by decide +kernel))
theorem kstX1_11 : Cond.constantDouble RX1 11 (4841369599423283200) ∈ lw_tbl := (List.mem_of_getElem? (i := 766) (by decide +kernel))
theorem kstX1_17 : Cond.constant RX1 17 (8388607) ∈ lw_tbl := (List.mem_of_getElem? (i := 767) (by decide +kernel))
theorem kstX9_93 : Cond.constant RX9 93 (99999) ∈ lw_tbl := (List.mem_of_getElem? (i := 1017) (by decide +kernel))
theorem kstX9_94 : Cond.constant RX9 94 (100000) ∈ lw_tbl := (List.mem_of_getElem? (i := 1018) (by decide +kernel))
theorem kstX9_130 : Cond.constantFloat RX9 130 (1148846080) ∈ lw_tbl := (List.mem_of_getElem? (i := 1075) (by decide +kernel))
theorem kstJxf58ca_77 : Cond.constant RJxf58ca 77 (2143289344) ∈ lw_tbl := (List.mem_of_getElem? (i := 1142) (by decide +kernel))
theorem kstJxe99ae_137 : Cond.constantLong RJxe99ae 137 (9221120237041090560) ∈ lw_tbl := (List.mem_of_getElem? (i := 1249) (by decide +kernel))
theorem ac_int : Cond.arrayClass (Jvm.ClassFile.FieldType.int) ∈ lw_tbl := (List.mem_of_getElem? (i := 132) (by decide +kernel))
theorem ac_byte : Cond.arrayClass (Jvm.ClassFile.FieldType.byte) ∈ lw_tbl := (List.mem_of_getElem? (i := 342) (by decide +kernel))
theorem ao_object : Cond.arrayOver (Jvm.ClassFile.FieldType.object "java/lang/Object") ∈ lw_tbl := (List.mem_of_getElem? (i := 455) (by decide +kernel))
theorem ao_int2 : Cond.arrayOver (Jvm.ClassFile.FieldType.array Jvm.ClassFile.FieldType.int) ∈ lw_tbl := (List.mem_of_getElem? (i := 921) (by decide +kernel))
theorem ao_boolean2 : Cond.arrayOver (Jvm.ClassFile.FieldType.array Jvm.ClassFile.FieldType.boolean) ∈ lw_tbl := (List.mem_of_getElem? (i := 923) (by decide +kernel))
theorem ac_boolean : Cond.arrayClass (Jvm.ClassFile.FieldType.boolean) ∈ lw_tbl := (List.mem_of_getElem? (i := 1000) (by decide +kernel))
theorem ac_float : Cond.arrayClass (Jvm.ClassFile.FieldType.float) ∈ lw_tbl := (List.mem_of_getElem? (i := 1001) (by decide +kernel))
theorem ac_char : Cond.arrayClass (Jvm.ClassFile.FieldType.char) ∈ lw_tbl := (List.mem_of_getElem? (i := 1002) (by decide +kernel))
theorem ac_long : Cond.arrayClass (Jvm.ClassFile.FieldType.long) ∈ lw_tbl := (List.mem_of_getElem? (i := 1258) (by decide +kernel))
theorem ac_double : Cond.arrayClass (Jvm.ClassFile.FieldType.double) ∈ lw_tbl := (List.mem_of_getElem? (i := 1259) (by decide +kernel))
theorem fl_empty : Cond.fieldLink RJx4a65c 39 "java/util/ArrayList" "DEFAULTCAPACITY_EMPTY_ELEMENTDATA" "[Ljava/lang/Object;" ∈ lw_tbl := (List.mem_of_getElem? (i := 93) (by decide +kernel))
theorem ktn : KTn := by
  unfold KTn
  decide +kernel
theorem ktX8_51_53_55 : KT RX8 51 53 55 "java/lang/IllegalStateException" "there are 8 keys" ["java/lang/RuntimeException", "java/lang/Exception"] := by
  unfold KT
  decide +kernel
theorem ktX8_51_93_55 : KT RX8 51 93 55 "java/lang/IllegalStateException" "there are 5 doors" ["java/lang/RuntimeException", "java/lang/Exception"] := by
  unfold KT
  decide +kernel
theorem ktX8_107_109_111 : KT RX8 107 109 111 "java/lang/IllegalArgumentException" "the thousandths are not in -500 to 500" ["java/lang/RuntimeException", "java/lang/Exception"] := by
  unfold KT
  decide +kernel
theorem ktX8_51_124_55 : KT RX8 51 124 55 "java/lang/IllegalStateException" "there are 3 phones" ["java/lang/RuntimeException", "java/lang/Exception"] := by
  unfold KT
  decide +kernel
theorem ktX8_107_129_111 : KT RX8 107 129 111 "java/lang/IllegalArgumentException" "the minutes are not in 1 to 10000" ["java/lang/RuntimeException", "java/lang/Exception"] := by
  unfold KT
  decide +kernel
theorem ktX8_107_132_111 : KT RX8 107 132 111 "java/lang/IllegalArgumentException" "the time would be greater than 100000" ["java/lang/RuntimeException", "java/lang/Exception"] := by
  unfold KT
  decide +kernel
theorem ktX8_51_175_55 : KT RX8 51 175 55 "java/lang/IllegalStateException" "there are 60 audits" ["java/lang/RuntimeException", "java/lang/Exception"] := by
  unfold KT
  decide +kernel
theorem ktX8_247_249_251 : KT RX8 247 249 251 "java/lang/ArithmeticException" "there are no audits" ["java/lang/RuntimeException", "java/lang/Exception"] := by
  unfold KT
  decide +kernel
theorem ktX8_107_264_111 : KT RX8 107 264 111 "java/lang/IllegalArgumentException" "the set of doors is not in 0 to 31" ["java/lang/RuntimeException", "java/lang/Exception"] := by
  unfold KT
  decide +kernel
theorem ktX8_107_266_111 : KT RX8 107 266 111 "java/lang/IllegalArgumentException" "the times are not in 0 to 100000, or end before they begin" ["java/lang/RuntimeException", "java/lang/Exception"] := by
  unfold KT
  decide +kernel
theorem ktX8_51_272_55 : KT RX8 51 272 55 "java/lang/IllegalStateException" "the key is revoked" ["java/lang/RuntimeException", "java/lang/Exception"] := by
  unfold KT
  decide +kernel
theorem ktX8_51_274_55 : KT RX8 51 274 55 "java/lang/IllegalStateException" "50 changes were made" ["java/lang/RuntimeException", "java/lang/Exception"] := by
  unfold KT
  decide +kernel
theorem ktX8_278_280_282 : KT RX8 278 280 282 "java/lang/IndexOutOfBoundsException" "no such door" ["java/lang/RuntimeException", "java/lang/Exception"] := by
  unfold KT
  decide +kernel
theorem ktX8_278_283_282 : KT RX8 278 283 282 "java/lang/IndexOutOfBoundsException" "no such phone" ["java/lang/RuntimeException", "java/lang/Exception"] := by
  unfold KT
  decide +kernel
theorem ktX8_247_293_251 : KT RX8 247 293 251 "java/lang/ArithmeticException" "no audit has arrived" ["java/lang/RuntimeException", "java/lang/Exception"] := by
  unfold KT
  decide +kernel
